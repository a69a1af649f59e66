/-! READING a sentence: steps and how many ONES. one: how a ONE is read, some levels deep -/
abbrev zSs : Type := sPg × Int
abbrev zRd : Type := zSs → Int → zRs (zSs × Int)
def zPu (S : zSs) (a b c : Int) : zSs := ((sUp S.1.1 S.1.2.2.2 a, sUp S.1.2.1 S.1.2.2.2 b, sUp S.1.2.2.1 S.1.2.2.2 c, S.1.2.2.2 + 1), S.2)
def zAn (κ : zKp) (one : zRd) : Nat → zRd
  | 0, S, p => .ok (S, p)
  | f + 1, S, p => if zIs κ p 17 then zBi (one S (zNx κ p)) fun x => zAn κ one f (zPu x.1 1 0 0) x.2 else .ok (S, p)
def zAl (κ : zKp) (one : zRd) : zRd := fun S p => zBi (one S p) fun x => zAn κ one 20 x.1 x.2
def zOr (κ : zKp) (one : zRd) : Nat → zRd
  | 0, S, p => .ok (S, p)
  | f + 1, S, p => if zIs κ p 16 then zBi (zAl κ one S (zNx κ p)) fun x => zOr κ one f (zPu x.1 2 0 0) x.2 else .ok (S, p)
def zCn (κ : zKp) (one : zRd) : zRd := fun S p => zBi (zAl κ one S p) fun x => zOr κ one 20 x.1 x.2
/-- which step a word begins; -1: none -/
def zSt (κ : zKp) (p : Int) : Int := if (κ p).1 = 2 ∧ 18 ≤ sTm (κ p).2.2.2 then (if sTm (κ p).2.2.2 = 18 then 0 else sTm (κ p).2.2.2 - 16) else -1
/-- by, to, is, or a measure: behind its word -/
def zAt (κ : zKp) (T : zTs) (S : zSs) (p st : Int) : zRs (zSs × Int) :=
  if st ≤ 5 then zBi (if st = 5 then zNH κ T.2.2 (T.1 1) p else zNH κ T.2.1 (T.1 0) p) fun a => .ok (zPu S st 0 a, zNx κ p)
  else if ¬ (zSg κ p 60 ∨ zSg κ p 61 ∨ zSg κ p 62) then zE κ p 1
  else if (κ (zNx κ p)).1 ≠ 3 then zE κ (zNx κ p) 1 else .ok (zPu S st (κ p).2.2.2 (κ (zNx κ p)).2.2.2, zNx κ (zNx κ p))
def zOn (κ : zKp) (T : zTs) : Nat → zRd
  | 0, _, p => if zSg κ p 40 ∨ zSt κ p ≠ -1 then zE κ p 4 else zE κ p 1
  | r + 1, S, p => if ¬ (zSg κ p 40 ∨ zSt κ p ≠ -1) then zE κ p 1 else if S.2 = 20 then zE κ p 4
    else if zSg κ p 40 then zBi (zCn κ (zOn κ T r) (S.1, S.2 + 1) (zNx κ p)) fun x => if zSg κ x.2 41 then .ok (x.1, zNx κ x.2) else zE κ x.2 1
    else if zSt κ p = 0 then zBi (zOn κ T r (S.1, S.2 + 1) (zNx κ p)) fun x => .ok (zPu x.1 0 0 0, x.2)
    else zAt κ T (S.1, S.2 + 1) (zNx κ p) (zSt κ p)
def zS0 : zSs := ((fun _ => 0, fun _ => 0, fun _ => 0, 0), 0)
def zSn (κ : zKp) (T : zTs) : zRs zSs := zBi (zCn κ (zOn κ T 8) zS0 0) fun x => if (κ x.2).1 = 0 then .ok x.1 else zE κ x.2 1
/-- what a sentence that is being read is worth; k ONES have no step yet -/
def zSi (k : Int) (S : zSs) : Prop := 0 ≤ k ∧ S.2 ≤ 20 ∧ (S.1.2.2.2 : Int) + (sRt S.1.1 S.1.2.2.2).length ≤ 2 * (S.2 - k) ∧ (∀ i : Nat, i ≤ S.1.2.2.2 → ((sRt S.1.1 i).length : Int) ≤ S.2 - k) ∧
  ∀ i : Nat, i < S.1.2.2.2 → (0 ≤ S.1.1 i ∧ S.1.1 i ≤ 9) ∧ (S.1.1 i = 0 → 1 ≤ (sRt S.1.1 i).length) ∧ (S.1.1 i = 1 ∨ S.1.1 i = 2 → 2 ≤ (sRt S.1.1 i).length) ∧ (3 ≤ S.1.1 i → S.1.1 i ≤ 5 → 0 ≤ S.1.2.2.1 i)
theorem zSi_0 : zSi 0 zS0 := ⟨by decide, by decide, by decide, fun i hi => by have : i = 0 := Nat.le_zero.mp hi; subst this; decide, fun i hi => absurd hi (Nat.not_lt_zero i)⟩
theorem zSi.dn {k : Int} {S : zSs} (h : zSi (k + 1) S) (k0 : 0 ≤ k) : zSi k S := ⟨k0, h.2.1, by have := h.2.2.1; omega, fun i hi => by have := h.2.2.2.1 i hi; omega, h.2.2.2.2⟩
theorem zSi.up {k : Int} {S : zSs} (h : zSi k S) (h20 : S.2 ≠ 20) : zSi (k + 1) (S.1, S.2 + 1) := by
  have h0 := h.1
  have h1 := h.2.1
  have h2 := h.2.2.1
  refine ⟨by omega, by show S.2 + 1 ≤ 20; omega, by dsimp only; omega, fun i hi => ?_, h.2.2.2.2⟩
  have := h.2.2.2.1 i hi
  dsimp only
  omega
theorem zSi.b {k : Int} {S : zSs} (h : zSi k S) : 0 ≤ S.2 - k ∧ S.1.2.2.2 ≤ 40 := by
  have h0 := h.1
  have h1 := h.2.1
  have h2 := h.2.2.1
  have h3 := h.2.2.2.1 0 (Nat.zero_le _)
  exact ⟨by omega, by omega⟩
theorem zSi.wp {k : Int} {S : zSs} (h : zSi k S) : sWp S.1 := ⟨h.b.2, h.2.2.2.2, fun i hi => by have h0 := h.1; have h1 := h.2.1; have := h.2.2.2.1 i hi; omega⟩
theorem sRt_ext {op op' : Int → Int} : ∀ i : Nat, (∀ j : Nat, j < i → op' j = op j) → sRt op' i = sRt op i
  | 0, _ => rfl
  | i + 1, h => by
    unfold sRt
    rw [sRt_ext i (fun j hj => h j (by omega)), h i (by omega)]
theorem sRt_p {op : Int → Int} {n : Nat} {a : Int} : sRt (sUp op n a) (n + 1) = if a = 0 then n :: (sRt op n).tail else if a = 1 ∨ a = 2 then n :: (sRt op n).tail.tail else n :: sRt op n := by
  rw [sRt, sRt_ext (op := op) n (fun j hj => sUp_ne (by omega)), sUp_at]
theorem zPu_g {k k' : Int} {S : zSs} {a b c : Int} {R : List Nat} (h : zSi k' S) (k0 : 0 ≤ k) (kk : k ≤ k') (hr : sRt (sUp S.1.1 S.1.2.2.2 a) (S.1.2.2.2 + 1) = R) (l1 : (S.1.2.2.2 : Int) + 1 + R.length ≤ 2 * (S.2 - k)) (l2 : (R.length : Int) ≤ S.2 - k) (ha : (0 ≤ a ∧ a ≤ 9) ∧ (a = 0 → 1 ≤ (sRt S.1.1 S.1.2.2.2).length) ∧ (a = 1 ∨ a = 2 → 2 ≤ (sRt S.1.1 S.1.2.2.2).length) ∧ (3 ≤ a → a ≤ 5 → 0 ≤ c)) : zSi k (zPu S a b c) ∧ sRt (zPu S a b c).1.1 (zPu S a b c).1.2.2.2 = R := by
  obtain ⟨⟨op, sg, vl, n⟩, o⟩ := S
  obtain ⟨h0, h1, h2, h3, h4⟩ := h
  dsimp only at hr l1 l2 ha h1 h2 h3 h4
  have ex : ∀ i : Nat, i ≤ n → sRt (sUp op n a) i = sRt op i := fun i hi => sRt_ext i (fun j hj => sUp_ne (by omega))
  unfold zSi zPu
  dsimp only
  refine ⟨⟨k0, h1, ?_, fun i hi => ?_, fun i hi => ?_⟩, hr⟩
  · rw [hr]; omega
  · by_cases q : i = n + 1
    · rw [q, hr]; exact l2
    · rw [ex i (by omega)]
      have := h3 i (by omega)
      omega
  · by_cases q : i = n
    · rw [q, ex n (Nat.le_refl _), sUp_at, sUp_at]; exact ha
    · rw [ex i (by omega), sUp_ne (show (i : Int) ≠ n by omega), sUp_ne (show (i : Int) ≠ n by omega)]
      exact h4 i (by omega)
theorem zPu_a {k : Int} {S : zSs} {a b c : Int} (h : zSi (k + 1) S) (k0 : 0 ≤ k) (a3 : 3 ≤ a) (a9 : a ≤ 9) (hc : a ≤ 5 → 0 ≤ c) : zSi k (zPu S a b c) ∧ sRt (zPu S a b c).1.1 (zPu S a b c).1.2.2.2 = S.1.2.2.2 :: sRt S.1.1 S.1.2.2.2 := by
  have h2 := h.2.2.1
  have h3 := h.2.2.2.1 S.1.2.2.2 (Nat.le_refl _)
  refine zPu_g h k0 (by omega) ?_ ?_ ?_ ⟨by omega, fun z => by omega, fun z => by omega, fun _ => hc⟩
  · rw [sRt_p, if_neg (by omega), if_neg (by omega)]
  · rw [List.length_cons]; omega
  · rw [List.length_cons]; omega
theorem zPu_n {k : Int} {S : zSs} (h : zSi (k + 1) S) (k0 : 0 ≤ k) (l : 1 ≤ (sRt S.1.1 S.1.2.2.2).length) : zSi k (zPu S 0 0 0) ∧ sRt (zPu S 0 0 0).1.1 (zPu S 0 0 0).1.2.2.2 = S.1.2.2.2 :: (sRt S.1.1 S.1.2.2.2).tail := by
  have h2 := h.2.2.1
  have h3 := h.2.2.2.1 S.1.2.2.2 (Nat.le_refl _)
  refine zPu_g h k0 (by omega) ?_ ?_ ?_ ⟨by omega, fun _ => l, fun z => by omega, fun z => by omega⟩
  · rw [sRt_p, if_pos rfl]
  · rw [List.length_cons, List.length_tail]; omega
  · rw [List.length_cons, List.length_tail]; omega
theorem zPu_b {k : Int} {S : zSs} {a : Int} (h : zSi k S) (ha : a = 1 ∨ a = 2) (l : 2 ≤ (sRt S.1.1 S.1.2.2.2).length) : zSi k (zPu S a 0 0) ∧ sRt (zPu S a 0 0).1.1 (zPu S a 0 0).1.2.2.2 = S.1.2.2.2 :: (sRt S.1.1 S.1.2.2.2).tail.tail := by
  have h0 := h.1
  have h2 := h.2.2.1
  have h3 := h.2.2.2.1 S.1.2.2.2 (Nat.le_refl _)
  refine zPu_g h h0 (by omega) ?_ ?_ ?_ ⟨by omega, fun z => by omega, fun _ => l, fun z => by omega⟩
  · rw [sRt_p, if_neg (by omega), if_pos ha]
  · rw [List.length_cons, List.length_tail, List.length_tail]; omega
  · rw [List.length_cons, List.length_tail, List.length_tail]; omega
/-- what a reading of a ONE does -/
def zGo (one : zRd) : Prop := ∀ (k : Int) (S : zSs) (p : Int) (x : zSs × Int), zSi k S → one S p = .ok x → zSi k x.1 ∧ 0 < x.1.1.2.2.2 ∧ S.2 < x.1.2 ∧ sRt x.1.1.1 x.1.1.2.2.2 = (x.1.1.2.2.2 - 1) :: sRt S.1.1 S.1.2.2.2
theorem zPu_b2 {k : Int} {S : zSs} {a : Int} {r : Nat} {R : List Nat} (h : zSi k S) (ha : a = 1 ∨ a = 2) (hr : sRt S.1.1 S.1.2.2.2 = (S.1.2.2.2 - 1) :: r :: R) : zSi k (zPu S a 0 0) ∧ 0 < (zPu S a 0 0).1.2.2.2 ∧ sRt (zPu S a 0 0).1.1 (zPu S a 0 0).1.2.2.2 = ((zPu S a 0 0).1.2.2.2 - 1) :: R := by
  have b := zPu_b h ha (by rw [hr]; simp)
  rw [hr] at b
  exact ⟨b.1, Nat.succ_pos _, b.2⟩
theorem zAn_go {κ : zKp} {one : zRd} (hg : zGo one) : ∀ (f : Nat) (k : Int) (S : zSs) (p : Int) (x : zSs × Int) (R : List Nat), zSi k S → 0 < S.1.2.2.2 → sRt S.1.1 S.1.2.2.2 = (S.1.2.2.2 - 1) :: R → zAn κ one f S p = .ok x → zSi k x.1 ∧ 0 < x.1.1.2.2.2 ∧ S.2 ≤ x.1.2 ∧ sRt x.1.1.1 x.1.1.2.2.2 = (x.1.1.2.2.2 - 1) :: R
  | 0, k, S, p, x, R, h, hn, hr, hx => by cases hx; exact ⟨h, hn, Int.le_refl _, hr⟩
  | f + 1, k, S, p, x, R, h, hn, hr, hx => by
    rw [zAn] at hx
    by_cases q : zIs κ p 17
    · rw [if_pos q] at hx
      cases hy : one S (zNx κ p) with
      | error e => rw [zBi_e hy] at hx; cases hx
      | ok y =>
        rw [zBi_o hy] at hx
        obtain ⟨y1, y2, y3, y4⟩ := hg k S _ y h hy
        rw [hr] at y4
        have b := zPu_b2 (a := 1) y1 (Or.inl rfl) y4
        have r := zAn_go hg f k _ y.2 x R b.1 b.2.1 b.2.2 hx
        exact ⟨r.1, r.2.1, Int.le_trans (Int.le_of_lt y3) r.2.2.1, r.2.2.2⟩
    · rw [if_neg q] at hx
      cases hx; exact ⟨h, hn, Int.le_refl _, hr⟩
theorem zAl_go {κ : zKp} {one : zRd} (hg : zGo one) : zGo (zAl κ one) := by
  intro k S p x h hx
  unfold zAl at hx
  cases hy : one S p with
  | error e => rw [zBi_e hy] at hx; cases hx
  | ok y =>
    rw [zBi_o hy] at hx
    obtain ⟨y1, y2, y3, y4⟩ := hg k S _ y h hy
    have r := zAn_go hg 20 k _ _ x _ y1 y2 y4 hx
    exact ⟨r.1, r.2.1, Int.lt_of_lt_of_le y3 r.2.2.1, r.2.2.2⟩
theorem zOr_go {κ : zKp} {one : zRd} (hg : zGo one) : ∀ (f : Nat) (k : Int) (S : zSs) (p : Int) (x : zSs × Int) (R : List Nat), zSi k S → 0 < S.1.2.2.2 → sRt S.1.1 S.1.2.2.2 = (S.1.2.2.2 - 1) :: R → zOr κ one f S p = .ok x → zSi k x.1 ∧ 0 < x.1.1.2.2.2 ∧ S.2 ≤ x.1.2 ∧ sRt x.1.1.1 x.1.1.2.2.2 = (x.1.1.2.2.2 - 1) :: R
  | 0, k, S, p, x, R, h, hn, hr, hx => by cases hx; exact ⟨h, hn, Int.le_refl _, hr⟩
  | f + 1, k, S, p, x, R, h, hn, hr, hx => by
    rw [zOr] at hx
    by_cases q : zIs κ p 16
    · rw [if_pos q] at hx
      cases hy : zAl κ one S (zNx κ p) with
      | error e => rw [zBi_e hy] at hx; cases hx
      | ok y =>
        rw [zBi_o hy] at hx
        obtain ⟨y1, y2, y3, y4⟩ := zAl_go hg k S _ y h hy
        rw [hr] at y4
        have b := zPu_b2 (a := 2) y1 (Or.inr rfl) y4
        have r := zOr_go hg f k _ y.2 x R b.1 b.2.1 b.2.2 hx
        exact ⟨r.1, r.2.1, Int.le_trans (Int.le_of_lt y3) r.2.2.1, r.2.2.2⟩
    · rw [if_neg q] at hx
      cases hx; exact ⟨h, hn, Int.le_refl _, hr⟩
theorem zCn_go {κ : zKp} {one : zRd} (hg : zGo one) : zGo (zCn κ one) := by
  intro k S p x h hx
  unfold zCn at hx
  cases hy : zAl κ one S p with
  | error e => rw [zBi_e hy] at hx; cases hx
  | ok y =>
    rw [zBi_o hy] at hx
    obtain ⟨y1, y2, y3, y4⟩ := zAl_go hg k S _ y h hy
    have r := zOr_go hg 20 k _ _ x _ y1 y2 y4 hx
    exact ⟨r.1, r.2.1, Int.lt_of_lt_of_le y3 r.2.2.1, r.2.2.2⟩
theorem zSt_in {κ : zKp} {p : Int} : zSt κ p = -1 ∨ zSt κ p = 0 ∨ 3 ≤ zSt κ p ∧ zSt κ p ≤ 9 := by
  have t := sTm_in (v := (κ p).2.2.2)
  unfold zSt
  split
  · split <;> omega
  · exact Or.inl rfl
theorem zAt_go {κ : zKp} {T : zTs} {k : Int} {S : zSs} {p st : Int} {x : zSs × Int} (hW : sWR T.1) (h : zSi (k + 1) S) (k0 : 0 ≤ k) (s3 : 3 ≤ st) (s9 : st ≤ 9) (hx : zAt κ T S p st = .ok x) : zSi k x.1 ∧ 0 < x.1.1.2.2.2 ∧ S.2 ≤ x.1.2 ∧ sRt x.1.1.1 x.1.1.2.2.2 = (x.1.1.2.2.2 - 1) :: sRt S.1.1 S.1.2.2.2 := by
  unfold zAt at hx
  by_cases s5 : st ≤ 5
  · rw [if_pos s5] at hx
    have key : ∀ y : zRs Int, (∀ a, y = .ok a → 0 ≤ a) → (zBi y fun a => (.ok (zPu S st 0 a, zNx κ p) : zRs (zSs × Int))) = .ok x → zSi k x.1 ∧ 0 < x.1.1.2.2.2 ∧ S.2 ≤ x.1.2 ∧ sRt x.1.1.1 x.1.1.2.2.2 = (x.1.1.2.2.2 - 1) :: sRt S.1.1 S.1.2.2.2 := by
      intro y hy hx
      cases y with
      | error e => cases hx
      | ok a =>
        have b := zPu_a (b := 0) (c := a) h k0 s3 s9 (fun _ => hy a rfl)
        cases hx
        exact ⟨b.1, Nat.succ_pos _, Int.le_refl _, b.2⟩
    refine key _ (fun a ha => ?_) hx
    by_cases e5 : st = 5
    · rw [if_pos e5] at ha; exact (zNH_in hW.2.2.1 ha).1
    · rw [if_neg e5] at ha; exact (zNH_in hW.1 ha).1
  · rw [if_neg s5] at hx
    by_cases q : ¬ (zSg κ p 60 ∨ zSg κ p 61 ∨ zSg κ p 62)
    · rw [if_pos q] at hx; cases hx
    · rw [if_neg q] at hx
      by_cases q3 : (κ (zNx κ p)).1 ≠ 3
      · rw [if_pos q3] at hx; cases hx
      · rw [if_neg q3] at hx
        have b := zPu_a (b := (κ p).2.2.2) (c := (κ (zNx κ p)).2.2.2) h k0 s3 s9 (fun z => absurd z s5)
        cases hx
        exact ⟨b.1, Nat.succ_pos _, Int.le_refl _, b.2⟩
theorem zOn_go {κ : zKp} {T : zTs} (hW : sWR T.1) : ∀ r : Nat, zGo (zOn κ T r)
  | 0 => by
    intro k S p x h hx
    rw [zOn] at hx
    split at hx <;> cases hx
  | r + 1 => by
    intro k S p x h hx
    have ih := zOn_go (κ := κ) hW r
    rw [zOn] at hx
    by_cases c1 : ¬ (zSg κ p 40 ∨ zSt κ p ≠ -1)
    · rw [if_pos c1] at hx; cases hx
    · rw [if_neg c1] at hx
      by_cases c2 : S.2 = 20
      · rw [if_pos c2] at hx; cases hx
      · rw [if_neg c2] at hx
        have up := h.up c2
        have k0 := h.1
        by_cases c3 : zSg κ p 40
        · rw [if_pos c3] at hx
          cases hy : zCn κ (zOn κ T r) (S.1, S.2 + 1) (zNx κ p) with
          | error e => rw [zBi_e hy] at hx; cases hx
          | ok y =>
            rw [zBi_o hy] at hx
            obtain ⟨y1, y2, y3, y4⟩ := zCn_go ih (k + 1) _ _ y up hy
            have y3' : S.2 + 1 < y.1.2 := y3
            by_cases c4 : zSg κ y.2 41
            · rw [if_pos c4] at hx; cases hx; exact ⟨y1.dn k0, y2, by show S.2 < y.1.2; omega, y4⟩
            · rw [if_neg c4] at hx; cases hx
        · rw [if_neg c3] at hx
          by_cases c4 : zSt κ p = 0
          · rw [if_pos c4] at hx
            cases hy : zOn κ T r (S.1, S.2 + 1) (zNx κ p) with
            | error e => rw [zBi_e hy] at hx; cases hx
            | ok y =>
              rw [zBi_o hy] at hx
              obtain ⟨y1, y2, y3, y4⟩ := ih (k + 1) _ _ y up hy
              have y3' : S.2 + 1 < y.1.2 := y3
              have b := zPu_n y1 k0 (by rw [y4]; simp)
              rw [y4] at b
              cases hx
              exact ⟨b.1, Nat.succ_pos _, by show S.2 < y.1.2; omega, b.2⟩
          · rw [if_neg c4] at hx
            have hs : zSt κ p ≠ -1 := by
              have := Decidable.not_not.mp c1
              exact this.resolve_left c3
            have hi := zSt_in (κ := κ) (p := p)
            have r := zAt_go hW up k0 (by omega) (by omega) hx
            have r3 : S.2 + 1 ≤ x.1.2 := r.2.2.1
            exact ⟨r.1, r.2.1, by omega, r.2.2.2⟩
