/-! a table's lines, read -/
def pKn (k : Int) : Int := if k = 0 then 17 else if k = 1 then 25 else if k = 2 then 14 else if k = 3 then 11 else if k = 4 then 24 else if k = 5 then 6 else 19
def pOp (op k : Int) : Int := if k = 0 then 1 else if k = 6 then op else 0
def pDo (k : Int) : Int := if k < 6 then k + 1 else 0
def pDu (sp k : Int) : Int := if k = 1 then sp else 0
theorem zFd_no {g : Int → Int} {v : Int} : ∀ (m : Nat) (i : Int), (∀ j, i ≤ j → j < i + (m : Int) → g j ≠ v) → zFd g v m i = -1
  | 0, _, _ => rfl
  | m + 1, i, h => by
    unfold zFd
    rw [if_neg (h i (Int.le_refl _) (by omega))]
    exact zFd_no m (i + 1) (fun j h1 h2 => h j (by omega) (by omega))
theorem zFd_is {g : Int → Int} {v k : Int} (hk : g k = v) : ∀ (m : Nat) (i : Int), i ≤ k → k < i + (m : Int) → (∀ j, i ≤ j → j < k → g j ≠ v) → zFd g v m i = k
  | 0, i, h1, h2, _ => absurd h2 (by omega)
  | m + 1, i, h1, h2, h3 => by
    unfold zFd
    by_cases e : i = k
    · rw [e, if_pos hk]
    · rw [if_neg (h3 i (Int.le_refl _) (by omega))]
      exact zFd_is hk m (i + 1) (by omega) (by omega) (fun j q1 q2 => h3 j (by omega) q2)
theorem pKn_in {k : Int} (h0 : 0 ≤ k) (h1 : k < 7) : 6 ≤ pKn k ∧ pKn k ≤ 25 ∧ sTm (pKn k) = 0 := by
  have h : ∀ q : Fin 7, 6 ≤ pKn ((q.1 : Nat) : Int) ∧ pKn ((q.1 : Nat) : Int) ≤ 25 ∧ sTm (pKn ((q.1 : Nat) : Int)) = 0 := by decide +kernel
  have := h ⟨k.toNat, by omega⟩
  rwa [show ((k.toNat : Nat) : Int) = k by omega] at this
theorem pKn_inj {i k : Int} (i0 : 0 ≤ i) (i1 : i < 7) (k0 : 0 ≤ k) (k1 : k < 7) (h : i ≠ k) : pKn i ≠ pKn k := by
  have g : ∀ a b : Fin 7, a ≠ b → pKn ((a.1 : Nat) : Int) ≠ pKn ((b.1 : Nat) : Int) := by decide +kernel
  have := g ⟨i.toNat, by omega⟩ ⟨k.toNat, by omega⟩ (fun e => h (by have := congrArg Fin.val e; simp at this; omega))
  rwa [show ((i.toNat : Nat) : Int) = i by omega, show ((k.toNat : Nat) : Int) = k by omega] at this
/-- names told so far -/
def pS (T : zTs) (W j : Int) : Prop := T.1 0 = W ∧ T.1 1 = j ∧ (∀ i, 0 ≤ i → i < W → T.2.1 i = i + 1) ∧ ∀ i, 0 ≤ i → i < j → T.2.2 i = pKn i
section PL
variable {κ : zKp} {T : zTs} {p q W j : Int}
theorem zNu_ok {lo hi v : Int} (h1 : (κ p).1 = 3) (h2 : (κ p).2.2.2 = v) (h3 : lo ≤ v) (h4 : v ≤ hi) : zNu κ p lo hi = .ok v := by
  unfold zNu
  rw [if_neg (fun z => z h1), h2, if_pos ⟨h3, h4⟩]
theorem zNN_new {v : Int} (hS : pS T W j) (hs : (κ p).1 = 2) (hv : (κ p).2.2.2 = v) (ht : sTm v = 0) (hw : ∀ i, 0 ≤ i → i < W → i + 1 ≠ v) (hk : ∀ i, 0 ≤ i → i < j → pKn i ≠ v) (W0 : 0 ≤ W) (j0 : 0 ≤ j) : zNN κ T p = .ok v := by
  obtain ⟨s1, s2, s3, s4⟩ := hS
  have e1 : zFd T.2.1 v (T.1 0).toNat 0 = -1 := zFd_no _ 0 (fun i i0 i1 => by rw [s3 i i0 (by omega)]; exact hw i i0 (by omega))
  have e2 : zFd T.2.2 v (T.1 1).toNat 0 = -1 := zFd_no _ 0 (fun i i0 i1 => by rw [s4 i i0 (by omega)]; exact hk i i0 (by omega))
  unfold zNN
  rw [if_neg (fun z => z ⟨hs, by rw [hv]; exact ht⟩), hv, e1, e2, if_neg (fun z => z.elim (fun q => q rfl) (fun q => q rfl))]
/-- a line ends -/
theorem zRl_of {T' : zTs} {p3 : Int} (h : zRl1 κ T p = .ok (T', p3)) (h1 : (κ p3).1 = 4) (h2 : (κ p3).2.2.2 = 59) : zRl κ T p = .ok (T', zNx κ p3) := by
  unfold zRl
  rw [zBi_o h, if_pos ⟨h1, h2⟩]
theorem zRl_who {r : Int} (hS : pS T W 0) (W0 : 0 ≤ W) (W2 : W ≤ 2) (r1 : 1 ≤ r) (r6 : r ≤ 6) (hc : pCh κ [(2, 23823), (2, W + 1), (3, r), (4, 59)] p q) : ∃ T', zRl κ T p = .ok (T', q) ∧ pS T' (W + 1) 0 ∧ T'.1 = sUp (sUp T.1 (12 + W) r) 0 (W + 1) := by
  obtain ⟨a1, a2, b1, b2, c1, c2, d1, d2, e⟩ := hc
  have ht : sTm (W + 1) = 0 := by
    rcases (show W = 0 ∨ W = 1 ∨ W = 2 by omega) with rfl | rfl | rfl <;> decide +kernel
  have hn := zNN_new (v := W + 1) hS b1 b2 ht (fun i i0 i1 => by omega) (fun i i0 i1 => absurd i1 (by omega)) W0 (Int.le_refl _)
  have h1 : zRl1 κ T p = .ok ((sUp (sUp T.1 (12 + T.1 0) r) 0 (T.1 0 + 1), sUp T.2.1 (T.1 0) (W + 1), T.2.2), zNx κ (zNx κ (zNx κ p))) := by
    unfold zRl1
    rw [if_pos ⟨a1, by rw [a2]; decide +kernel⟩]
    unfold zRw
    rw [if_neg (by rw [hS.1]; omega), zBi_o hn, zBi_o (zNu_ok c1 c2 r1 r6)]
  refine ⟨_, by rw [← e]; exact zRl_of h1 d1 d2, ?_, by rw [hS.1]⟩
  obtain ⟨s1, s2, s3, s4⟩ := hS
  refine ⟨by show sUp (sUp T.1 (12 + T.1 0) r) 0 (T.1 0 + 1) 0 = W + 1; rw [sUp_at, s1], ?_, fun i i0 i1 => ?_, fun i i0 i1 => absurd i1 (by omega)⟩
  · show sUp (sUp T.1 (12 + T.1 0) r) 0 (T.1 0 + 1) 1 = 0
    rw [sUp_ne (by decide), sUp_ne (by omega)]
    exact s2
  · show sUp T.2.1 (T.1 0) (W + 1) i = i + 1
    rw [s1]
    by_cases e : i = W
    · rw [e, sUp_at]
    · rw [sUp_ne e]
      exact s3 i i0 (by omega)
/-- a kind's line, by what stands behind the name -/
theorem zRl_kind {a b c p3 : Int} (hS : pS T W j) (W0 : 0 ≤ W) (W3 : W ≤ 3) (j0 : 0 ≤ j) (j6 : j ≤ 6) (a1 : (κ p).1 = 2) (a2 : (κ p).2.2.2 = 370116) (b1 : (κ (zNx κ p)).1 = 2) (b2 : (κ (zNx κ p)).2.2.2 = pKn j)
    (hr : zRk2 κ T (pKn j) (zOo κ (zNx κ (zNx κ p))) (if zOo κ (zNx κ (zNx κ p)) = 0 then zNx κ (zNx κ p) else zNx κ (zNx κ (zNx κ p))) = .ok ((zKd T.1 a b c, T.2.1, sUp T.2.2 (T.1 1) (pKn j)), p3)) (d1 : (κ p3).1 = 4) (d2 : (κ p3).2.2.2 = 59) (e : zNx κ p3 = q) :
    ∃ T', zRl κ T p = .ok (T', q) ∧ pS T' W (j + 1) ∧ T'.1 = zKd T.1 a b c := by
  have hk := pKn_in j0 (show j < 7 by omega)
  have hn := zNN_new (v := pKn j) hS b1 b2 hk.2.2 (fun i i0 i1 => by omega) (fun i i0 i1 => pKn_inj i0 (by omega) j0 (by omega) (by omega)) W0 j0
  have h1 : zRl1 κ T p = .ok ((zKd T.1 a b c, T.2.1, sUp T.2.2 (T.1 1) (pKn j)), p3) := by
    unfold zRl1
    rw [if_neg (fun z => absurd z.2 (by rw [a2]; decide +kernel)), if_pos ⟨a1, by rw [a2]; decide +kernel⟩]
    unfold zRk1
    rw [if_neg (by rw [hS.2.1]; omega), zBi_o hn]
    exact hr
  refine ⟨_, by rw [← e]; exact zRl_of h1 d1 d2, ?_, rfl⟩
  obtain ⟨s1, s2, s3, s4⟩ := hS
  refine ⟨?_, ?_, s3, fun i i0 i1 => ?_⟩
  · show zKd T.1 a b c 0 = W
    unfold zKd
    rw [sUp_ne (by decide), sUp_ne (by omega), sUp_ne (by omega), sUp_ne (by omega), sUp_ne (by omega)]
    exact s1
  · show zKd T.1 a b c 1 = j + 1
    unfold zKd
    rw [sUp_at, s2]
  · show sUp T.2.2 (T.1 1) (pKn j) i = pKn i
    rw [s2]
    by_cases e : i = j
    · rw [e, sUp_at]
    · rw [sUp_ne e]
      exact s4 i i0 (by omega)
theorem zOo_w {t : Int} (h1 : (κ p).1 = 2) (h2 : sTm (κ p).2.2.2 = t) : zOo κ p = if t = 7 then 1 else if t = 8 then 2 else 0 := by
  unfold zOo
  by_cases e : t = 7
  · rw [if_pos ⟨h1, h2.trans e⟩, if_pos e]
  · rw [if_neg (fun z => e (h2.symm.trans z.2)), if_neg e]
    by_cases e2 : t = 8
    · rw [if_pos ⟨h1, h2.trans e2⟩, if_pos e2]
    · rw [if_neg (fun z => e2 (h2.symm.trans z.2)), if_neg e2]
theorem zOo_s (h1 : (κ p).1 = 4) : zOo κ p = 0 := by
  unfold zOo
  rw [if_neg (fun z => by have := z.1; omega), if_neg (fun z => by have := z.1; omega)]
theorem zDD_w {t : Int} (h1 : (κ p).1 = 2) (h2 : sTm (κ p).2.2.2 = t) (h3 : 9 ≤ t) (h4 : t ≤ 14) : zDD κ p = t - 8 := by
  unfold zDD
  rw [h2, if_pos ⟨h1, h3, h4⟩]
theorem zDD_s (h1 : (κ p).1 = 4) : zDD κ p = 0 := by
  unfold zDD
  rw [if_neg (fun z => by have := z.1; omega)]
/-- no more than the name -/
theorem zRl_kA (hS : pS T W j) (W0 : 0 ≤ W) (W3 : W ≤ 3) (j0 : 0 ≤ j) (j6 : j ≤ 6) (hc : pCh κ [(2, 370116), (2, pKn j), (4, 59)] p q) : ∃ T', zRl κ T p = .ok (T', q) ∧ pS T' W (j + 1) ∧ T'.1 = zKd T.1 0 0 0 := by
  obtain ⟨a1, a2, b1, b2, d1, d2, e⟩ := hc
  refine zRl_kind hS W0 W3 j0 j6 a1 a2 b1 b2 (p3 := zNx κ (zNx κ p)) ?_ d1 d2 e
  rw [zOo_s d1, if_pos rfl]
  unfold zRk2
  rw [if_pos (zDD_s d1)]
/-- where it opens -/
theorem zRl_kB {o v : Int} (hS : pS T W j) (W0 : 0 ≤ W) (W3 : W ≤ 3) (j0 : 0 ≤ j) (j6 : j ≤ 6) (ho : o = 1 ∧ sTm v = 7 ∨ o = 2 ∧ sTm v = 8) (hc : pCh κ [(2, 370116), (2, pKn j), (2, v), (4, 59)] p q) : ∃ T', zRl κ T p = .ok (T', q) ∧ pS T' W (j + 1) ∧ T'.1 = zKd T.1 o 0 0 := by
  obtain ⟨a1, a2, b1, b2, c1, c2, d1, d2, e⟩ := hc
  refine zRl_kind hS W0 W3 j0 j6 a1 a2 b1 b2 (p3 := zNx κ (zNx κ (zNx κ p))) ?_ d1 d2 e
  have e1 : zOo κ (zNx κ (zNx κ p)) = o := by
    rcases ho with ⟨rfl, h⟩ | ⟨rfl, h⟩
    · exact (zOo_w (t := 7) c1 (by rw [c2]; exact h)).trans (by decide)
    · exact (zOo_w (t := 8) c1 (by rw [c2]; exact h)).trans (by decide)
  rw [e1, if_neg (by omega)]
  unfold zRk2
  rw [if_pos (zDD_s d1)]
/-- what it does -/
theorem zRl_kC {t v : Int} (hS : pS T W j) (W0 : 0 ≤ W) (W3 : W ≤ 3) (j0 : 0 ≤ j) (j6 : j ≤ 6) (ht : sTm v = t) (t0 : 11 ≤ t) (t1 : t ≤ 14) (hc : pCh κ [(2, 370116), (2, pKn j), (2, v), (4, 59)] p q) : ∃ T', zRl κ T p = .ok (T', q) ∧ pS T' W (j + 1) ∧ T'.1 = zKd T.1 0 (t - 8) 0 := by
  obtain ⟨a1, a2, b1, b2, c1, c2, d1, d2, e⟩ := hc
  refine zRl_kind hS W0 W3 j0 j6 a1 a2 b1 b2 (p3 := zNx κ (zNx κ (zNx κ p))) ?_ d1 d2 e
  have h2 : sTm (κ (zNx κ (zNx κ p))).2.2.2 = t := by rw [c2]; exact ht
  have e1 : zOo κ (zNx κ (zNx κ p)) = 0 := by rw [zOo_w c1 h2, if_neg (by omega), if_neg (by omega)]
  rw [e1, if_pos rfl]
  unfold zRk2
  rw [zDD_w c1 h2 (by omega) t1, if_neg (by omega), if_pos (by omega)]
theorem zRl_kD {c : Int} (hS : pS T W j) (W0 : 0 ≤ W) (W3 : W ≤ 3) (j0 : 0 ≤ j) (j6 : j ≤ 6) (c0 : 1 ≤ c) (c9 : c ≤ 99) (hc : pCh κ [(2, 370116), (2, pKn j), (2, 253803155), (3, c), (4, 59)] p q) : ∃ T', zRl κ T p = .ok (T', q) ∧ pS T' W (j + 1) ∧ T'.1 = zKd T.1 0 2 c := by
  obtain ⟨a1, a2, b1, b2, g1, g2, n1, n2, d1, d2, e⟩ := hc
  refine zRl_kind hS W0 W3 j0 j6 a1 a2 b1 b2 (p3 := zNx κ (zNx κ (zNx κ (zNx κ p)))) ?_ d1 d2 e
  have h2 : sTm (κ (zNx κ (zNx κ p))).2.2.2 = 10 := by rw [g2]; decide +kernel
  have e1 : zOo κ (zNx κ (zNx κ p)) = 0 := by rw [zOo_w g1 h2]; rfl
  have e2 : zDD κ (zNx κ (zNx κ p)) = 2 := zDD_w g1 h2 (by decide) (by decide)
  rw [e1, if_pos rfl]
  unfold zRk2
  rw [e2, if_neg (by decide), if_neg (fun z => z rfl), zBi_o (zNu_ok n1 n2 c0 c9)]
theorem zRl_kE (hS : pS T W j) (W0 : 0 ≤ W) (W3 : W ≤ 3) (j0 : 0 ≤ j) (j6 : j ≤ 6) (hc : pCh κ [(2, 370116), (2, pKn j), (2, 16258515), (2, 52595), (4, 59)] p q) : ∃ T', zRl κ T p = .ok (T', q) ∧ pS T' W (j + 1) ∧ T'.1 = zKd T.1 1 1 0 := by
  obtain ⟨a1, a2, b1, b2, c1, c2, g1, g2, d1, d2, e⟩ := hc
  refine zRl_kind hS W0 W3 j0 j6 a1 a2 b1 b2 (p3 := zNx κ (zNx κ (zNx κ (zNx κ p)))) ?_ d1 d2 e
  have h2 : sTm (κ (zNx κ (zNx κ p))).2.2.2 = 7 := by rw [c2]; decide +kernel
  have h3 : sTm (κ (zNx κ (zNx κ (zNx κ p)))).2.2.2 = 9 := by rw [g2]; decide +kernel
  have e1 : zOo κ (zNx κ (zNx κ p)) = 1 := by rw [zOo_w c1 h2]; rfl
  have e2 : zDD κ (zNx κ (zNx κ (zNx κ p))) = 1 := zDD_w g1 h3 (by decide) (by decide)
  rw [e1, if_neg (by decide)]
  unfold zRk2
  rw [e2, if_neg (by decide), if_pos (by decide)]
/-! comb, by ranks, twice, may -/
theorem zRl_c1 {c : Int} (h3 : T.1 3 = 0) (c0 : 1 ≤ c) (c6 : c ≤ 6) (hc : pCh κ [(2, 114082), (3, c), (4, 59)] p q) : zRl κ T p = .ok ((sUp (sUp T.1 6 c) 3 1, T.2), q) := by
  obtain ⟨a1, a2, b1, b2, d1, d2, e⟩ := hc
  rw [← e]
  refine zRl_of ?_ d1 d2
  unfold zRl1
  rw [if_neg (fun z => absurd z.2 (by rw [a2]; decide +kernel)), if_neg (fun z => absurd z.2 (by rw [a2]; decide +kernel)), if_neg (fun z => absurd z.2 (by rw [a2]; decide +kernel)), if_pos ⟨a1, by rw [a2]; decide +kernel⟩, if_neg (by omega)]
  show zRc κ 7 T (zNx κ p) = _
  unfold zRc
  rw [if_pos (Or.inl h3), if_neg (by omega), zBi_o (zNu_ok b1 b2 c0 c6), h3]
  have e9 : sUp (sUp T.1 (6 + 0) c) 3 (0 + 1) 3 = 1 := sUp_at
  unfold zRc
  rw [if_neg (fun z => z.elim (fun q => absurd (e9.symm.trans q) (by decide)) (fun q => by omega))]
  rfl
theorem zRl_c2 {c c' : Int} (h3 : T.1 3 = 0) (c0 : 1 ≤ c) (c6 : c ≤ 6) (g0 : 1 ≤ c') (g6 : c' ≤ 6) (hc : pCh κ [(2, 114082), (3, c), (3, c'), (4, 59)] p q) : zRl κ T p = .ok ((sUp (sUp (sUp (sUp T.1 6 c) 3 1) 7 c') 3 2, T.2), q) := by
  obtain ⟨a1, a2, b1, b2, b3, b4, d1, d2, e⟩ := hc
  have b2 : (κ (zNx κ p)).2.2.2 = c := b2
  have b4 : (κ (zNx κ (zNx κ p))).2.2.2 = c' := b4
  rw [← e]
  refine zRl_of ?_ d1 d2
  unfold zRl1
  rw [if_neg (fun z => absurd z.2 (by rw [a2]; decide +kernel)), if_neg (fun z => absurd z.2 (by rw [a2]; decide +kernel)), if_neg (fun z => absurd z.2 (by rw [a2]; decide +kernel)), if_pos ⟨a1, by rw [a2]; decide +kernel⟩, if_neg (by omega)]
  show zRc κ 7 T (zNx κ p) = _
  unfold zRc
  rw [if_pos (Or.inl h3), if_neg (by omega), zBi_o (zNu_ok b1 b2 c0 c6), h3]
  unfold zRc
  have e3 : sUp (sUp T.1 (6 + 0) c) 3 (0 + 1) 3 = 1 := sUp_at
  dsimp only
  rw [if_pos (Or.inr b3), if_neg (fun z => absurd (e3.symm.trans z) (by decide)), zBi_o (zNu_ok b3 b4 g0 g6), e3]
  have e9 : sUp (sUp (sUp (sUp T.1 (6 + 0) c) 3 (0 + 1)) (6 + 1) c') 3 (1 + 1) 3 = 2 := sUp_at
  unfold zRc
  rw [if_neg (fun z => z.elim (fun q => absurd (e9.symm.trans q) (by decide)) (fun q => by omega))]
  rfl
theorem zRl_o4 (h4 : T.1 4 = 0) (hc : pCh κ [(2, 18921843), (4, 59)] p q) : zRl κ T p = .ok ((sUp T.1 4 1, T.2), q) := by
  obtain ⟨a1, a2, d1, d2, e⟩ := hc
  rw [← e]
  refine zRl_of ?_ d1 d2
  unfold zRl1
  rw [if_neg (fun z => absurd z.2 (by rw [a2]; decide +kernel)), if_neg (fun z => absurd z.2 (by rw [a2]; decide +kernel)), if_neg (fun z => absurd z.2 (by rw [a2]; decide +kernel)), if_neg (fun z => absurd z.2 (by rw [a2]; decide +kernel)), if_pos ⟨a1, by rw [a2]; decide +kernel⟩]
  unfold zRo
  rw [if_neg (by omega)]
theorem zRl_o5 (h5 : T.1 5 = 0) (hc : pCh κ [(2, 21734501), (4, 59)] p q) : zRl κ T p = .ok ((sUp T.1 5 1, T.2), q) := by
  obtain ⟨a1, a2, d1, d2, e⟩ := hc
  rw [← e]
  refine zRl_of ?_ d1 d2
  unfold zRl1
  rw [if_neg (fun z => absurd z.2 (by rw [a2]; decide +kernel)), if_neg (fun z => absurd z.2 (by rw [a2]; decide +kernel)), if_neg (fun z => absurd z.2 (by rw [a2]; decide +kernel)), if_neg (fun z => absurd z.2 (by rw [a2]; decide +kernel)), if_neg (fun z => absurd z.2 (by rw [a2]; decide +kernel)), if_pos ⟨a1, by rw [a2]; decide +kernel⟩]
  unfold zRo
  rw [if_neg (by omega)]
theorem zNH_k {a : Int} (hS : pS T W 7) (a0 : 0 ≤ a) (a1 : a < 7) (h1 : (κ p).1 = 2) (h2 : (κ p).2.2.2 = pKn a) : zNH κ T.2.2 (T.1 1) p = .ok a := by
  have hk := pKn_in a0 a1
  have e : zFd T.2.2 (κ p).2.2.2 (T.1 1).toNat 0 = a := by
    rw [h2, hS.2.1]
    exact zFd_is (hS.2.2.2 a a0 a1) 7 0 a0 (by omega) (fun i i0 i1 => by rw [hS.2.2.2 i i0 (by omega)]; exact pKn_inj i0 (by omega) a0 a1 (by omega))
  unfold zNH
  rw [if_neg (fun z => z ⟨h1, by rw [h2]; exact hk.2.2⟩), e, if_neg (by omega)]
theorem zRl_my {a b : Int} (hS : pS T W 7) (a0 : 0 ≤ a) (a1 : a < 7) (b0 : 0 ≤ b) (b1 : b < 7) (h2 : T.1 2 ≠ 40) (hb : sbt (sMa T.1 a) b = false) (hc : pCh κ [(2, 13369), (2, pKn a), (2, pKn b), (4, 59)] p q) : zRl κ T p = .ok ((sUp (sUp T.1 (23 + 4 * a) (sor (sMa T.1 a) b)) 2 (T.1 2 + 1), T.2), q) := by
  obtain ⟨f1, f2, g1, g2, k1, k2, d1, d2, e⟩ := hc
  rw [← e]
  refine zRl_of ?_ d1 d2
  unfold zRl1
  rw [if_neg (fun z => absurd z.2 (by rw [f2]; decide +kernel)), if_neg (fun z => absurd z.2 (by rw [f2]; decide +kernel)), if_pos ⟨f1, by rw [f2]; decide +kernel⟩]
  unfold zRm
  rw [if_neg h2, zBi_o (zNH_k hS a0 a1 g1 g2), zBi_o (zNH_k hS b0 b1 k1 k2), if_neg (by rw [hb]; decide)]
end PL
