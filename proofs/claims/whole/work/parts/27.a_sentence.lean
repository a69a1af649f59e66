/-! SENTENCES: steps (what, sign, value), each behind its parts: 0 not, 1 and, 2 or, 3 by, 4 to, 5 is, 6 place, 7 thread, 8 depth, 9 state -/
abbrev sPg : Type := (Int → Int) × (Int → Int) × (Int → Int) × Nat
def sCp (x sg v : Int) : Bool := if sg = 60 then decide (x < v) else if sg = 61 then decide (x = v) else decide (v < x)
def sAt (ρ : sR) (b : sB) (t : Int) (P : sPg) (i : Int) : Bool :=
  if P.1 i = 3 then decide (b.1 0 t = P.2.2.1 i) else if P.1 i = 4 then decide (b.1 2 t ≠ -1 ∧ b.1 0 (b.1 2 t) = P.2.2.1 i) else if P.1 i = 5 then decide (b.1 1 t = P.2.2.1 i)
  else sCp (if P.1 i = 6 then t else if P.1 i = 7 then b.1 3 t else if P.1 i = 8 then b.1 4 t else sSt ρ b t) (P.2.1 i) (P.2.2.1 i)
/-- the roots that wait behind so many steps -/
def sRt (op : Int → Int) : Nat → List Nat
  | 0 => []
  | i + 1 => if op i = 0 then i :: (sRt op i).tail else if op i = 1 ∨ op i = 2 then i :: (sRt op i).tail.tail else i :: sRt op i
def sSk (op : Int → Int) (at0 : Int → Bool) : Nat → List Bool
  | 0 => []
  | i + 1 => if op i = 0 then (!(sSk op at0 i).headD false) :: (sSk op at0 i).tail
    else if op i = 1 then ((sSk op at0 i).tail.headD false && (sSk op at0 i).headD false) :: (sSk op at0 i).tail.tail
    else if op i = 2 then ((sSk op at0 i).tail.headD false || (sSk op at0 i).headD false) :: (sSk op at0 i).tail.tail
    else at0 i :: sSk op at0 i
def sVl (op : Int → Int) (at0 : Int → Bool) (i : Nat) : Bool := (sSk op at0 (i + 1)).headD false
/-- steps that a text can tell -/
def sWp (P : sPg) : Prop := P.2.2.2 ≤ 40 ∧ (∀ i : Nat, i < P.2.2.2 → (0 ≤ P.1 i ∧ P.1 i ≤ 9) ∧ (P.1 i = 0 → 1 ≤ (sRt P.1 i).length) ∧ (P.1 i = 1 ∨ P.1 i = 2 → 2 ≤ (sRt P.1 i).length) ∧ (3 ≤ P.1 i → P.1 i ≤ 5 → 0 ≤ P.2.2.1 i)) ∧ ∀ i : Nat, i ≤ P.2.2.2 → (sRt P.1 i).length ≤ 20
def sHo (P : sPg) (at0 : Int → Bool) : Bool := (sSk P.1 at0 P.2.2.2).headD false
theorem sRt_lt {op : Int → Int} : ∀ (i : Nat) (j : Nat), j ∈ sRt op i → j < i
  | 0, j, h => by cases h
  | i + 1, j, h => by
    have ih := sRt_lt (op := op) i
    unfold sRt at h
    split at h
    · rcases List.mem_cons.mp h with h | h
      · omega
      · have := ih j (List.mem_of_mem_tail h); omega
    · split at h
      · rcases List.mem_cons.mp h with h | h
        · omega
        · have := ih j (List.mem_of_mem_tail (List.mem_of_mem_tail h)); omega
      · rcases List.mem_cons.mp h with h | h
        · omega
        · have := ih j h; omega
theorem sSk_rt {op : Int → Int} {at0 : Int → Bool} : ∀ i : Nat, sSk op at0 i = (sRt op i).map (sVl op at0)
  | 0 => rfl
  | i + 1 => by
    have ih := sSk_rt (op := op) (at0 := at0) i
    have hv : sVl op at0 i = (sSk op at0 (i + 1)).headD false := rfl
    have hc : sSk op at0 (i + 1) = sVl op at0 i :: (sSk op at0 (i + 1)).tail := by
      rw [hv]
      unfold sSk
      split
      · rfl
      · split
        · rfl
        · split <;> rfl
    rw [hc]
    unfold sRt
    rw [sSk]
    by_cases h0 : op i = 0
    · rw [if_pos h0, if_pos h0, List.map_cons, List.map_tail, ← ih]; rfl
    · rw [if_neg h0, if_neg h0]
      by_cases h1 : op i = 1
      · rw [if_pos h1, if_pos (Or.inl h1), List.map_cons, List.map_tail, List.map_tail, ← ih]; rfl
      · rw [if_neg h1]
        by_cases h2 : op i = 2
        · rw [if_pos h2, if_pos (Or.inr h2), List.map_cons, List.map_tail, List.map_tail, ← ih]; rfl
        · rw [if_neg h2, if_neg (fun q => q.elim h1 h2), List.map_cons, ← ih]; rfl
theorem sVl_0 {op : Int → Int} {at0 : Int → Bool} {i : Nat} (h : op i = 0) : sVl op at0 i = !((sRt op i).map (sVl op at0)).headD false := by
  show (sSk op at0 (i + 1)).headD false = _
  rw [sSk, if_pos h, sSk_rt]; rfl
theorem sVl_1 {op : Int → Int} {at0 : Int → Bool} {i : Nat} (h : op i = 1) : sVl op at0 i = (((sRt op i).map (sVl op at0)).tail.headD false && ((sRt op i).map (sVl op at0)).headD false) := by
  show (sSk op at0 (i + 1)).headD false = _
  rw [sSk, if_neg (by omega), if_pos h, sSk_rt]; rfl
theorem sVl_2 {op : Int → Int} {at0 : Int → Bool} {i : Nat} (h : op i = 2) : sVl op at0 i = (((sRt op i).map (sVl op at0)).tail.headD false || ((sRt op i).map (sVl op at0)).headD false) := by
  show (sSk op at0 (i + 1)).headD false = _
  rw [sSk, if_neg (by omega), if_neg (by omega), if_pos h, sSk_rt]; rfl
theorem sVl_3 {op : Int → Int} {at0 : Int → Bool} {i : Nat} (h : 3 ≤ op i) : sVl op at0 i = at0 i := by
  show (sSk op at0 (i + 1)).headD false = _
  rw [sSk, if_neg (by omega), if_neg (by omega), if_neg (by omega)]; rfl
/-- the sentence as it lies in the reference -/
def mSn (μ : jm_M) (P : sPg) : Prop := ∀ i : Nat, i < P.2.2.2 → μ 135 (912 + 4 * i) = (if P.1 i ≤ 5 then P.1 i + 1 else P.1 i + 65) ∧
  (P.1 i = 0 → μ 135 (913 + 4 * i) = ((sRt P.1 i).headD 0 : Nat)) ∧ (P.1 i = 1 ∨ P.1 i = 2 → μ 135 (913 + 4 * i) = ((sRt P.1 i).tail.headD 0 : Nat) ∧ μ 135 (914 + 4 * i) = ((sRt P.1 i).headD 0 : Nat)) ∧
  (3 ≤ P.1 i → P.1 i ≤ 5 → μ 135 (913 + 4 * i) = P.2.2.1 i) ∧ (6 ≤ P.1 i → μ 135 (914 + 4 * i) = P.2.2.1 i ∧ μ 135 (915 + 4 * i) = P.2.1 i)
theorem mSn_of {μ ν : jm_M} {P : sPg} (h : ν 135 = μ 135) (hs : mSn μ P) : mSn ν P := fun i hi => by rw [h]; exact hs i hi
section SA
variable {E : jm_E} {d : Nat} {μ : jm_M} {Q : Option jm_V → jm_M → Prop} {ρ : sR} {b : sB} {P : sPg}
theorem m_cmp3 {x y r : Int} (h : Q (some (jm_I (if sCp x r y = true then 1 else 0))) μ) :
    ((r ≠ 60 → ((r ≠ 61 → ((x ≤ y → Q (some (jm_I 0)) μ) ∧ (¬ (x ≤ y) → Q (some (jm_I 1)) μ))) ∧ (¬ (r ≠ 61) → ((x ≠ y → Q (some (jm_I 0)) μ) ∧ (¬ (x ≠ y) → Q (some (jm_I 1)) μ))))) ∧ (¬ (r ≠ 60) → ((y ≤ x → Q (some (jm_I 0)) μ) ∧ (¬ (y ≤ x) → Q (some (jm_I 1)) μ)))) := by
  unfold sCp at h
  refine ⟨fun z => ⟨fun z2 => ⟨fun z3 => ?_, fun z3 => ?_⟩, fun z2 => ⟨fun z3 => ?_, fun z3 => ?_⟩⟩, fun z => ⟨fun z3 => ?_, fun z3 => ?_⟩⟩
  · rw [if_neg z, if_neg z2, decide_eq_false (by omega)] at h; exact h
  · rw [if_neg z, if_neg z2, decide_eq_true (by omega)] at h; exact h
  · rw [if_neg z, if_pos (Decidable.not_not.mp z2), decide_eq_false z3] at h; exact h
  · rw [if_neg z, if_pos (Decidable.not_not.mp z2), decide_eq_true (Decidable.not_not.mp z3)] at h; exact h
  · rw [if_pos (Decidable.not_not.mp z), decide_eq_false (show ¬ x < y by omega)] at h; exact h
  · rw [if_pos (Decidable.not_not.mp z), decide_eq_true (show x < y by omega)] at h; exact h
theorem c_M_valueOf {c t : Int} (hW : sWR ρ) (hr : mRu μ 0 ρ) (hb : mBd μ 0 b) (hG : sGB ρ b) (t0 : 0 ≤ t) (t1 : t < b.2.1) (c0 : 6 ≤ c) (c1 : c ≤ 9) (h : Q (some (jm_I (if c = 6 then t else if c = 7 then b.1 3 t else if c = 8 then b.1 4 t else sSt ρ b t))) μ) : jc E m_X11_valueOf (d + 3) [jm_R 133, jm_I (c + 65), jm_I t] μ Q := by
  have hn := hG.2.1
  refine e_X11_valueOf (d := d + 2) (fun _ x hx => ?_)
  rw [jm_wr_id (by omega) (by omega)] at hx
  subst hx
  have s3 : μ 147 t = b.1 3 t := by
    have := hb.at (f := 3) (g := 147) rfl (by decide) (by decide) t0 t1
    rwa [show 400 * 0 + t = t by omega] at this
  have s4 : μ 148 t = b.1 4 t := by
    have := hb.at (f := 4) (g := 148) rfl (by decide) (by decide) t0 t1
    rwa [show 400 * 0 + t = t by omega] at this
  refine ⟨fun z => ⟨fun z1 => ⟨fun z2 => c_M_stateOf (by decide) hW hr hb hG t0 t1 (jq_I ?_), fun z2 => ⟨by omega, ?_⟩⟩, fun z1 => ⟨by omega, ?_⟩⟩, fun z => ?_⟩
  · rw [if_neg (by omega), if_neg (by omega), if_neg (by omega)] at h; exact h
  · rw [if_neg (by omega), if_neg (by omega), if_pos (by omega)] at h; rw [s4]; exact h
  · rw [if_neg (by omega), if_pos (by omega)] at h; rw [s3]; exact h
  · rw [if_pos (by omega)] at h; exact h
theorem c_M_holds {t : Int} (hW : sWR ρ) (hr : mRu μ 0 ρ) (hb : mBd μ 0 b) (hG : sGB ρ b) (hs : mSn μ P) (hP : sWp P) (t0 : 0 ≤ t) (t1 : t < b.2.1) : ∀ (m : Nat) (i : Nat) (Q : Option jm_V → jm_M → Prop), i < m → i < P.2.2.2 → Q (some (jm_I (if sVl P.1 (sAt ρ b t P) i = true then 1 else 0))) μ → jc E m_X11_holds (d + m + 3) [jm_R 133, jm_I i, jm_I t] μ Q := by
  intro m
  induction m with
  | zero => exact fun i Q hm => absurd hm (by omega)
  | succ m ih =>
    intro i Q hm hi h
    have hn := hG.2.1
    have h40 := hP.1
    have hp := hP.2.1 i hi
    have hsi := hs i hi
    have e1 : jm_wr (4 * (i : Int)) = 4 * i := jm_wr_id (by omega) (by omega)
    have e2 : jm_wr (912 + 4 * (i : Int)) = 912 + 4 * i := jm_wr_id (by omega) (by omega)
    have lt := fun j hj => sRt_lt (op := P.1) i j hj
    refine e_X11_holds (d := d + m + 3) (fun _ x1 h1 => ?_)
    rw [e1, e2] at h1
    subst h1
    rw [jm_wr_id (a := 912 + 4 * (i : Int) + 1) (by omega) (by omega), jm_wr_id (a := 912 + 4 * (i : Int) + 2) (by omega) (by omega), jm_wr_id (a := 912 + 4 * (i : Int) + 3) (by omega) (by omega), show 912 + 4 * (i : Int) + 1 = 913 + 4 * i by omega, show 912 + 4 * (i : Int) + 2 = 914 + 4 * i by omega, show 912 + 4 * (i : Int) + 3 = 915 + 4 * i by omega, hsi.1]
    have eq (o : Int) (ho : P.1 i = o) : (if P.1 (i : Int) ≤ 5 then P.1 (i : Int) + 1 else P.1 (i : Int) + 65) = if o ≤ 5 then o + 1 else o + 65 := by rw [ho]
    refine ⟨by omega, fun x3 h3 => ⟨by omega, fun x5 h5 => ⟨by omega, fun x7 h7 => ?_⟩⟩⟩
    have o9 := hp.1
    have c5 : x7 = P.1 i + 1 ∧ P.1 i ≤ 5 ∨ x7 = P.1 i + 65 ∧ 6 ≤ P.1 i := by
      rw [h7]
      split
      · exact Or.inl ⟨rfl, by assumption⟩
      · exact Or.inr ⟨rfl, by omega⟩
    refine ⟨fun z => ?_, fun z => ⟨fun z2 => ?_, fun z2 => ⟨fun z3 => ?_, fun z3 => ⟨fun z4 => ⟨by omega, ?_⟩, fun z4 => ⟨fun z5 => ⟨by omega, ?_⟩, fun z5 => ⟨fun z6 => ⟨by omega, ?_⟩, fun z6 => ?_⟩⟩⟩⟩⟩⟩
    · have o : P.1 i = 0 := by omega
      have l1 := hp.2.1 o
      rw [hsi.2.1 o] at h3
      rw [sVl_0 o] at h
      cases hc : sRt P.1 i with
      | nil => rw [hc] at l1; simp at l1
      | cons j s =>
        rw [hc] at h3 h
        have hj := lt j (by rw [hc]; exact List.mem_cons_self)
        have e3 : x3 = (j : Int) := h3
        rw [e3]
        refine ih j _ (by omega) (by omega) ?_
        have hh : (((j :: s).map (sVl P.1 (sAt ρ b t P))).headD false) = sVl P.1 (sAt ρ b t P) j := rfl
        rw [hh] at h
        cases hv : sVl P.1 (sAt ρ b t P) j with
        | true => rw [hv] at h; exact jq_Z (jb_t (by decide) h)
        | false => rw [hv] at h; exact jq_Z (jb_f (by decide) h)
    · have o : P.1 i = 1 := by omega
      have l1 := hp.2.2.1 (Or.inl o)
      have hx := hsi.2.2.1 (Or.inl o)
      rw [hx.1] at h3
      rw [hx.2] at h5
      rw [sVl_1 o] at h
      match hc : sRt P.1 i with
      | [] => rw [hc] at l1; simp at l1
      | [_] => rw [hc] at l1; simp at l1
      | j :: k :: s =>
        rw [hc] at h3 h5 h
        have hj := lt j (by rw [hc]; exact List.mem_cons_self)
        have hk := lt k (by rw [hc]; exact List.mem_cons_of_mem _ List.mem_cons_self)
        have e3 : x3 = (k : Int) := h3
        have e5 : x5 = (j : Int) := h5
        rw [e3, e5]
        have hh : ((((j :: k :: s).map (sVl P.1 (sAt ρ b t P))).tail.headD false) && (((j :: k :: s).map (sVl P.1 (sAt ρ b t P))).headD false)) = (sVl P.1 (sAt ρ b t P) k && sVl P.1 (sAt ρ b t P) j) := rfl
        rw [hh] at h
        refine ih k _ (by omega) (by omega) ?_
        cases hv : sVl P.1 (sAt ρ b t P) k with
        | false => rw [hv] at h; exact jq_Z (jb_t rfl h)
        | true =>
          rw [hv] at h
          refine jq_Z (jb_f (by decide) (ih j _ (by omega) (by omega) ?_))
          cases hw : sVl P.1 (sAt ρ b t P) j with
          | false => rw [hw] at h; exact jq_Z (jb_t rfl h)
          | true => rw [hw] at h; exact jq_Z (jb_f (by decide) h)
    · have o : P.1 i = 2 := by omega
      have l1 := hp.2.2.1 (Or.inr o)
      have hx := hsi.2.2.1 (Or.inr o)
      rw [hx.1] at h3
      rw [hx.2] at h5
      rw [sVl_2 o] at h
      match hc : sRt P.1 i with
      | [] => rw [hc] at l1; simp at l1
      | [_] => rw [hc] at l1; simp at l1
      | j :: k :: s =>
        rw [hc] at h3 h5 h
        have hj := lt j (by rw [hc]; exact List.mem_cons_self)
        have hk := lt k (by rw [hc]; exact List.mem_cons_of_mem _ List.mem_cons_self)
        have e3 : x3 = (k : Int) := h3
        have e5 : x5 = (j : Int) := h5
        rw [e3, e5]
        have hh : ((((j :: k :: s).map (sVl P.1 (sAt ρ b t P))).tail.headD false) || (((j :: k :: s).map (sVl P.1 (sAt ρ b t P))).headD false)) = (sVl P.1 (sAt ρ b t P) k || sVl P.1 (sAt ρ b t P) j) := rfl
        rw [hh] at h
        refine ih k _ (by omega) (by omega) ?_
        cases hv : sVl P.1 (sAt ρ b t P) k with
        | true => rw [hv] at h; exact jq_Z (jb_t (by decide) h)
        | false =>
          rw [hv] at h
          refine jq_Z (jb_f (by decide) (ih j _ (by omega) (by omega) ?_))
          cases hw : sVl P.1 (sAt ρ b t P) j with
          | false => rw [hw] at h; exact jq_Z (jb_t rfl h)
          | true => rw [hw] at h; exact jq_Z (jb_f (by decide) h)
    · have o : P.1 i = 3 := by omega
      have g0 : μ 144 t = b.1 0 t := by
        have := hb.at (f := 0) (g := 144) rfl (by decide) (by decide) t0 t1
        rwa [show 400 * 0 + t = t by omega] at this
      rw [h3, hsi.2.2.2.1 (by omega) (by omega), g0]
      rw [sVl_3 (by omega), sAt, if_pos o] at h
      exact ⟨fun y => by rw [decide_eq_false y] at h; exact h, fun y => by rw [decide_eq_true (Decidable.not_not.mp y)] at h; exact h⟩
    · have o : P.1 i = 4 := by omega
      have g2 : μ 146 t = b.1 2 t := by
        have := hb.at (f := 2) (g := 146) rfl (by decide) (by decide) t0 t1
        rwa [show 400 * 0 + t = t by omega] at this
      have hGt := (hG.2.2.2.2 t t0 t1).2.2.1
      rw [h3, hsi.2.2.2.1 (by omega) (by omega), g2]
      rw [sVl_3 (by omega), sAt, if_neg (show ¬ P.1 i = 3 by omega), if_pos o] at h
      refine ⟨fun y => by rw [decide_eq_false (fun q => q.1 y)] at h; exact h, fun y => ⟨by omega, ?_⟩⟩
      have g0 : μ 144 (b.1 2 t) = b.1 0 (b.1 2 t) := by
        have := hb.at (f := 0) (g := 144) rfl (by decide) (by decide) (show 0 ≤ b.1 2 t by omega) (show b.1 2 t < b.2.1 by omega)
        rwa [show 400 * 0 + b.1 2 t = b.1 2 t by omega] at this
      rw [g0]
      exact ⟨fun y2 => by rw [decide_eq_false (fun q => y2 q.2)] at h; exact h, fun y2 => by rw [decide_eq_true ⟨y, Decidable.not_not.mp y2⟩] at h; exact h⟩
    · have o : P.1 i = 5 := by omega
      have g1 : μ 145 t = b.1 1 t := by
        have := hb.at (f := 1) (g := 145) rfl (by decide) (by decide) t0 t1
        rwa [show 400 * 0 + t = t by omega] at this
      rw [h3, hsi.2.2.2.1 (by omega) (by omega), g1]
      rw [sVl_3 (by omega), sAt, if_neg (show ¬ P.1 i = 3 by omega), if_neg (show ¬ P.1 i = 4 by omega), if_pos o] at h
      exact ⟨fun y => by rw [decide_eq_false y] at h; exact h, fun y => by rw [decide_eq_true (Decidable.not_not.mp y)] at h; exact h⟩
    · have o : 6 ≤ P.1 i := by omega
      have hx := hsi.2.2.2.2 o
      rw [hx.1] at h5
      subst h5
      rw [if_neg (by omega)]
      rw [sVl_3 (by omega), sAt, if_neg (show ¬ P.1 i = 3 by omega), if_neg (show ¬ P.1 i = 4 by omega), if_neg (show ¬ P.1 i = 5 by omega)] at h
      refine c_M_valueOf (d := d + m) hW hr hb hG t0 t1 o (by omega) (jq_I ⟨by omega, ?_⟩)
      rw [hx.2]
      exact m_cmp3 h
end SA
