/-! the class's tables and talks -/
def tRu (μ : jm_M) (p : Int) (ρ : sR) : Prop :=
  μ p 1 = ρ 0 ∧ μ p 4 = ρ 1 ∧ μ p 10 = ρ 2 ∧ μ p 11 = (if ρ 3 = 0 then 1 else ρ 3) ∧ μ p 14 = ρ 4 ∧ μ p 15 = ρ 5 ∧
  (ρ 3 = 0 → μ (p + 8) 0 = 2) ∧ (∀ i, 0 ≤ i → i < ρ 3 → μ (p + 8) i = ρ (6 + i)) ∧ (∀ w, 0 ≤ w → w < ρ 0 → μ (p + 2) w = ρ (12 + w)) ∧
  ∀ k, 0 ≤ k → k < ρ 1 → μ (p + 4) k = sOp ρ k ∧ μ (p + 5) k = sDo ρ k ∧ μ (p + 6) k = sDu ρ k ∧ μ (p + 7) k = sMa ρ k
def tBd (μ : jm_M) (a : Int) (b : sB) : Prop := μ a 1 = b.2.1 ∧ μ a 2 = b.2.2 ∧ ∀ f t, 0 ≤ f → f ≤ 5 → 0 ≤ t → t < b.2.1 → μ (a + 10 + f) t = b.1 f t
/-- a talk's place, its table's place, room -/
def tPl (a p c : Int) : Prop := (a = 21 ∨ a = 37 ∨ a = 53) ∧ (p = 3 ∨ p = 22 ∨ p = 38 ∨ p = 54 ∨ p = 84 ∨ p = 103) ∧ c = (if a = 53 then 8 else 400)
def tA (μ : jm_M) (ρ : sR) (a p c : Int) (b : sB) : Prop := tPl a p c ∧ μ a 0 = p ∧ sWR ρ ∧ tRu μ p ρ ∧ tBd μ a b ∧ sGB ρ b ∧ b.2.1 ≤ c
/-- nothing but one talk's words has changed -/
def tFr (a : Int) (μ ν : jm_M) : Prop := (∀ q, q ≠ a → q < a + 10 ∨ a + 15 < q → ν q = μ q) ∧ ∀ i, i ≠ 1 → i ≠ 2 → ν a i = μ a i
theorem tFr.rfl {a : Int} {μ : jm_M} : tFr a μ μ := ⟨fun _ _ _ => Eq.refl _, fun _ _ _ => Eq.refl _⟩
theorem tFr.trans {a : Int} {x y z : jm_M} (h1 : tFr a x y) (h2 : tFr a y z) : tFr a x z := ⟨fun q q1 q2 => (h2.1 q q1 q2).trans (h1.1 q q1 q2), fun i i1 i2 => (h2.2 i i1 i2).trans (h1.2 i i1 i2)⟩
theorem tPl.i6 {a p c : Int} (h : tPl a p c) : jm_is jm_N a 1 6 := by
  rcases h.1 with rfl | rfl | rfl
  · exact is_21
  · exact is_37
  · exact is_53
theorem tPl.i5 {a p c : Int} (h : tPl a p c) : jm_is jm_N p 1 5 := by
  rcases h.2.1 with rfl | rfl | rfl | rfl | rfl | rfl
  · exact is_3
  · exact is_22
  · exact is_38
  · exact is_54
  · exact is_84
  · exact is_103
theorem tPl.sn {a p c : Int} (h : tPl a p c) : (jm_sn (a + 10) : Int) = c := by
  rcases h.1 with rfl | rfl | rfl
  · rw [h.2.2, show (21 + 10 : Int) = 31 from rfl, snl_31]; rfl
  · rw [h.2.2, show (37 + 10 : Int) = 47 from rfl, snl_47]; rfl
  · rw [h.2.2, show (53 + 10 : Int) = 63 from rfl, snl_63]; rfl
theorem tPl.c {a p c : Int} (h : tPl a p c) : 8 ≤ c ∧ c ≤ 400 := by
  rw [h.2.2]; split <;> omega
theorem tPl.sep {a p c : Int} (h : tPl a p c) : ∀ q, p ≤ q → q ≤ p + 8 → q ≠ a ∧ (q < a + 10 ∨ a + 15 < q) := by
  intro q q0 q1
  obtain ⟨h1, h2, -⟩ := h
  omega
theorem tRu_of {μ ν : jm_M} {p : Int} {ρ : sR} (hf : ∀ q, p ≤ q → q ≤ p + 8 → ν q = μ q) (h : tRu μ p ρ) : tRu ν p ρ := by
  have e0 := hf p (by omega) (by omega)
  have e2 := hf (p + 2) (by omega) (by omega)
  have e4 := hf (p + 4) (by omega) (by omega)
  have e5 := hf (p + 5) (by omega) (by omega)
  have e6 := hf (p + 6) (by omega) (by omega)
  have e7 := hf (p + 7) (by omega) (by omega)
  have e8 := hf (p + 8) (by omega) (by omega)
  unfold tRu
  rw [e0, e2, e4, e5, e6, e7, e8]
  exact h
theorem tA.fr {μ ν : jm_M} {ρ : sR} {a p c : Int} {b b' : sB} (h : tA μ ρ a p c b) (hf : tFr a μ ν) (hb : tBd ν a b') (hG : sGB ρ b') (hc : b'.2.1 ≤ c) : tA ν ρ a p c b' :=
  ⟨h.1, (hf.2 0 (by decide) (by decide)).trans h.2.1, h.2.2.1, tRu_of (fun q q0 q1 => hf.1 q (h.1.sep q q0 q1).1 (h.1.sep q q0 q1).2) h.2.2.2.1, hb, hG, hc⟩
section TB
variable {E : jm_E} {d : Nat} {μ : jm_M} {Q : Option jm_V → jm_M → Prop} {ρ : sR} {a p c : Int} {b : sB}
theorem c_T_hasWho {v : Int} (hp : jm_is jm_N p 1 5) (hW : sWR ρ) (hr : tRu μ p ρ) (ht : 0 ≤ v → v < ρ 0 → Q (some (jm_I 1)) μ) (hf : ¬ (0 ≤ v ∧ v < ρ 0) → Q (some (jm_I 0)) μ) : jc E m_X5_hasWho (d + 1) [jm_R p, jm_I v] μ Q := by
  have h8 := hW.2.1
  refine e_X5_hasWho (fun _ => ?_)
  rw [hr.1]
  exact ⟨fun z => hf (by omega), fun z => ⟨hp, fun z1 => hf (by omega), fun z1 => ⟨fun z2 => hf (by omega), fun z2 => ht (by omega) (by omega)⟩⟩⟩
theorem c_T_hasKind {v : Int} (hp : jm_is jm_N p 1 5) (hW : sWR ρ) (hr : tRu μ p ρ) (ht : 0 ≤ v → v < ρ 1 → Q (some (jm_I 1)) μ) (hf : ¬ (0 ≤ v ∧ v < ρ 1) → Q (some (jm_I 0)) μ) : jc E m_X5_hasKind (d + 1) [jm_R p, jm_I v] μ Q := by
  have h8 := hW.2.2.2.1
  refine e_X5_hasKind (fun _ => ?_)
  rw [hr.2.1]
  exact ⟨fun z => hf (by omega), fun z => ⟨hp, fun z1 => hf (by omega), fun z1 => ⟨fun z2 => hf (by omega), fun z2 => ht (by omega) (by omega)⟩⟩⟩
theorem tRu.k {k : Int} (h : tRu μ p ρ) (k0 : 0 ≤ k) (k1 : k < ρ 1) : μ (p + 4) k = sOp ρ k ∧ μ (p + 5) k = sDo ρ k ∧ μ (p + 6) k = sDu ρ k ∧ μ (p + 7) k = sMa ρ k := h.2.2.2.2.2.2.2.2.2 k k0 k1
theorem c_T_op {k : Int} (hp : jm_is jm_N p 1 5) (hW : sWR ρ) (hr : tRu μ p ρ) (k0 : 0 ≤ k) (k1 : k < ρ 1) (h : Q (some (jm_I (sOp ρ k))) μ) : jc E m_X5_openingOf (d + 1) [jm_R p, jm_I k] μ Q := by
  have h8 := hW.2.2.2.1
  refine e_X5_openingOf (fun _ => ?_)
  rw [(hr.k k0 k1).1]
  exact ⟨fun z => absurd z (by omega), fun z => ⟨fun z1 => absurd z1 (by omega), fun z1 => ⟨hp, by omega, h⟩⟩⟩
theorem c_T_do {k : Int} (hp : jm_is jm_N p 1 5) (hW : sWR ρ) (hr : tRu μ p ρ) (k0 : 0 ≤ k) (k1 : k < ρ 1) (h : Q (some (jm_I (sDo ρ k))) μ) : jc E m_X5_doingOf (d + 1) [jm_R p, jm_I k] μ Q := by
  have h8 := hW.2.2.2.1
  refine e_X5_doingOf (fun _ => ?_)
  rw [(hr.k k0 k1).2.1]
  exact ⟨fun z => absurd z (by omega), fun z => ⟨fun z1 => absurd z1 (by omega), fun z1 => ⟨hp, by omega, h⟩⟩⟩
theorem c_T_du {k : Int} (hp : jm_is jm_N p 1 5) (hW : sWR ρ) (hr : tRu μ p ρ) (k0 : 0 ≤ k) (k1 : k < ρ 1) (h : Q (some (jm_I (sDu ρ k))) μ) : jc E m_X5_spanOf (d + 1) [jm_R p, jm_I k] μ Q := by
  have h8 := hW.2.2.2.1
  refine e_X5_spanOf (fun _ => ?_)
  rw [(hr.k k0 k1).2.2.1]
  exact ⟨fun z => absurd z (by omega), fun z => ⟨fun z1 => absurd z1 (by omega), fun z1 => ⟨hp, by omega, h⟩⟩⟩
theorem c_T_mayAnswer {k j : Int} (hp : jm_is jm_N p 1 5) (hW : sWR ρ) (hr : tRu μ p ρ) (k0 : 0 ≤ k) (k1 : k < ρ 1) (j0 : 0 ≤ j) (j1 : j < ρ 1) (ht : sbt (sMa ρ k) j = true → Q (some (jm_I 1)) μ) (hf : sbt (sMa ρ k) j = false → Q (some (jm_I 0)) μ) : jc E m_X5_mayAnswer (d + 2) [jm_R p, jm_I k, jm_I j] μ Q := by
  have h8 := hW.2.2.2.1
  have hK := hW.2.2.2.2.2.2.2.2.2.2.2.2 k k0 k1
  refine e_X5_mayAnswer (d := d + 1) (fun _ => ⟨hp, c_T_hasKind hp hW hr (fun _ _ => jq_Z (jb_f (by decide) (c_T_hasKind hp hW hr (fun _ _ => jq_Z (jb_f (by decide) ?_)) (fun z => absurd ⟨j0, j1⟩ z)))) (fun z => absurd ⟨k0, k1⟩ z)⟩)
  rw [(hr.k k0 k1).2.2.2, jm_bit (by omega) (by omega) (by omega) (by omega)]
  refine ⟨by omega, ?_⟩
  cases hb : sbt (sMa ρ k) j
  · exact jb_t (by simp) (hf hb)
  · exact jb_f (by simp) (ht hb)
theorem c_T_reach {who n : Int} (hp : jm_is jm_N p 1 5) (hW : sWR ρ) (hr : tRu μ p ρ) (n0 : 0 ≤ n) (n1 : n ≤ 400) (w0 : 0 ≤ who) (w1 : who < ρ 0) (h : Q (some (jm_I (sBack ρ n who))) μ) : jc E m_X5_reach (d + 1) [jm_R p, jm_I who, jm_I n] μ Q := by
  obtain ⟨h0, h1, h2, h3, h4, h5, h6, h7, h8, h9, h10, h11, h12⟩ := hW
  obtain ⟨r0, r1, r2, r3, r4, r5, r6, r7, r8, r9⟩ := hr
  refine e_X5_reach (fun _ => ⟨hp, ?_⟩)
  unfold sBack at h
  rw [r4, r3]
  refine ⟨fun z => ?_, fun z => ?_⟩
  · rw [if_neg (by omega)] at h
    refine ⟨fun z1 => absurd z1 (by split <;> omega), fun z1 => ⟨fun z2 => absurd z2 (by omega), fun z2 => ⟨by split <;> omega, fun x hx => ?_⟩⟩⟩
    by_cases z3 : ρ 3 = 0
    · rw [if_pos z3] at h
      rw [if_pos z3, jm_rem_n n0 (by omega) (by decide) (by decide)] at hx
      have hx0 : x = 0 := by omega
      subst hx0
      refine ⟨fun z4 => absurd z4 (by omega), fun z4 => ⟨by omega, ?_⟩⟩
      rw [r6 z3]
      exact h
    · rw [if_neg z3] at h
      rw [if_neg z3, jm_rem_n n0 (by omega) (by omega) (by omega)] at hx
      have a1 := Int.emod_nonneg n z3
      have a2 := Int.emod_lt_of_pos n (show 0 < ρ 3 by omega)
      subst hx
      refine ⟨fun z4 => absurd z4 (by omega), fun z4 => ⟨by omega, ?_⟩⟩
      rw [r7 _ a1 a2]
      exact h
  · rw [if_pos (by omega)] at h
    refine ⟨fun z1 => absurd z1 (by omega), fun z1 => ⟨fun z2 => absurd z2 (by omega), fun z2 => ⟨by omega, ?_⟩⟩⟩
    rw [r8 _ w0 w1]
    exact h
theorem c_T_has {v : Int} (hi : jm_is jm_N a 1 6) (hb : tBd μ a b) (ht : 0 ≤ v → v < b.2.1 → Q (some (jm_I 1)) μ) (hf : ¬ (0 ≤ v ∧ v < b.2.1) → Q (some (jm_I 0)) μ) : jc E m_X6_has (d + 1) [jm_R a, jm_I v] μ Q := by
  refine e_X6_has (fun _ => ?_)
  rw [hb.1]
  exact ⟨fun z => hf (by omega), fun z => ⟨hi, fun z1 => hf (by omega), fun z1 => ht (by omega) (by omega)⟩⟩
theorem tA.ans {who k : Int} (h : tA μ ρ a p c b) (w0 : 0 ≤ who) (w1 : who < ρ 0) : sAns ρ b.2.1 who k = -1 ∨ (0 ≤ sAns ρ b.2.1 who k ∧ sAns ρ b.2.1 who k < b.2.1) := by
  have := sAns_in (n := b.2.1) (k := k) h.2.2.1 h.2.2.2.2.2.1.1 w0 w1
  omega
theorem c_T_heardBy {who k : Int} (h0 : tA μ ρ a p c b) (w0 : 0 ≤ who) (w1 : who < ρ 0) (k0 : 0 ≤ k) (k1 : k < ρ 1) (h : Q (some (jm_I (sAns ρ b.2.1 who k))) μ) : jc E m_X6_heardBy (d + 2) [jm_R a, jm_I who, jm_I k] μ Q := by
  obtain ⟨hP, hp, hW, hr, hb, hG, hc⟩ := h0
  have hG0 := hG.1
  have hG1 := hG.2.1
  have hB := sBack_in (n := b.2.1) hW hG0 w0 w1
  refine e_X6_heardBy (d := d + 1) (fun _ => ⟨hP.i6, ?_⟩)
  rw [hp, hb.1]
  refine ⟨hP.i5, c_T_reach hP.i5 hW hr hG0 hG1 w0 w1 (jq_I (fun x hx => ?_))⟩
  rw [jm_wr_id (by omega) (by omega)] at hx
  subst hx
  unfold sAns at h
  refine c_T_has hP.i6 hb (fun z0 z1 => jq_Z (jb_f (by decide) ?_)) (fun z => jq_Z (jb_t rfl ?_))
  · rw [hp]
    refine ⟨hP.i5, c_T_op hP.i5 hW hr k0 k1 (jq_I ⟨fun z => ?_, fun z => ?_⟩)⟩
    · rw [if_pos z] at h; exact h
    · rw [if_neg z, if_pos (by omega)] at h; exact h
  · split at h
    · exact h
    · rw [if_neg (by omega)] at h; exact h
theorem c_T_repeats {who : Int} (h0 : tA μ ρ a p c b) (ht : sRep ρ b who → Q (some (jm_I 1)) μ) (hf : ¬ sRep ρ b who → Q (some (jm_I 0)) μ) : jc E m_X6_repeats (d + 1) [jm_R a, jm_I who] μ Q := by
  obtain ⟨hP, hp, hW, hr, hb, hG, hc⟩ := h0
  have hG0 := hG.1
  have hG1 := hG.2.1
  refine e_X6_repeats (fun _ => ⟨hP.i6, ?_⟩)
  rw [hp, hb.1, hr.2.2.2.2.2.1, hP.sn]
  refine ⟨hP.i5, fun z => hf (fun q => z q.1), fun z => ⟨fun z1 => hf (fun q => by have := q.2.1; omega), fun z1 => ?_⟩⟩
  have s0 : μ (a + 10) (b.2.1 - 1) = b.1 0 (b.2.1 - 1) := by
    have := hb.2.2 0 (b.2.1 - 1) (by decide) (by decide) (by omega) (by omega)
    rwa [show a + 10 + 0 = a + 10 by omega] at this
  rw [jm_wr_id (by omega) (by omega), s0]
  exact ⟨by omega, fun z2 => hf (fun q => z2 q.2.2), fun z2 => ht ⟨by omega, by omega, by omega⟩⟩
end TB
