/-! fresh objects agree; the law from its first instruction -/
theorem km_0 {q : Int} {n : Nat} (h : ∀ j : Fin n, km_all q ((j : Nat) : Int) = 0) : ∀ i : Int, 0 ≤ i → i < n → km_all q i = 0 := by
  intro i i0 i1
  have := h ⟨i.toNat, by omega⟩
  rwa [show (((⟨i.toNat, by omega⟩ : Fin n) : Nat) : Int) = i from by show ((i.toNat : Nat) : Int) = i; omega] at this
theorem km_135 : ∀ i : Int, 0 ≤ i → i < ((60 : Nat) : Int) → km_all 135 i = 0 := km_0 (by decide +kernel)
theorem km_7 : ∀ f : Fin 3, ∀ i : Fin 24, 0 ≤ km_all (127 + ((f : Nat) : Int)) ((i : Nat) : Int) ∧ km_all (127 + ((f : Nat) : Int)) ((i : Nat) : Int) < 1024 := by decide +kernel
theorem km_table : ∀ p : Fin 2, km_all (3 + 19 * ((p : Nat) : Int)) 1 = 0 ∧ km_all (3 + 19 * ((p : Nat) : Int)) 4 = 0 ∧ km_all (3 + 19 * ((p : Nat) : Int)) 10 = 0 ∧ km_all (3 + 19 * ((p : Nat) : Int)) 11 = 1 ∧ km_all (3 + 19 * ((p : Nat) : Int)) 14 = 0 ∧ km_all (3 + 19 * ((p : Nat) : Int)) 15 = 0 ∧ km_all (3 + 19 * ((p : Nat) : Int) + 8) 0 = 2 ∧ km_all (3 + 19 * ((p : Nat) : Int)) 13 = 0 := by decide +kernel
theorem km_desk : km_all 21 0 = 22 ∧ km_all 21 1 = 0 ∧ km_all 21 2 = 0 ∧ km_all 69 0 = 0 ∧ km_all 69 1 = 0 ∧ km_all 75 1 = 0 ∧ km_all 135 60 = 0 ∧ km_all 135 861 = 0 ∧ km_all 135 910 = 0 := by decide +kernel
theorem km_rest : km_all 1 1 = 0 ∧ km_all 133 2 = 0 ∧ km_all 1 9 = km_all 133 10 ∧ km_all 21 3 = km_all 133 31 ∧ km_all 130 2 = km_all 133 45 ∧ km_all 121 6 = 0 ∧ km_all 133 52 = 0 ∧ km_all 124 6 = 0 ∧ km_all 133 44 = 0 ∧ km_all 130 6 = 0 ∧ km_all 133 49 = 0 ∧ km_all 83 0 = 0 ∧ km_all 102 0 = 0 ∧ km_all 142 0 = 0 ∧ km_all 142 1 = 0 := by decide +kernel
theorem km_tRu (p : Fin 2) : tRu km_all (3 + 19 * ((p : Nat) : Int)) (fun _ => 0) := by
  obtain ⟨a1, a2, a3, a4, a5, a6, a7, -⟩ := km_table p
  exact ⟨a1, a2, a3, by rw [if_pos rfl]; exact a4, a5, a6, fun _ => a7, fun i i0 i1 => absurd (show i < 0 from i1) (by omega), fun i i0 i1 => absurd (show i < 0 from i1) (by omega), fun i i0 i1 => absurd (show i < 0 from i1) (by omega)⟩
theorem km_tRu3 : tRu km_all 3 (fun _ => 0) := km_tRu 0
theorem km_tRu22 : tRu km_all 22 (fun _ => 0) := km_tRu 1
theorem km_jD : jD km_all (zD0 zT0) := by
  obtain ⟨b1, b2, b3, b4, b5, b6, b7, b8, b9⟩ := km_desk
  refine ⟨sVd_0 zTi_0, ⟨fun i i0 i1 => absurd (show i < 0 from i1) (by omega), fun i i0 i1 => absurd (show i < 0 from i1) (by omega)⟩, ⟨⟨km_tRu3, fun i i0 i1 => absurd (show i < 0 from i1) (by omega), fun i i0 i1 => absurd (show i < 0 from i1) (by omega), Or.inl (km_table 0).2.2.2.2.2.2.2⟩, ⟨km_tRu3, 22, Or.inr rfl, ⟨Or.inl rfl, Or.inr (Or.inl rfl), rfl⟩, b1, zTi_0.1, km_tRu22, ⟨b2, b3, fun f t f0 f1 t0 t1 => absurd (show t < 0 from t1) (by omega)⟩, sLay_good zTi_0.1 0 (Nat.zero_le _) (fun t ht => absurd ht (Nat.not_lt_zero _)), by decide⟩, ⟨b4, b5, fun t t0 t1 => absurd (show t < 0 from t1) (by omega)⟩, b6, fun t t0 t1 => absurd (show t < 0 from t1) (by omega)⟩, ?_⟩
  exact ⟨fun i i0 i1 => km_135 i i0 i1, b7, fun i i0 i1 => absurd (show i < 0 from i1) (by omega), b8, fun i i0 i1 => absurd (show i < 0 from i1) (by omega), b9, fun z => absurd rfl z, fun i hi => absurd hi (Nat.not_lt_zero _), fun i i0 i1 => absurd (show i < 0 from i1) (by omega), fun i i0 i1 => absurd (show i < 0 from i1) (by omega)⟩
theorem km_jI : jI km_all := by
  obtain ⟨c1, c2, c3, c4, c5, c6, c7, c8, c9, c10, c11, c12, c13, c14, c15⟩ := km_rest
  refine ⟨⟨_, km_jD⟩, jA1.z c1 c2, c3, c4, c5, ⟨0, by decide, c6, c7, fun i i0 i1 => absurd i1 (by omega)⟩, ⟨0, by decide, c8, c9, fun f i f0 f1 i0 i1 => absurd i1 (by omega)⟩, fun f i f0 f1 i0 i1 => ?_, ⟨0, by decide, c10, c11, fun i i0 i1 => absurd i1 (by omega)⟩, Or.inl ⟨c12, c14⟩, Or.inl ⟨c13, c15⟩⟩
  have := km_7 ⟨f.toNat, by omega⟩ ⟨i.toNat, by omega⟩
  have e1 : ((f.toNat : Nat) : Int) = f := by omega
  have e2 : ((i.toNat : Nat) : Int) = i := by omega
  simp only [e1, e2] at this
  exact this
theorem q_law {E : jm_E} {C2 S2 : Nat} (hN : jm_sL E ≤ 3072) (hC : 677 ≤ C2) (hS : 23091 ≤ S2) : jm_G E m_L_law (jm_rm 61 C2 S2) jm_N 0 0 0 0 [some (jm_R (-2)), none, none, none, none, none, none] [] (fun _ _ => 0) jl_Q := by
  refine r_L_law_0 (d := 57) (by omega) (by omega) ?_
  exact q_loop (by omega) 512 0 165 20019 km_all km_jI (by decide) (by omega) (by omega) (by omega)
