section MF
variable {E : jm_E} {d : Nat} {μ : jm_M} {Q : Option jm_V → jm_M → Prop} {ρ : sR} {T : Int → Int} {N : Nat} {b : sB}
/-- a whole is marked -/
theorem r_M_fill20 (hW : sWR ρ) (hG : sGB ρ b) (hn : b.2.1 = N) (hN : N ≤ 24) (hs : mFs ρ T N b μ) (h : ∀ ν : jm_M, mBd ν 0 b → (∀ p, p < 153 ∨ 155 < p → ν p = μ p) → (∀ f i : Int, 0 ≤ f → f ≤ 2 → 0 ≤ i → i < N → ν (153 + f) i = sor (μ (153 + f) i) (sFd ρ f i b)) → (∀ f i : Int, 0 ≤ f → f ≤ 2 → (N : Int) ≤ i → ν (153 + f) i = μ (153 + f) i) → Q none ν) :
    jg E m_X11_fill (d + 3) 20 [some (jm_R 133), some (jm_I N), some (jm_I 0), none] [] μ Q := by
  obtain ⟨s1, s2, s3, s4, s5, s6, s7, s8⟩ := hs
  have key : ∀ (m : Nat) (i : Nat) (ξ : jm_M), N - i = m → i ≤ N → (∀ p, p < 153 ∨ 155 < p → ξ p = μ p) → (∀ f j : Int, 0 ≤ f → f ≤ 2 → 0 ≤ j → j < i → ξ (153 + f) j = sor (μ (153 + f) j) (sFd ρ f j b)) → (∀ f j : Int, 0 ≤ f → f ≤ 2 → (i : Int) ≤ j → ξ (153 + f) j = μ (153 + f) j) → jg E m_X11_fill (d + 3) 20 [some (jm_R 133), some (jm_I N), some (jm_I i), none] [] ξ Q := by
    intro m
    induction m with
    | zero =>
      intro i ξ g1 g2 g3 g4 g5
      have hb : mBd ξ 0 b := ⟨by rw [g3 150 (by decide)]; exact s2.1, by rw [g3 151 (by decide)]; exact s2.2.1, fun f t f0 f1 t0 t1 => by rw [g3 _ (by omega)]; exact s2.2.2 f t f0 f1 t0 t1⟩
      exact r_X11_fill_20 (d := d + 3) ⟨fun _ => h ξ hb g3 (fun f j f0 f1 j0 j1 => g4 f j f0 f1 j0 (by omega)) (fun f j f0 f1 j0 => g5 f j f0 f1 (by omega)), fun z => absurd (show (N : Int) ≤ i by omega) z⟩
    | succ m ih =>
      intro i ξ g1 g2 g3 g4 g5
      have hb : mBd ξ 0 b := ⟨by rw [g3 150 (by decide)]; exact s2.1, by rw [g3 151 (by decide)]; exact s2.2.1, fun f t f0 f1 t0 t1 => by rw [g3 _ (by omega)]; exact s2.2.2 f t f0 f1 t0 t1⟩
      have hr : mRu ξ 0 ρ := fun j j0 j1 => by rw [g3 143 (by decide)]; exact s1 j j0 j1
      have d0 := sFd_in (f := 0) hW hG (t := (i : Int)) (by omega) (by omega)
      have d1 := sFd_in (f := 1) hW hG (t := (i : Int)) (by omega) (by omega)
      have d2 := sFd_in (f := 2) hW hG (t := (i : Int)) (by omega) (by omega)
      have k0 := s8 0 i (by decide) (by decide) (by omega) (by omega)
      have k1 := s8 1 i (by decide) (by decide) (by omega) (by omega)
      have k2 := s8 2 i (by decide) (by decide) (by omega) (by omega)
      have x0 := g5 0 i (by decide) (by decide) (by omega)
      have x1 := g5 1 i (by decide) (by decide) (by omega)
      have x2 := g5 2 i (by decide) (by decide) (by omega)
      have w0 : ξ 144 (i : Int) = sFd ρ 0 i b := by have := hb.at (f := 0) (g := 144) (t := (i : Int)) rfl (by decide) (by decide) (by omega) (by omega); rw [Int.mul_zero, Int.zero_add] at this; exact this
      have w1 : ξ 145 (i : Int) = sFd ρ 1 i b := by have := hb.at (f := 1) (g := 145) (t := (i : Int)) rfl (by decide) (by decide) (by omega) (by omega); rw [Int.mul_zero, Int.zero_add] at this; exact this
      simp only [Int.add_zero] at k0 x0
      rw [show (153 : Int) + 1 = 154 from rfl] at k1 x1
      rw [show (153 : Int) + 2 = 155 from rfl] at k2 x2
      refine r_X11_fill_20 (d := d + 3) ⟨fun z => absurd z (by omega), fun _ => ⟨⟨by omega, by omega⟩, ⟨by omega, by omega⟩, fun m4 h4 m5 h5 => ?_⟩⟩
      rw [w0, x0, jm_or_bit k0.1 (by omega) d0.1 (by omega)] at h4
      have e45 : m4 145 (i : Int) = sFd ρ 1 i b := by rw [h4, jm_up_ne (by decide)]; exact w1
      have e54 : m4 154 (i : Int) = μ 154 i := by rw [h4, jm_up_ne (by decide)]; exact x1
      rw [e45, e54, jm_or_bit k1.1 (by omega) d1.1 (by omega)] at h5
      have hb5 : mBd m5 0 b := by rw [h5, h4]; exact ⟨by rw [jm_up_ne (by decide), jm_up_ne (by decide)]; exact hb.1, by rw [jm_up_ne (by decide), jm_up_ne (by decide)]; exact hb.2.1, fun f t f0 f1 t0 t1 => by rw [jm_up_ne (by omega), jm_up_ne (by omega)]; exact hb.2.2 f t f0 f1 t0 t1⟩
      have hr5 : mRu m5 0 ρ := by rw [h5, h4]; exact mRu_up (by decide) (mRu_up (by decide) hr)
      refine c_M_stateOf (by decide) hW hr5 hb5 hG (by omega) (by omega) (jq_I (fun m8 h8 => ?_))
      have e55 : m5 155 (i : Int) = μ 155 i := by rw [h5, h4, jm_up_ne (by decide), jm_up_ne (by decide)]; exact x2
      have e2 : sSt ρ b i = sFd ρ 2 i b := rfl
      rw [e55, e2, jm_or_bit k2.1 (by omega) d2.1 (by omega)] at h8
      rw [jm_wr_id (by omega) (by omega)]
      have e8 : ∀ p, p < 153 ∨ 155 < p → m8 p = ξ p := fun p hp => by rw [h8, h5, h4, jm_up_ne (by omega), jm_up_ne (by omega), jm_up_ne (by omega)]
      refine ih (i + 1) m8 (by omega) (by omega) (fun p hp => (e8 p hp).trans (g3 p hp)) (fun f j f0 f1 j0 j1 => ?_) (fun f j f0 f1 j0 => ?_)
      · have hf : f = 0 ∨ f = 1 ∨ f = 2 := by omega
        by_cases hj : j = i
        · subst hj
          rcases hf with rfl | rfl | rfl
          · show m8 153 (i : Int) = sor (μ 153 i) _
            rw [h8, jm_up_lj (by decide), h5, jm_up_lj (by decide), h4, jm_up_at]
          · show m8 154 (i : Int) = sor (μ 154 i) _
            rw [h8, jm_up_lj (by decide), h5, jm_up_at]
          · show m8 155 (i : Int) = sor (μ 155 i) _
            rw [h8, jm_up_at]
        · have := g4 f j f0 f1 j0 (by omega)
          rw [← this, h8, jm_up_oi hj, h5, jm_up_oi hj, h4, jm_up_oi hj]
      · have hj : j ≠ i := by omega
        rw [← g5 f j f0 f1 (by omega), h8, jm_up_oi hj, h5, jm_up_oi hj, h4, jm_up_oi hj]
  exact key N 0 μ (by omega) (by omega) (fun _ _ => rfl) (fun f j _ _ j0 j1 => absurd j1 (by omega)) (fun _ _ _ _ _ => rfl)
end MF
