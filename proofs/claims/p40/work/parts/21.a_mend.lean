/-! mending -/
theorem sCnt_z {p : Int → Bool} : ∀ (m : Nat) (t c : Int), (sCnt p m t c = c ↔ ∀ k, t ≤ k → k < t + m → p k = false)
  | 0, t, c => ⟨fun _ k k0 k1 => by omega, fun _ => rfl⟩
  | m + 1, t, c => by
    rw [sCnt]
    have h := sCnt_le p m (t + 1) (if p t then c + 1 else c)
    have ih := sCnt_z (p := p) m (t + 1)
    by_cases hp : p t = true
    · rw [if_pos hp] at h ⊢
      refine ⟨fun q => by omega, fun q => ?_⟩
      have := q t (Int.le_refl _) (by omega)
      rw [hp] at this
      cases this
    · rw [if_neg hp]
      have hf : p t = false := by cases hh : p t; rfl; exact absurd hh hp
      rw [ih c]
      refine ⟨fun q k k0 k1 => ?_, fun q k k0 k1 => q k (by omega) (by omega)⟩
      by_cases hk : k = t
      · rw [hk]; exact hf
      · exact q k (by omega) (by omega)
def sTorn (mn : Nat) (mt : Int → Int) : Int := sCnt (fun k => decide (mt k = -1)) (2 * mn) 0 0
theorem sTorn_0 {mn : Nat} {mt : Int → Int} : sTorn mn mt = 0 ↔ ∀ k : Int, 0 ≤ k → k < 2 * mn → mt k ≠ -1 := by
  unfold sTorn
  rw [sCnt_z]
  refine ⟨fun h k k0 k1 => of_decide_eq_false (h k k0 (by omega)), fun h k k0 k1 => decide_eq_false (h k k0 (by omega))⟩
/-- how many bits -/
def sBc : Nat → Nat → Nat
  | 0, _ => 0
  | f + 1, n => n % 2 + sBc f (n / 2)
section MM
variable {E : jm_E} {d : Nat} {μ : jm_M} {Q : Option jm_V → jm_M → Prop} {ρ : sR} {mn : Nat} {mt : Int → Int}
end MM
