theorem sBc_add : ∀ (f n k : Nat), n < 2 ^ k → k < f → sBc f (n + 2 ^ k) = sBc f n + 1
  | 0, _, k, _, hk => absurd hk (by omega)
  | f + 1, n, 0, hn, _ => by
    have : n = 0 := by rw [Nat.pow_zero] at hn; omega
    subst this
    show (0 + 2 ^ 0) % 2 + sBc f ((0 + 2 ^ 0) / 2) = 0 % 2 + sBc f (0 / 2) + 1
    rw [show (0 + 2 ^ 0) % 2 = 1 from rfl, show (0 + 2 ^ 0) / 2 = 0 from rfl]
    omega
  | f + 1, n, k + 1, hn, hk => by
    have e1 : (n + 2 ^ (k + 1)) % 2 = n % 2 := by rw [Nat.pow_succ]; omega
    have e2 : (n + 2 ^ (k + 1)) / 2 = n / 2 + 2 ^ k := by rw [Nat.pow_succ]; omega
    unfold sBc
    rw [e1, e2, sBc_add f (n / 2) k (by rw [Nat.pow_succ] at hn; omega) (by omega)]
    omega
theorem sor_add {bits t : Nat} (h : bits < 2 ^ t) : sor bits t = ((bits + 2 ^ t : Nat) : Int) := by
  unfold sor
  rw [Int.toNat_natCast, Int.toNat_natCast, Nat.or_comm]
  have := Nat.two_pow_add_eq_or_of_lt h 1
  rw [Nat.mul_one] at this
  rw [← this, Nat.add_comm]
section WL
variable {E : jm_E} {d : Nat} {μ : jm_M} {Q : Option jm_V → jm_M → Prop} {ρ : sR} {p : Int} {mn : Nat} {mt : Int → Int}
end WL
