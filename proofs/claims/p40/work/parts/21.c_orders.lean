/-! orders of the minutes -/
def sOr (ρ : sR) (mn : Nat) (mt : Int → Int) : Nat → Int → sB → List (List Int)
  | 0, _, _ => [[]]
  | r + 1, u, b => sFl (fun t => if sbt u t = true then [] else if sWr ρ b (mt (2 * t)) (mt (2 * t + 1)) = 0 then (sOr ρ mn mt r (sor u t) (sPush ρ b (mt (2 * t)) (mt (2 * t + 1)))).map (fun l => t :: l) else []) mn 0
theorem sOr_len {ρ : sR} {mn : Nat} {mt : Int → Int} (hn : mn ≤ 7) : ∀ (r : Nat) (u : Int) (b : sB), ((sOr ρ mn mt r u b).length : Int) ≤ 7 ^ r
  | 0, _, _ => by simp [sOr]
  | r + 1, u, b => by
    have c0 : (0 : Int) ≤ 7 ^ r := by exact_mod_cast Nat.zero_le (7 ^ r)
    have h := sFl_len (g := fun t => if sbt u t = true then [] else if sWr ρ b (mt (2 * t)) (mt (2 * t + 1)) = 0 then (sOr ρ mn mt r (sor u t) (sPush ρ b (mt (2 * t)) (mt (2 * t + 1)))).map (fun l => t :: l) else []) c0 mn 0 (fun t t0 t1 => by
      show ((if sbt u t = true then [] else if sWr ρ b (mt (2 * t)) (mt (2 * t + 1)) = 0 then (sOr ρ mn mt r (sor u t) (sPush ρ b (mt (2 * t)) (mt (2 * t + 1)))).map (fun l => t :: l) else [] : List (List Int)).length : Int) ≤ 7 ^ r
      split
      · simpa using c0
      · split
        · rw [List.length_map]
          exact sOr_len hn r _ _
        · simpa using c0)
    have h2 : (mn : Int) * 7 ^ r ≤ 7 * 7 ^ r := Int.mul_le_mul_of_nonneg_right (by omega) c0
    have e : (7 : Int) ^ (r + 1) = 7 * 7 ^ r := by rw [Int.pow_succ, Int.mul_comm]
    rw [e]
    exact Int.le_trans h h2
section MO
variable {E : jm_E} {d : Nat} {μ : jm_M} {Q : Option jm_V → jm_M → Prop} {ρ : sR} {mn : Nat} {mt : Int → Int}
end MO
