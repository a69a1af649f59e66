/-- torn minutes that can be told -/
def sVM (ρ : sR) (mn : Nat) (mt : Int → Int) : Prop := mn ≤ 24 ∧ (∀ t : Int, 0 ≤ t → t < mn → (mt (2 * t) = -1 ∨ 0 ≤ mt (2 * t) ∧ mt (2 * t) < ρ 0) ∧ (mt (2 * t + 1) = -1 ∨ 0 ≤ mt (2 * t + 1) ∧ mt (2 * t + 1) < ρ 1)) ∧ sCnt (fun k => decide (mt k = -1)) (2 * mn) 0 0 ≤ 8
section MW
variable {E : jm_E} {d : Nat} {μ : jm_M} {Q : Option jm_V → jm_M → Prop} {ρ : sR} {mn : Nat} {mt : Int → Int}
end MW
