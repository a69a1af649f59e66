section KS
variable {E : jm_E} {d : Nat} {μ : jm_M} {Q : Option jm_V → jm_M → Prop} {τ : Int → Int} {n lim p : Int} {T : zTs} {S : zSs}
abbrev kU : Int → Prop := fun x => 79 ≤ x ∧ x ≤ 82
end KS
