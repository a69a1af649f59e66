def sSpk (b : sB) (who k t : Int) : Bool := decide ((who = -1 ∨ b.1 0 t = who) ∧ (k = -1 ∨ b.1 1 t = k))
section MP
variable {E : jm_E} {d : Nat} {μ : jm_M} {Q : Option jm_V → jm_M → Prop} {ρ : sR} {w : Int → Int} {n : Nat}
end MP
