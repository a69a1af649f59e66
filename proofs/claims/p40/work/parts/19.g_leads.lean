/-- a row of numbers from i on -/
def sPt (g : Int → Int) : Int → List Int → Prop
  | _, [] => True
  | i, x :: l => g i = x ∧ sPt g (i + 1) l
section MG
variable {E : jm_E} {d : Nat} {μ : jm_M} {Q : Option jm_V → jm_M → Prop} {ρ : sR} {b : sB} {w st sil : Int}
end MG
