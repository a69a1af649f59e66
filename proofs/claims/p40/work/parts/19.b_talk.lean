section MT
variable {E : jm_E} {d : Nat} {μ : jm_M} {Q : Option jm_V → jm_M → Prop} {ρ : sR} {w : Int → Int} {n : Nat}
/-- is it a word, and is there room; why it is wrong -/
def sTry (ρ : sR) (w : Int → Int) (n : Nat) (who k : Int) : Int := if (0 ≤ who ∧ who < ρ 0) ∧ (0 ≤ k ∧ k < ρ 1) ∧ n < 400 then sWr ρ (sLay ρ w n) who k else -1
end MT
