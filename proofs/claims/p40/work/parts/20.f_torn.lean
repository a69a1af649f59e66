/-! torn minutes without a word, or with two words exchanged -/
def sSw (sw t : Int) : Int := if t = sw then t + 1 else if sw ≠ -1 ∧ t = sw + 1 then t - 1 else t
def sDp (wo q : Int) : Int := if 0 ≤ wo ∧ wo ≤ q then q + 1 else q
def sTq (mt : Int → Int) (wo sw : Int) : Int → Int := fun i => mt (2 * sSw sw (sDp wo (i / 2)) + i % 2)
def sTn (mn : Nat) (wo : Int) : Nat := if 0 ≤ wo then mn - 1 else mn
section MX
variable {E : jm_E} {d : Nat} {μ : jm_M} {Q : Option jm_V → jm_M → Prop} {ρ : sR} {mn : Nat} {mt : Int → Int}
end MX
