def sTorn (mn : Nat) (mt : Int → Int) : Int := sCnt (fun k => decide (mt k = -1)) (2 * mn) 0 0
/-- how many bits -/
def sBc : Nat → Nat → Nat
  | 0, _ => 0
  | f + 1, n => n % 2 + sBc f (n / 2)
section MM
variable {E : jm_E} {d : Nat} {μ : jm_M} {Q : Option jm_V → jm_M → Prop} {ρ : sR} {mn : Nat} {mt : Int → Int}
end MM
