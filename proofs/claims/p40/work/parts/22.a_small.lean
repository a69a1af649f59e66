/-! small answers of the reference -/
section MS
variable {E : jm_E} {d : Nat} {μ : jm_M} {Q : Option jm_V → jm_M → Prop} {ρ : sR}
/-- counts: of the table, of words, of minutes, of bytes -/
def sCo (ρ : sR) (n mn len x : Int) : Int :=
  if x = 0 then ρ 0 else if x = 1 then ρ 1 else if x = 2 then ρ 2 else if x = 3 then (if ρ 3 = 0 then 1 else ρ 3) else if x = 4 then ρ 4 else if x = 5 then ρ 5
  else if x = 6 then n else if x = 7 then mn else if x = 8 then len else -1
/-- the tape: bytes and how many -/
def sBt (x k : Int) : Int := jm_and (jm_ushr x k) 255
/-- four bytes more -/
def sCm (τ : Int → Int) (n x : Int) : Int → Int := sUp (sUp (sUp (sUp τ n (sBt x 24)) (n + 1) (sBt x 16)) (n + 2) (sBt x 8)) (n + 3) (sBt x 0)
def sFeed (τ : Int → Int) (n a b c f g : Int) : Int → Int := sCm (sCm (sCm (sCm (sCm τ n a) (n + 4) b) (n + 8) c) (n + 12) f) (n + 16) g
end MS
