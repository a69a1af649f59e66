def sWord (ρ : sR) (b : sB) (t what : Int) : Int :=
  if what = 0 then b.1 0 t else if what = 1 then b.1 1 t else if what = 2 then b.1 2 t else if what = 3 then b.1 3 t else if what = 4 then b.1 4 t else if what = 5 then sSt ρ b t
  else if what = 6 then (if sDo ρ (b.1 1 t) = 2 then b.1 0 (b.1 2 t) else -1) else (if sDo ρ (b.1 1 t) = 2 then t + sDu ρ (b.1 1 t) else -1)
section MW
variable {E : jm_E} {d : Nat} {μ : jm_M} {Q : Option jm_V → jm_M → Prop} {ρ : sR} {w : Int → Int} {n : Nat}
end MW
