theorem sGB_empty {ρ : sR} : sGB ρ sEmpty := ⟨by decide, by decide, by decide, by decide, fun t t0 t1 => absurd (show t < 0 from t1) (by omega)⟩
section MJ
variable {E : jm_E} {d : Nat} {μ : jm_M} {Q : Option jm_V → jm_M → Prop} {ρ σ : sR} {b c : sB} {e : Int}
end MJ
