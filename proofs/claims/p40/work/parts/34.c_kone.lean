theorem kFe.U {ν ξ ζ : jm_M} {e : Int × Int} (h : kFe kU ν ξ e) (f : ∀ x, x < 79 ∨ 82 < x → ζ x = ξ x) : kFe kU ν ζ e := ⟨fun x x1 hw => by rw [f x (by have : ¬ (79 ≤ x ∧ x ≤ 82) := hw; omega)]; exact h.1 x x1 hw, fun j hj => by rw [f 1 (by decide)]; exact h.2.1 j hj, by rw [f 1 (by decide)]; exact h.2.2.1, by rw [f 1 (by decide)]; exact h.2.2.2⟩
section KR
variable {E : jm_E} {d : Nat} {μ : jm_M} {Q : Option jm_V → jm_M → Prop} {τ : Int → Int} {n lim p : Int} {T : zTs} {S : zSs}
end KR
