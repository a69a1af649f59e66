theorem tPl.a {a p c : Int} (h : tPl a p c) : 21 ≤ a ∧ a + 15 < 100 := by
  have := h.1; omega
theorem tPl.p {a p c : Int} (h : tPl a p c) : 3 ≤ p ∧ p + 8 < 120 := by
  have := h.2.1; omega
theorem tA.of {μ ν : jm_M} {ρ : sR} {a p c : Int} {b : sB} (h : tA μ ρ a p c b) (hf : ∀ q, (p ≤ q ∧ q ≤ p + 8) ∨ q = a ∨ (a + 10 ≤ q ∧ q ≤ a + 15) → ν q = μ q) : tA ν ρ a p c b := by
  obtain ⟨hP, hp, hW, hr, hb, hG, hc⟩ := h
  have ea := hf a (by omega)
  exact ⟨hP, by rw [ea]; exact hp, hW, tRu_of (fun q q0 q1 => hf q (by omega)) hr, ⟨by rw [ea]; exact hb.1, by rw [ea]; exact hb.2.1, fun f t f0 f1 t0 t1 => by rw [hf _ (by omega)]; exact hb.2.2 f t f0 f1 t0 t1⟩, hG, hc⟩
theorem tA.up {μ : jm_M} {ρ : sR} {a p c q i v : Int} {b : sB} (h : tA μ ρ a p c b) (hq : 120 < q) : tA (jm_up μ q i v) ρ a p c b :=
  h.of (fun x hx => jm_up_ne (by have := h.1.a; have := h.1.p; omega))
section TF
variable {E : jm_E} {d : Nat} {μ : jm_M} {Q : Option jm_V → jm_M → Prop} {ρ : sR} {a p : Int} {b : sB} {w st sil : Int}
end TF
