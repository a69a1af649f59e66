theorem tA.fr2 {μ ν : jm_M} {σ : sR} {a a' p p' c c' : Int} {b : sB} (h : tA μ σ a' p' c' b) (hP : tPl a p c) (hne : a ≠ a') (hf : tFr a μ ν) : tA ν σ a' p' c' b :=
  h.of (fun x hx => by
    have hs := (show tPl a p' c from ⟨hP.1, h.1.2.1, hP.2.2⟩).sep
    have h1 := hP.1
    have h2 := h.1.1
    rcases hx with hx | hx
    · exact hf.1 x (hs x hx.1 hx.2).1 (hs x hx.1 hx.2).2
    · exact hf.1 x (by omega) (by omega))
section TH
variable {E : jm_E} {d : Nat} {μ : jm_M} {Q : Option jm_V → jm_M → Prop} {ρ σ : sR} {p q : Int}
end TH
