theorem sFl_iff {α : Type} {g : Int → List α} {v : α} : ∀ (m : Nat) (k : Int), v ∈ sFl g m k ↔ ∃ j, k ≤ j ∧ j < k + m ∧ v ∈ g j
  | 0, k => by
    constructor
    · intro h
      cases h
    · rintro ⟨j, h1, h2, _⟩
      omega
  | m + 1, k => by
    unfold sFl
    rw [List.mem_append, sFl_iff m (k + 1)]
    constructor
    · rintro (h | ⟨j, h1, h2, h3⟩)
      · exact ⟨k, by omega, by omega, h⟩
      · exact ⟨j, by omega, by omega, h3⟩
    · rintro ⟨j, h1, h2, h3⟩
      by_cases hj : j = k
      · subst hj; exact Or.inl h3
      · exact Or.inr ⟨j, by omega, by omega, h3⟩
