/-! names, in the class and in the reference -/
section NM
variable {E : jm_E} {d : Nat} {μ : jm_M} {Q : Option jm_V → jm_M → Prop} {τ : Int → Int} {n lim p : Int}
theorem c_T_whoNamed {q v : Int} {ρ : sR} {nw : Int → Int} (hp : jm_is jm_N q 1 5) (hW : sWR ρ) (h0 : μ q 1 = ρ 0) (hn : ∀ i, 0 ≤ i → i < ρ 0 → μ (q + 1) i = nw i) (h : Q (some (jm_I (zFd nw v (ρ 0).toNat 0))) μ) : jc E m_X5_whoNamed (d + 1) [jm_R q, jm_L v] μ Q := by
  have w0 := hW.1
  have w1 := hW.2.1
  refine e_X5_whoNamed (fun _ => ?_)
  have key : ∀ (m : Nat) (i : Int), 0 ≤ i → i + m = ρ 0 → Q (some (jm_I (zFd nw v m i))) μ → jg E m_X5_whoNamed d 2 [some (jm_R q), some (jm_L v), none, some (jm_I i)] [] μ Q := by
    intro m
    induction m with
    | zero =>
      intro i g1 g2 g3
      refine r_X5_whoNamed_2 ⟨hp, fun _ => g3, fun z => absurd (by rw [h0]; omega) z⟩
    | succ m ih =>
      intro i g1 g2 g3
      rw [zFd] at g3
      refine r_X5_whoNamed_2 ⟨hp, fun z => absurd z (by rw [h0]; omega), fun _ => ⟨fun z => absurd z (by omega), fun _ => ⟨⟨by omega, by omega⟩, ?_⟩⟩⟩
      rw [hn i g1 (by omega), jm_wr_id (by omega) (by omega)]
      refine ⟨fun z => ?_, fun z => ?_⟩
      · rw [if_neg (jm_cmp_ne.mp z)] at g3
        exact ih (i + 1) (by omega) (by omega) g3
      · rw [if_pos (Decidable.not_not.mp (fun y => z (jm_cmp_ne.mpr y)))] at g3
        exact g3
  exact key (ρ 0).toNat 0 (by decide) (by omega) h
theorem c_T_kindNamed {q v : Int} {ρ : sR} {nk : Int → Int} (hp : jm_is jm_N q 1 5) (hW : sWR ρ) (h0 : μ q 4 = ρ 1) (hn : ∀ i, 0 ≤ i → i < ρ 1 → μ (q + 3) i = nk i) (h : Q (some (jm_I (zFd nk v (ρ 1).toNat 0))) μ) : jc E m_X5_kindNamed (d + 1) [jm_R q, jm_L v] μ Q := by
  have w0 := hW.2.2.1
  have w1 := hW.2.2.2.1
  refine e_X5_kindNamed (fun _ => ?_)
  have key : ∀ (m : Nat) (i : Int), 0 ≤ i → i + m = ρ 1 → Q (some (jm_I (zFd nk v m i))) μ → jg E m_X5_kindNamed d 2 [some (jm_R q), some (jm_L v), none, some (jm_I i)] [] μ Q := by
    intro m
    induction m with
    | zero =>
      intro i g1 g2 g3
      refine r_X5_kindNamed_2 ⟨hp, fun _ => g3, fun z => absurd (by rw [h0]; omega) z⟩
    | succ m ih =>
      intro i g1 g2 g3
      rw [zFd] at g3
      refine r_X5_kindNamed_2 ⟨hp, fun z => absurd z (by rw [h0]; omega), fun _ => ⟨fun z => absurd z (by omega), fun _ => ⟨⟨by omega, by omega⟩, ?_⟩⟩⟩
      rw [hn i g1 (by omega), jm_wr_id (by omega) (by omega)]
      refine ⟨fun z => ?_, fun z => ?_⟩
      · rw [if_neg (jm_cmp_ne.mp z)] at g3
        exact ih (i + 1) (by omega) (by omega) g3
      · rw [if_pos (Decidable.not_not.mp (fun y => z (jm_cmp_ne.mpr y)))] at g3
        exact g3
  exact key (ρ 1).toNat 0 (by decide) (by omega) h
theorem c_K_kindHere {q : Int} {ρ : sR} {nw : Int → Int} (h0 : kAt μ τ n lim p) (hp : jm_is jm_N q 1 5) (hW : sWR ρ) (h4 : μ q 4 = ρ 1) (hn : ∀ i, 0 ≤ i → i < ρ 1 → μ (q + 3) i = nw i) (h1 : ∀ e, zNH (sTok τ n lim) nw (ρ 1) p = .error e → ∀ ν, kEr μ ν e.1 e.2 → Q (some (jm_I (-1))) ν) (h2 : ∀ a, zNH (sTok τ n lim) nw (ρ 1) p = .ok a → Q (some (jm_I a)) μ) : jc E m_X7_kindHere (d + 2) [jm_R 1, jm_R q] μ Q := by
  have e5 := h0.2.2.2.2.2.2.1
  refine e_X7_kindHere (d := d + 1) (fun _ => c_K_isName h0 (fun a b => jq_Z (jb_f (by decide) ⟨hp, ?_⟩)) (fun z => jq_Z (jb_t rfl (c_K_isName h0 (fun a b => absurd ⟨a, b⟩ z) (fun _ => jq_Z (jb_t rfl ?_))))))
  · rw [(h0.2.2.2.2.2.2.2.2.2.1 a).2.1]
    refine c_T_kindNamed hp hW h4 hn (jq_I ⟨fun y => h2 _ ?_, fun y => c_K_isName h0 (fun _ _ => jq_Z (jb_f (by decide) ?_)) (fun z => absurd ⟨a, b⟩ z)⟩)
    · unfold zNH; rw [if_neg (Decidable.not_not.mpr ⟨a, b⟩), if_neg y]
    · rw [e5]
      have y1 := Decidable.not_not.mp y
      refine c_K_fails (fun ν er => jq_Z ?_)
      rw [y1]
      exact h1 (3, _) (by unfold zNH; rw [if_neg (Decidable.not_not.mpr ⟨a, b⟩), if_pos y1]; rfl) ν er
  · rw [e5]
    exact c_K_fails (fun ν er => jq_Z (h1 (1, _) (by unfold zNH; rw [if_pos z]; rfl) ν er))
end NM
