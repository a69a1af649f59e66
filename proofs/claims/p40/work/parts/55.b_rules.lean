/-! the law asks the class for its rules -/
/-- what the law makes of a kind's answers -/
abbrev pK3 (E : jm_E) (C2 S2 cs sl : Nat) (k : Int) (Q : Option jm_V → jm_M → Prop) : Option jm_V → jm_M → Prop := fun o m => ∀ r : Int, o = some (jm_I r) → (0 ≤ 20 + k ∧ 20 + k < 32) ∧ ((r = m 134 (20 + k) → jm_G E m_L_law (jm_rm (60 + 1) C2 S2) jm_N jm_N cs sl 245 [some (jm_R (-2)), some (jm_R 0), none, some (jm_R 134), some (jm_R 135), some (jm_R 136), some (jm_I (k + 1)), none, none, none, none, none, none, none, none] [] m Q) ∧ (¬ (r = m 134 (20 + k)) → Q (some (jm_I 0)) m))
abbrev pK2 (E : jm_E) (C2 S2 cs sl : Nat) (k : Int) (Q : Option jm_V → jm_M → Prop) : Option jm_V → jm_M → Prop := fun o m => ∀ r : Int, o = some (jm_I r) → ((k ≠ 1 → ((r ≠ 0 → Q (some (jm_I 0)) m) ∧ (¬ (r ≠ 0) → jm_Ch E m_L_kind [(0, 6, 7, 161)] 60 [jm_R 0, jm_I k, jm_I 3] m (pK3 E C2 S2 cs sl k Q)))) ∧ (¬ (k ≠ 1) → ((r ≠ m 134 11 → Q (some (jm_I 0)) m) ∧ (¬ (r ≠ m 134 11) → jm_Ch E m_L_kind [(0, 6, 7, 161)] 60 [jm_R 0, jm_I k, jm_I 3] m (pK3 E C2 S2 cs sl k Q)))))
section LA
variable {E : jm_E} {C2 S2 cs sl : Nat} {μ ξ : jm_M} {Q : Option jm_V → jm_M → Prop} {ρ : sR} {w : Int → Int} {n : Nat}
theorem law_210 (hc : cs + 9 ≤ C2) (hs : sl + 120 ≤ S2) (hV : pVf μ ρ) (hT : tTl μ ρ w n)
    (h : jm_G E m_L_law (jm_rm (60 + 1) C2 S2) jm_N jm_N cs sl 245 [some (jm_R (-2)), some (jm_R 0), none, some (jm_R 134), some (jm_R 135), some (jm_R 136), some (jm_I 0), none, none, none, none, none, none, none, none] [] μ Q) :
    jm_G E m_L_law (jm_rm (60 + 1) C2 S2) jm_N jm_N cs sl 210 [some (jm_R (-2)), some (jm_R 0), none, some (jm_R 134), some (jm_R 135), some (jm_R 136), some (jm_I 0), none, none, none, none, none, none, none, none] [] μ Q := by
  have v0 := hV.1
  have e0 : μ 134 0 = ρ 0 := hV.2.2.2.1
  have e8 := hV.2.2.2.2.2.2.2.2.1
  have loop : ∀ (f v : Nat), (v : Int) + f = ρ 0 → jm_G E m_L_law (jm_rm (60 + 1) C2 S2) jm_N jm_N cs sl 210 [some (jm_R (-2)), some (jm_R 0), none, some (jm_R 134), some (jm_R 135), some (jm_R 136), some (jm_I (v : Int)), none, none, none, none, none, none, none, none] [] μ Q := by
    intro f
    induction f with
    | zero =>
      intro v hv
      exact r_L_law_210 (d := 60) hc hs ⟨fun _ => h, fun z => absurd (by omega) z⟩
    | succ f ih =>
      intro v hv
      have k1 : jm_wr (8 + (v : Int)) = 8 + (v : Int) := jm_wr_id (by omega) (by omega)
      have k2 : jm_wr ((v : Int) + 1) = ((v + 1 : Nat) : Int) := by rw [jm_wr_id (by omega) (by omega)]; omega
      refine r_L_law_210 (d := 60) hc hs ⟨fun z => absurd z (by omega), fun _ => ?_⟩
      rw [k1, k2]
      refine c_C_rank (d := 58) hT (jq_I ⟨by omega, fun _ => ih (v + 1) (by omega), fun z => absurd ?_ z⟩)
      rw [if_pos ⟨by omega, by omega⟩, e8 _ (by omega) (by omega)]
  have := loop (ρ 0).toNat 0 (by omega)
  exact this
theorem kind_of {k x a : Int} (hW : sWR ρ) (hr : tRu μ 3 ρ) (h1 : ρ 1 = 7) (k0 : 0 ≤ k) (k7 : k < 7) (x0 : 0 ≤ x) (x3 : x ≤ 3) (ha : ρ (20 + 4 * k + x) = a) (h : Q (some (jm_I a)) μ) : jm_Ch E m_L_kind [(0, 6, 7, 161)] 60 [jm_R 0, jm_I k, jm_I x] μ Q :=
  x_L_kind (d := 53) hW hr (fun z => absurd ⟨⟨k0, by omega⟩, x0, x3⟩ z) (fun _ _ _ _ => by rw [ha]; exact h)
theorem law_245 (hc : cs + 37 ≤ C2) (hs : sl + 288 ≤ S2) (hx : jm_xp E = 0) (hV : pVf μ ρ) (hW : sWR ρ) (hr : tRu μ 3 ρ)
    (h : ∀ z : Nat, jm_N ≤ z → jm_G (jm_setx E z) m_L_law (jm_rm (60 + 1) C2 S2) jm_N jm_N (cs + 29) (sl + 228) 349 [some (jm_R (-2)), some (jm_R 0), none, some (jm_R 134), some (jm_R 135), some (jm_R 136), some (jm_R ((z : Int))), none, none, none, none, none, none, none, none] [] μ Q) :
    jm_G E m_L_law (jm_rm (60 + 1) C2 S2) jm_N jm_N cs sl 245 [some (jm_R (-2)), some (jm_R 0), none, some (jm_R 134), some (jm_R 135), some (jm_R 136), some (jm_I 0), none, none, none, none, none, none, none, none] [] μ Q := by
  obtain ⟨-, v1, -, p0, -, -, -, -, -, p11, vsp, vk⟩ := hV
  have loop : ∀ (f k cs1 sl1 : Nat), k + f = 7 → cs1 + 4 * f = cs + 28 → sl1 + 24 * f = sl + 168 → jm_G E m_L_law (jm_rm (60 + 1) C2 S2) jm_N jm_N cs1 sl1 245 [some (jm_R (-2)), some (jm_R 0), none, some (jm_R 134), some (jm_R 135), some (jm_R 136), some (jm_I (k : Int)), none, none, none, none, none, none, none, none] [] μ Q := by
    intro f
    induction f with
    | zero =>
      intro k cs1 sl1 hk h1 h2
      refine r_L_law_245 (d := 60) (by omega) (by omega) ⟨fun _ => ⟨hx, fun z hz => ?_⟩, fun z => absurd (by omega) z⟩
      rw [show cs1 + 1 = cs + 29 by omega, show sl1 + 60 = sl + 228 by omega]
      exact h z hz
    | succ f ih =>
      intro k cs1 sl1 hk h1 h2
      have k1 : jm_wr (12 + (k : Int)) = 12 + (k : Int) := jm_wr_id (by omega) (by omega)
      have k2 : jm_wr ((k : Int) + 1) = (k : Int) + 1 := jm_wr_id (by omega) (by omega)
      have k3 : jm_wr (20 + (k : Int)) = 20 + (k : Int) := jm_wr_id (by omega) (by omega)
      obtain ⟨g0, g3, g1, g2⟩ := vk (k : Int) (by omega) (by omega)
      have q0 : ρ (20 + 4 * (k : Int) + 0) = sOp ρ (k : Int) := by unfold sOp; exact congrArg ρ (by omega)
      have q1 : ρ (20 + 4 * (k : Int) + 1) = pDo (k : Int) := by rw [← g1]; unfold sDo; exact congrArg ρ (by omega)
      have q2 : ρ (20 + 4 * (k : Int) + 2) = pDu (sDu ρ 1) (k : Int) := by rw [← g2]; unfold sDu; exact congrArg ρ (by omega)
      have q3 : ρ (20 + 4 * (k : Int) + 3) = sMa ρ (k : Int) := by unfold sMa; exact congrArg ρ (by omega)
      have nx : jm_G E m_L_law (jm_rm (60 + 1) C2 S2) jm_N jm_N (cs1 + 4) (sl1 + 24) 245 [some (jm_R (-2)), some (jm_R 0), none, some (jm_R 134), some (jm_R 135), some (jm_R 136), some (jm_I ((k : Int) + 1)), none, none, none, none, none, none, none, none] [] μ Q := ih (k + 1) (cs1 + 4) (sl1 + 24) (by omega) (by omega) (by omega)
      refine r_L_law_245 (d := 60) (by omega) (by omega) ⟨fun z => absurd z (by omega), fun _ => ?_⟩
      rw [k1, k2, k3]
      refine kind_of hW hr v1 (by omega) (by omega) (by decide) (by decide) q0 (jq_I ⟨by omega, fun z => absurd g0.symm z, fun _ => ?_⟩)
      have last : jm_Ch E m_L_kind [(0, 6, 7, 161)] 60 [jm_R 0, jm_I (k : Int), jm_I 3] μ (pK3 E C2 S2 (cs1 + 4) (sl1 + 24) (k : Int) Q) :=
        kind_of hW hr v1 (by omega) (by omega) (by decide) (by decide) q3 (jq_I ⟨by omega, fun _ => nx, fun z => absurd g3.symm z⟩)
      have third : jm_Ch E m_L_kind [(0, 6, 7, 161)] 60 [jm_R 0, jm_I (k : Int), jm_I 2] μ (pK2 E C2 S2 (cs1 + 4) (sl1 + 24) (k : Int) Q) :=
        kind_of hW hr v1 (by omega) (by omega) (by decide) (by decide) q2 (jq_I ⟨fun z => ⟨fun y => absurd (by unfold pDu; rw [if_neg z]) y, fun _ => last⟩, fun z => ⟨fun y => absurd (by rw [p11]; unfold pDu; rw [if_pos (by omega)]) y, fun _ => last⟩⟩)
      refine kind_of hW hr v1 (by omega) (by omega) (by decide) (by decide) q1 (jq_I ⟨fun z => ⟨fun y => absurd (by unfold pDo; rw [if_neg (by omega)]) y, fun _ => third⟩, fun z => ⟨fun y => absurd (by unfold pDo; rw [if_pos (by omega)]) y, fun _ => third⟩⟩)
  exact loop 7 0 cs sl (by decide) (by omega) (by omega)
/-- the law looks at the moves it was given -/
theorem law_349 (hc : cs + 9 ≤ C2) (hs : sl + 120 ≤ S2) (hx : jm_xp E ≠ 0) (hL : jm_sL E < 2147483648)
    (h : jm_G E m_L_law (jm_rm (60 + 1) C2 S2) jm_N jm_N cs sl 390 [none, some (jm_R 0), none, some (jm_R 134), some (jm_R 135), some (jm_R 136), some (jm_R ((jm_xp E : Int))), none, none, none, none, none, none, none, none] [] μ Q) :
    jm_G E m_L_law (jm_rm (60 + 1) C2 S2) jm_N jm_N cs sl 349 [some (jm_R (-2)), some (jm_R 0), none, some (jm_R 134), some (jm_R 135), some (jm_R 136), some (jm_R ((jm_xp E : Int))), none, none, none, none, none, none, none, none] [] μ Q := by
  have loop : ∀ (f v : Nat), v + f = 60 → jm_G E m_L_law (jm_rm (60 + 1) C2 S2) jm_N jm_N cs sl 355 [some (jm_R (-2)), some (jm_R 0), none, some (jm_R 134), some (jm_R 135), some (jm_R 136), some (jm_R ((jm_xp E : Int))), some (jm_I (v : Int)), some (jm_I ((v : Int) + 2)), none, none, none, none, none, none] [] μ Q := by
    intro f
    induction f with
    | zero =>
      intro v hv
      exact r_L_law_355 (d := 60) hc hs ⟨hL, fun _ => h, fun _ => ⟨fun _ => h, fun z => absurd (by omega) z⟩⟩
    | succ f ih =>
      intro v hv
      have k1 : jm_wr ((v : Int) + 1) = ((v + 1 : Nat) : Int) := by rw [jm_wr_id (by omega) (by omega)]; omega
      have k2 : jm_wr ((v : Int) + 2 + 1) = ((v + 1 : Nat) : Int) + 2 := by rw [jm_wr_id (by omega) (by omega)]; omega
      refine r_L_law_355 (d := 60) hc hs ⟨hL, fun _ => h, fun z => ⟨fun _ => h, fun _ => ⟨⟨by omega, by omega⟩, hx, ⟨by omega, by omega⟩, ?_⟩⟩⟩
      rw [k1, k2]
      exact ih (v + 1) (by omega)
  exact r_L_law_349 (d := 60) hc hs (loop 60 0 (by decide))
end LA
