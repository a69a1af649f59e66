/-! torn minutes without a word, or with two words exchanged -/
def sSw (sw t : Int) : Int := if t = sw then t + 1 else if sw ≠ -1 ∧ t = sw + 1 then t - 1 else t
def sDp (wo q : Int) : Int := if 0 ≤ wo ∧ wo ≤ q then q + 1 else q
def sTq (mt : Int → Int) (wo sw : Int) : Int → Int := fun i => mt (2 * sSw sw (sDp wo (i / 2)) + i % 2)
def sTn (mn : Nat) (wo : Int) : Nat := if 0 ≤ wo then mn - 1 else mn
section MX
variable {E : jm_E} {d : Nat} {μ : jm_M} {Q : Option jm_V → jm_M → Prop} {ρ : sR} {mn : Nat} {mt : Int → Int}
theorem c_M_layTorn {wo sw : Int} (hn : mn ≤ 24) (hM : mMn μ mn mt) (w0 : -1 ≤ wo) (w1 : wo < mn) (s0 : -1 ≤ sw) (s1 : sw = -1 ∨ sw + 1 < mn)
    (h : ∀ ν : jm_M, (∀ p, p ≠ 133 → p ≠ 152 → ν p = μ p) → (∀ i, i ≠ 42 → ν 133 i = μ 133 i) → ν 133 42 = sTn mn wo → (∀ i : Int, 0 ≤ i → i < 2 * sTn mn wo → ν 152 i = sTq mt wo sw i) → Q none ν) : jc E m_X11_layTorn (d + 1) [jm_R 133, jm_I wo, jm_I sw] μ Q := by
  refine e_X11_layTorn (d := d) (fun _ => ?_)
  have key : ∀ (m t c : Nat) (ξ : jm_M), mn - t = m → t ≤ mn → ((wo < 0 ∨ (t : Int) ≤ wo) ∧ c = t ∨ (0 ≤ wo ∧ wo < t) ∧ c + 1 = t) → (∀ p, p ≠ 133 → p ≠ 152 → ξ p = μ p) → (∀ i, i ≠ 42 → ξ 133 i = μ 133 i) → ξ 133 42 = c → (∀ i : Int, 0 ≤ i → i < 2 * c → ξ 152 i = sTq mt wo sw i) → jg E m_X11_layTorn d 7 [some (jm_R 133), some (jm_I wo), some (jm_I sw), some (jm_I t), none] [] ξ Q := by
    intro m
    induction m with
    | zero =>
      intro t c ξ g1 g2 g3 g4 g5 g6 g7
      have e861 : ξ 135 861 = mn := by rw [g4 135 (by decide) (by decide)]; exact hM.1
      refine r_X11_layTorn_7 (d := d) ⟨fun _ => ?_, fun z => absurd (show ξ 135 861 ≤ t by omega) z⟩
      have ec : c = sTn mn wo := by unfold sTn; split <;> omega
      subst ec
      exact h ξ g4 g5 g6 g7
    | succ m ih =>
      intro t c ξ g1 g2 g3 g4 g5 g6 g7
      have e861 : ξ 135 861 = mn := by rw [g4 135 (by decide) (by decide)]; exact hM.1
      have e1 : jm_wr ((t : Int) + 1) = ((t + 1 : Nat) : Int) := by rw [jm_wr_id (by omega) (by omega)]; omega
      have tail : ∀ x : Int, x = sSw sw t → 0 ≤ x → x < mn → (t : Int) ≠ wo →
          (0 ≤ jm_wr (862 + (jm_wr (2 * x))) ∧ jm_wr (862 + (jm_wr (2 * x))) < 1152) ∧
          (0 ≤ jm_wr (2 * (ξ 133 42)) ∧ jm_wr (2 * (ξ 133 42)) < 48) ∧
          ∀ m3 : jm_M, m3 = (jm_up ξ 152 (jm_wr (2 * (ξ 133 42))) (ξ 135 (jm_wr (862 + (jm_wr (2 * x)))))) →
          (0 ≤ jm_wr ((jm_wr (862 + (jm_wr (2 * x)))) + 1) ∧ jm_wr ((jm_wr (862 + (jm_wr (2 * x)))) + 1) < 1152) ∧
          (0 ≤ jm_wr ((jm_wr (2 * (m3 133 42))) + 1) ∧ jm_wr ((jm_wr (2 * (m3 133 42))) + 1) < 48) ∧
          ∀ m6 : jm_M, m6 = (jm_up m3 152 (jm_wr ((jm_wr (2 * (m3 133 42))) + 1)) (m3 135 (jm_wr ((jm_wr (862 + (jm_wr (2 * x)))) + 1)))) →
          jg E m_X11_layTorn d 7 [some (jm_R 133), some (jm_I wo), some (jm_I sw), some (jm_I (jm_wr ((t : Int) + 1))), none] [] (jm_up m6 133 42 (jm_wr ((m6 133 42) + 1))) Q := by
        intro x hx x0 x1 hne
        have a1 : jm_wr (2 * x) = 2 * x := jm_wr_id (by omega) (by omega)
        have a2 : jm_wr (862 + 2 * x) = 862 + 2 * x := jm_wr_id (by omega) (by omega)
        have a3 : jm_wr (862 + 2 * x + 1) = 862 + (2 * x + 1) := by rw [jm_wr_id (by omega) (by omega)]; omega
        have a4 : jm_wr (2 * (c : Int)) = 2 * c := jm_wr_id (by omega) (by omega)
        have a5 : jm_wr (2 * (c : Int) + 1) = 2 * c + 1 := jm_wr_id (by omega) (by omega)
        rw [a1, a2, a3, g6, a4]
        have e135 : ξ 135 = μ 135 := g4 135 (by decide) (by decide)
        refine ⟨⟨by omega, by omega⟩, ⟨by omega, by omega⟩, fun m3 h3 => ?_⟩
        have q1 : m3 133 42 = c := by rw [h3, jm_up_ne (by decide)]; exact g6
        rw [q1, a4, a5]
        refine ⟨⟨by omega, by omega⟩, ⟨by omega, by omega⟩, fun m6 h6 => ?_⟩
        have q2 : m6 133 42 = c := by rw [h6, jm_up_ne (by decide)]; exact q1
        have q3 : m3 135 = μ 135 := by rw [h3, jm_up_ne (by decide)]; exact e135
        rw [q2, e1, show jm_wr ((c : Int) + 1) = ((c + 1 : Nat) : Int) by rw [jm_wr_id (by omega) (by omega)]; omega]
        rw [q3, hM.2 (2 * x + 1) (by omega) (by omega)] at h6
        rw [e135, hM.2 (2 * x) (by omega) (by omega)] at h3
        refine ih (t + 1) (c + 1) _ (by omega) (by omega) (by omega) (fun p p1 p2 => ?_) (fun i hi => ?_) jm_up_at (fun i i0 i1 => ?_)
        · rw [jm_up_ne p1, h6, jm_up_ne p2, h3, jm_up_ne p2]; exact g4 p p1 p2
        · rw [jm_up_i hi, h6, jm_up_ne (by decide), h3, jm_up_ne (by decide)]; exact g5 i hi
        · rw [jm_up_ne (by decide), h6]
          have hd : sDp wo (c : Int) = t := by unfold sDp; split <;> omega
          by_cases c1 : i = 2 * c + 1
          · rw [c1, jm_up_at, sTq, show (2 * (c : Int) + 1) / 2 = c by omega, show (2 * (c : Int) + 1) % 2 = 1 by omega, hd, ← hx]
          · rw [jm_up_i c1, h3]
            by_cases c2 : i = 2 * c
            · rw [c2, jm_up_at, sTq, show (2 * (c : Int)) / 2 = c by omega, show (2 * (c : Int)) % 2 = 0 by omega, hd, ← hx, Int.add_zero]
            · rw [jm_up_i c2]
              exact g7 i i0 (by omega)
      refine r_X11_layTorn_7 (d := d) ⟨fun z => absurd z (by omega), fun _ => ⟨fun z => ⟨fun z2 => ⟨fun z3 => ?_, fun z3 => ⟨fun z4 => ?_, fun z4 x6 hx => ?_⟩⟩, fun z2 x13 hx => ?_⟩, fun z => ?_⟩⟩
      · rw [jm_wr_id (by omega) (by omega)] at z3
        exact r_X11_layTorn_56 (d := d) (tail t (by unfold sSw; rw [if_neg z2, if_neg (fun q => z3 q.2)]) (by omega) (by omega) z)
      · exact r_X11_layTorn_56 (d := d) (tail t (by unfold sSw; rw [if_neg z2, if_neg (fun q => q.1 z4)]) (by omega) (by omega) z)
      · rw [jm_wr_id (by omega) (by omega)] at z3 hx
        have z3' := Decidable.not_not.mp z3
        exact tail x6 (by rw [hx]; unfold sSw; rw [if_neg z2, if_pos ⟨z4, z3'⟩]) (by omega) (by omega) z
      · rw [jm_wr_id (by omega) (by omega)] at hx
        have z2' := Decidable.not_not.mp z2
        exact tail x13 (by rw [hx]; unfold sSw; rw [if_pos z2']) (by omega) (by omega) z
      · rw [e1]
        exact ih (t + 1) c ξ (by omega) (by omega) (by omega) g4 g5 g6 g7
  exact key mn 0 0 _ (by omega) (by omega) (by omega) (fun p p1 p2 => jm_up_ne p1) (fun i hi => jm_up_i hi) jm_up_at (fun i i0 i1 => absurd i1 (by omega))
/-- the boards of the wholes before anything is filled -/
theorem c_M_beginFill (hρ : ∀ i, 0 ≤ i → i < 60 → μ 135 i = ρ i) (h : ∀ ν : jm_M, mRu ν 0 ρ → mBd ν 0 sEmpty → (∀ p, p ≠ 133 → p < 143 ∨ (143 < p ∧ p < 150) ∨ (151 < p ∧ p < 153) ∨ 155 < p → ν p = μ p) → (∀ i, i ≠ 43 → ν 133 i = μ 133 i) → ν 133 43 = 0 → (∀ f i : Int, 0 ≤ f → f ≤ 2 → 0 ≤ i → i < 24 → ν (153 + f) i = 0) → Q none ν) : jc E m_X11_beginFill (d + 2) [jm_R 133] μ Q := by
  refine e_X11_beginFill (d := d + 1) (fun _ => c_M_layRules (ρ := ρ) (by decide) (fun i i0 i1 => ⟨?_, ?_⟩) (by decide) (by decide) (fun ν hr hb hf _ _ _ => ?_))
  · rw [Int.zero_add]
    exact ixl_135 i0 (by omega)
  · rw [Int.zero_add]
    exact hρ i i0 i1
  have key : ∀ (m t : Nat) (ξ : jm_M), 24 - t = m → t ≤ 24 → (∀ p, p < 153 ∨ 155 < p → ξ p = jm_up ν 133 43 0 p) → (∀ f i : Int, 0 ≤ f → f ≤ 2 → 0 ≤ i → i < t → ξ (153 + f) i = 0) → jg E m_X11_beginFill (d + 1) 17 [some (jm_R 133), some (jm_I t)] [] ξ Q := by
    intro m
    induction m with
    | zero =>
      intro t ξ g1 g2 g3 g4
      refine r_X11_beginFill_17 (d := d + 1) ⟨fun _ => h ξ ?_ ?_ ?_ ?_ ?_ (fun f i f0 f1 i0 i1 => g4 f i f0 f1 i0 (by omega)), fun z => absurd (show (24 : Int) ≤ t by omega) z⟩
      · exact fun j j0 j1 => by rw [g3 143 (by decide), jm_up_ne (by decide)]; exact hr j j0 j1
      · exact ⟨by rw [g3 150 (by decide), jm_up_ne (by decide)]; exact hb.1, by rw [g3 151 (by decide), jm_up_ne (by decide)]; exact hb.2.1, fun f t f0 f1 t0 t1 => absurd (show t < 0 from t1) (by omega)⟩
      · exact fun p p1 p2 => by rw [g3 p (by omega), jm_up_ne p1]; exact hf p (by omega) (by omega) (by omega)
      · exact fun i hi => by rw [g3 133 (by decide), jm_up_i hi, hf 133 (by decide) (by decide) (by decide)]
      · rw [g3 133 (by decide), jm_up_at]
    | succ m ih =>
      intro t ξ g1 g2 g3 g4
      refine r_X11_beginFill_17 (d := d + 1) ⟨fun z => absurd z (by omega), fun _ => ⟨⟨by omega, by omega⟩, fun m3 h3 m4 h4 m5 h5 => ?_⟩⟩
      rw [jm_wr_id (by omega) (by omega)]
      refine ih (t + 1) m5 (by omega) (by omega) (fun p hp => by rw [h5, h4, h3, jm_up_ne (by omega), jm_up_ne (by omega), jm_up_ne (by omega)]; exact g3 p hp) (fun f i f0 f1 i0 i1 => ?_)
      by_cases hi : i = t
      · subst hi
        have hff : f = 0 ∨ f = 1 ∨ f = 2 := by omega
        rcases hff with rfl | rfl | rfl
        · show m5 153 (t : Int) = 0
          rw [h5, jm_up_lj (by decide), h4, jm_up_lj (by decide), h3, jm_up_at]
        · show m5 154 (t : Int) = 0
          rw [h5, jm_up_lj (by decide), h4, jm_up_at]
        · show m5 155 (t : Int) = 0
          rw [h5, jm_up_at]
      · rw [h5, jm_up_i hi, h4, jm_up_i hi, h3, jm_up_i hi]
        exact g4 f i f0 f1 i0 (by omega)
  exact key 24 0 _ (by omega) (by omega) (fun _ _ => rfl) (fun f i _ _ i0 i1 => absurd i1 (by omega))
end MX
