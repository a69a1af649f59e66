section MZ
variable {E : jm_E} {d : Nat} {μ : jm_M} {Q : Option jm_V → jm_M → Prop} {ρ : sR} {mn : Nat} {mt : Int → Int}
/-- what is sure is kept -/
theorem r_M_wholes151 {S : Nat} (hS : S ≤ 24) (h44 : μ 133 44 = S) (h : ∀ ν : jm_M, (∀ p, p < 156 ∨ 158 < p → ν p = μ p) → (∀ f i : Int, 0 ≤ f → f ≤ 2 → 0 ≤ i → i < S → ν (156 + f) i = μ (153 + f) i) → Q (some (jm_I (μ 133 43))) ν) : jg E m_X11_wholes d 151 [some (jm_R 133), none, none, some (jm_I 0)] [] μ Q := by
  have key : ∀ (m t : Nat) (ξ : jm_M), S - t = m → t ≤ S → (∀ p, p < 156 ∨ 158 < p → ξ p = μ p) → (∀ f i : Int, 0 ≤ f → f ≤ 2 → 0 ≤ i → i < t → ξ (156 + f) i = μ (153 + f) i) → jg E m_X11_wholes d 151 [some (jm_R 133), none, none, some (jm_I t)] [] ξ Q := by
    intro m
    induction m with
    | zero =>
      intro t ξ g1 g2 g3 g4
      have e := g3 133 (by decide)
      refine r_X11_wholes_151 (d := d) ⟨fun _ => ?_, fun z => absurd (show ξ 133 44 ≤ t by rw [e, h44]; omega) z⟩
      rw [e]
      exact h ξ g3 (fun f i f0 f1 i0 i1 => g4 f i f0 f1 i0 (by omega))
    | succ m ih =>
      intro t ξ g1 g2 g3 g4
      have e := g3 133 (by decide)
      refine r_X11_wholes_151 (d := d) ⟨fun z => absurd z (by rw [e, h44]; omega), fun _ => ⟨⟨by omega, by omega⟩, fun m3 h3 m4 h4 m5 h5 => ?_⟩⟩
      rw [jm_wr_id (by omega) (by omega)]
      refine ih (t + 1) m5 (by omega) (by omega) (fun p hp => by rw [h5, h4, h3, jm_up_ne (by omega), jm_up_ne (by omega), jm_up_ne (by omega)]; exact g3 p hp) (fun f i f0 f1 i0 i1 => ?_)
      have q3 : m3 154 = ξ 154 := by rw [h3, jm_up_ne (by decide)]
      have q4 : m4 155 = ξ 155 := by rw [h4, h3, jm_up_ne (by decide), jm_up_ne (by decide)]
      by_cases hi : i = t
      · subst hi
        have hff : f = 0 ∨ f = 1 ∨ f = 2 := by omega
        rcases hff with rfl | rfl | rfl
        · show m5 156 (t : Int) = μ 153 t
          rw [h5, jm_up_lj (by decide), h4, jm_up_lj (by decide), h3, jm_up_at, g3 153 (by decide)]
        · show m5 157 (t : Int) = μ 154 t
          rw [h5, jm_up_lj (by decide), h4, jm_up_at, q3, g3 154 (by decide)]
        · show m5 158 (t : Int) = μ 155 t
          rw [h5, jm_up_at, q4, g3 155 (by decide)]
      · rw [h5, jm_up_i hi, h4, jm_up_i hi, h3, jm_up_i hi]
        exact g4 f i f0 f1 i0 (by omega)
  exact key S 0 μ (by omega) (by omega) (fun _ _ => rfl) (fun f i _ _ i0 i1 => absurd i1 (by omega))
theorem c_M_wholes {w : Int} (hW : sWR ρ) (hρ : ∀ i, 0 ≤ i → i < 60 → μ 135 i = ρ i) (hM : mMn μ mn mt) (hV : sVM ρ mn mt)
    (h1 : ¬ (0 ≤ w ∧ w ≤ 2) → ∀ ν, mQ μ ν → Q (some (jm_I (-1))) ν)
    (h2 : 0 ≤ w → w ≤ 2 → 20000 < sWays ρ mt mn → ∀ ν, mQ μ ν → Q (some (jm_I (-2))) ν)
    (h3 : 0 ≤ w → w ≤ 2 → sWays ρ mt mn ≤ 20000 → ((sWl ρ mn mt w).length : Int) ≤ 480000 → ∀ ν, mWh μ ν → ν 133 44 = (if (sWl ρ mn mt w).length = 0 then 0 else sWn mn w : Nat) → (∀ f i : Int, 0 ≤ f → f ≤ 2 → 0 ≤ i → i < (if (sWl ρ mn mt w).length = 0 then 0 else sWn mn w : Nat) → ν (156 + f) i = sMk (sFd ρ f i) (sWl ρ mn mt w) 0) → Q (some (jm_I (sWl ρ mn mt w).length)) ν) :
    jc E m_X11_wholes (d + 30) [jm_R 133, jm_I w] μ Q := by
  have hn := hV.1
  have e0 : ∀ p, p ≠ 133 → jm_up μ 133 0 0 p = μ p := fun p hp => jm_up_ne hp
  have hM0 : mMn (jm_up μ 133 0 0) mn mt := ⟨by rw [e0 135 (by decide)]; exact hM.1, fun i i0 i1 => by rw [e0 135 (by decide)]; exact hM.2 i i0 i1⟩
  have hρ0 : ∀ i, 0 ≤ i → i < 60 → jm_up μ 133 0 0 135 i = ρ i := fun i i0 i1 => by rw [e0 135 (by decide)]; exact hρ i i0 i1
  refine e_X11_wholes (d := d + 29) (fun _ => c_M_isIn (fun a0 a1 => jq_Z (jb_t (by decide) ?_)) (fun z => jq_Z (jb_f (by decide) (h1 z _ mQ_0))))
  refine c_M_fillings (times := 1) (most := 20000) hW (hρ0 0 (by decide) (by decide)) (hρ0 1 (by decide) (by decide)) hM0 hV (by decide) (Or.inr (by decide)) (by decide) (by decide) (by decide) (fun z => jq_I (jb_f (by decide) (h2 a0 a1 (by omega) _ mQ_0))) (fun z => jq_I (jb_t z ?_))
  have hB : sWays ρ mt mn ≤ 20000 := by omega
  have H := h3 a0 a1 hB
  clear h1 h2 h3
  refine c_M_beginFill (d := d + 27) hρ0 (fun ν v1 v2 v3 v4 v5 v6 _ x9 hx9 => ?_)
  have e135 : ν 135 = μ 135 := by rw [v3 135 (by decide) (by decide), e0 135 (by decide)]
  have hMν : mMn ν mn mt := ⟨by rw [e135]; exact hM.1, fun i i0 i1 => by rw [e135]; exact hM.2 i i0 i1⟩
  have hρν : ∀ i, 0 ≤ i → i < 60 → ν 135 i = ρ i := fun i i0 i1 => by rw [e135]; exact hρ i i0 i1
  have hx : x9 = mn := by rw [hx9]; exact hMν.1
  subst hx
  clear hx9
  have f0 : mWf μ ν := ⟨fun p p1 p2 => by rw [v3 p p1 (by omega), e0 p p1], fun i i0 i1 i2 => by rw [v4 i i2, jm_up_i i0]⟩
  have hN24 : sWn mn w ≤ 24 := by unfold sWn; split <;> omega
  generalize hL : sWl ρ mn mt w = L at H
  have fin : (L.length : Int) ≤ 480000 → ∀ ξ : jm_M, mWf μ ξ → ξ 133 43 = L.length → (∀ f i : Int, 0 ≤ f → f ≤ 2 → 0 ≤ i → i < sWn mn w → ξ (153 + f) i = sMk (sFd ρ f i) L 0) → jg E m_X11_wholes (d + 29) 122 [some (jm_R 133), some (jm_I w), some (jm_I mn), none] [] ξ Q := by
    intro hl ξ g1 g2 g3
    have last : ∀ S : Nat, ∀ v : Int, v = S → S = (if L.length = 0 then 0 else sWn mn w) → jg E m_X11_wholes (d + 29) 151 [some (jm_R 133), none, none, some (jm_I 0)] [] (jm_up ξ 133 44 v) Q := by
      intro S v hv hS
      subst hv
      have hSn : S ≤ sWn mn w := by rw [hS]; split <;> omega
      refine r_M_wholes151 (S := S) (by omega) jm_up_at (fun ω o1 o2 => ?_)
      rw [jm_up_i (by decide), g2]
      rw [← hS] at H
      refine H hl ω ⟨fun p p1 p2 => by rw [o1 p (by omega), jm_up_ne p1]; exact g1.1 p p1 (by omega), fun i i0 i1 i2 i3 => by rw [o1 133 (by decide), jm_up_i i3]; exact g1.2 i i0 i1 i2⟩ (by rw [o1 133 (by decide), jm_up_at]) (fun f i f0 f1 i0 i1 => ?_)
      rw [o2 f i f0 f1 i0 i1, jm_up_ne (by omega)]
      exact g3 f i f0 f1 i0 (by omega)
    refine r_X11_wholes_122 (d := d + 29) ⟨fun z => ⟨fun y => ?_, fun y => ?_⟩, fun z => ?_⟩
    · rw [g2] at z
      exact last mn _ rfl (by rw [if_neg (by omega)]; unfold sWn; rw [if_neg y])
    · rw [g2] at z
      have y' := Decidable.not_not.mp y
      have hmn : 1 ≤ mn := by
        cases hmn : mn with
        | zero =>
          exfalso
          have : L = [] := by
            rw [← hL, hmn, y']
            rfl
          rw [this] at z
          exact z rfl
        | succ k => omega
      refine last (mn - 1) _ (by rw [jm_wr_id (by omega) (by omega)]; omega) (by rw [if_neg (by omega)]; unfold sWn; rw [if_pos y'])
    · rw [g2] at z
      exact last 0 0 rfl (by rw [if_pos (by omega)])
  by_cases hw : w = 0
  · refine ⟨fun z => absurd hw z, fun _ => ?_⟩
    have hLL : L = sFi ρ (sTq mt (-1) (-1)) (sTn mn (-1)) sEmpty := by rw [← hL]; unfold sWl; rw [if_pos hw]
    have hlen := sRow_len (ρ := ρ) (mn := mn) (mt := mt) (wo := -1) (sw := -1) (B := 20000) hW (by decide) (by omega) (by decide) (Or.inl rfl) (Or.inl rfl) (by decide) hB
    refine m_row hW hn v1 v2 hρν hMν (by decide) (by omega) (by decide) (Or.inl rfl) (by omega) (by omega) (fun f i f0 f1 i0 i1 => by rw [v6 f i f0 f1 i0 i1]; decide) (fun ξ b1 f1 r1 n1 k1 k2 _ => ?_)
    rw [← hLL] at n1 k1 hlen
    have hsn : sWn mn w = sTn mn (-1) := by unfold sWn; rw [if_neg (by omega)]; rfl
    have g := fin (by omega) ξ (f0.trans f1) (by rw [n1, v5]; omega) (fun f i a b c e => by rw [hsn] at e; rw [k1 f i a b c e, v6 f i a b c (by have : sTn mn (-1) = mn := rfl; omega)])
    exact r_X11_wholes_63 (d := d + 29) ⟨fun _ => g, fun _ => ⟨fun _ => g, fun z => absurd (show w ≤ 0 by omega) z⟩⟩
  · refine ⟨fun _ => ?_, fun z => absurd hw z⟩
    have hLL : L = sFl (fun i => sFi ρ (sTq mt (if w = 1 then i else -1) (if w = 2 then i else -1)) (sTn mn (if w = 1 then i else -1)) sEmpty) (if w = 2 then mn - 1 else mn) 0 := by rw [← hL]; unfold sWl; rw [if_neg hw]
    refine r_M_wholes63 (R := L) hW hn (by omega) (fun i i0 i1 => ?_) (fun ξ g1 g2 g3 g4 => fin g3 ξ (f0.trans g1) (by rw [g2, v5]; omega) (fun f i a b c e => by rw [g4 f i a b c e, v6 f i a b c (by omega)])) hLL v1 v2 hρν hMν v5 v6
    by_cases w1 : w = 1
    · rw [if_neg (show ¬ w = 2 by omega)] at i1 ⊢
      rw [if_pos w1]
      exact sRow_len hW (by omega) i1 (by decide) (Or.inl rfl) (Or.inr rfl) (by decide) hB
    · rw [if_pos (show w = 2 by omega)] at i1 ⊢
      rw [if_neg w1]
      exact sRow_len hW (by decide) (by omega) (by omega) (Or.inr (by omega)) (Or.inl rfl) (by decide) hB
theorem c_M_sure {t x : Int} (h44 : μ 133 44 ≤ 24) (h : Q (some (jm_I (if (0 ≤ t ∧ t < μ 133 44) ∧ 0 ≤ x ∧ x ≤ 2 then μ (156 + x) t else -1))) (jm_up μ 133 0 0)) : jc E m_X11_sure (d + 2) [jm_R 133, jm_I t, jm_I x] μ Q := by
  have no : ¬ ((0 ≤ t ∧ t < μ 133 44) ∧ 0 ≤ x ∧ x ≤ 2) → Q (some (jm_I (-1))) (jm_up μ 133 0 0) := fun z => by rw [if_neg z] at h; exact h
  refine e_X11_sure (d := d + 1) (fun _ => ⟨fun z => no (fun q => by omega), fun z => ⟨fun z2 => no (fun q => by omega), fun z2 => c_M_isIn (fun a0 a1 => jq_Z (jb_t (by decide) ?_)) (fun y => jq_Z (jb_f (by decide) (no (fun q => y q.2))))⟩⟩)
  rw [if_pos ⟨⟨by omega, by omega⟩, a0, a1⟩] at h
  have hx : x = 0 ∨ x = 1 ∨ x = 2 := by omega
  refine ⟨fun y => ⟨fun y2 => ⟨⟨by omega, by omega⟩, ?_⟩, fun y2 => ⟨⟨by omega, by omega⟩, ?_⟩⟩, fun y => ⟨⟨by omega, by omega⟩, ?_⟩⟩
  · rw [show x = 2 by omega] at h
    rw [jm_up_ne (by decide)]
    exact h
  · rw [show x = 1 by omega] at h
    rw [jm_up_ne (by decide)]
    exact h
  · rw [show x = 0 by omega] at h
    rw [jm_up_ne (by decide)]
    exact h
end MZ
