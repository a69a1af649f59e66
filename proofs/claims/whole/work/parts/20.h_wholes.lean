/-- what the reference holds of wholes has changed, and what is sure -/
def mWh (μ ν : jm_M) : Prop := (∀ p, p ≠ 133 → p < 143 ∨ 158 < p → ν p = μ p) ∧ ∀ i, i ≠ 0 → i ≠ 42 → i ≠ 43 → i ≠ 44 → ν 133 i = μ 133 i
/-- the same without what is sure -/
def mWf (μ ν : jm_M) : Prop := (∀ p, p ≠ 133 → p < 143 ∨ 155 < p → ν p = μ p) ∧ ∀ i, i ≠ 0 → i ≠ 42 → i ≠ 43 → ν 133 i = μ 133 i
theorem mWf.trans {a b c : jm_M} (h1 : mWf a b) (h2 : mWf b c) : mWf a c := ⟨fun p hp hq => (h2.1 p hp hq).trans (h1.1 p hp hq), fun i h0 h4 h5 => (h2.2 i h0 h4 h5).trans (h1.2 i h0 h4 h5)⟩
theorem mWf_of {ρ : sR} {N : Nat} {R : List sB} {μ ν : jm_M} (h : mFg ρ N R μ ν) : mWf μ ν := ⟨fun p hp hq => h.1 p hp (by omega), fun i _ _ h3 => h.2.1 i h3⟩
section MY
variable {E : jm_E} {d : Nat} {μ : jm_M} {Q : Option jm_V → jm_M → Prop} {ρ : sR} {mn : Nat} {mt : Int → Int}
/-- a row of minutes is laid and filled -/
theorem m_row {wo sw : Int} {F : Option jm_V → jm_M → Prop} (hW : sWR ρ) (hn : mn ≤ 24) (hr : mRu μ 0 ρ) (hb : mBd μ 0 sEmpty) (hρ : ∀ i, 0 ≤ i → i < 60 → μ 135 i = ρ i) (hM : mMn μ mn mt) (w0 : -1 ≤ wo) (w1 : wo < mn) (s0 : -1 ≤ sw) (s1 : sw = -1 ∨ sw + 1 < mn)
    (c0 : 0 ≤ μ 133 43) (c1 : μ 133 43 + (sFi ρ (sTq mt wo sw) (sTn mn wo) sEmpty).length < 2147483648) (hm : ∀ f i : Int, 0 ≤ f → f ≤ 2 → 0 ≤ i → i < 24 → 0 ≤ μ (153 + f) i ∧ μ (153 + f) i < 1024)
    (h : ∀ ν, mBd ν 0 sEmpty → mWf μ ν → mRu ν 0 ρ → ν 133 43 = μ 133 43 + (sFi ρ (sTq mt wo sw) (sTn mn wo) sEmpty).length → (∀ f i : Int, 0 ≤ f → f ≤ 2 → 0 ≤ i → i < sTn mn wo → ν (153 + f) i = sMk (sFd ρ f i) (sFi ρ (sTq mt wo sw) (sTn mn wo) sEmpty) (μ (153 + f) i)) → (∀ f i : Int, 0 ≤ f → f ≤ 2 → (sTn mn wo : Int) ≤ i → ν (153 + f) i = μ (153 + f) i) → F none ν) :
    jc E m_X11_layTorn (d + 29) [jm_R 133, jm_I wo, jm_I sw] μ (fun o m3 => o = none → jc E m_X11_fill (d + 29) [jm_R 133, jm_I 0] m3 F) := by
  refine c_M_layTorn (d := d + 28) hn hM w0 w1 s0 s1 (fun ν v1 v2 v3 v4 _ => ?_)
  have hN : sTn mn wo ≤ 24 := by unfold sTn; split <;> omega
  have e135 := v1 135 (by decide) (by decide)
  have hs : mFs ρ (sTq mt wo sw) (sTn mn wo) sEmpty ν := ⟨fun j j0 j1 => by rw [v1 143 (by decide) (by decide)]; exact hr j j0 j1, ⟨by rw [v1 150 (by decide) (by decide)]; exact hb.1, by rw [v1 151 (by decide) (by decide)]; exact hb.2.1, fun f t f0 f1 t0 t1 => absurd (show t < 0 from t1) (by omega)⟩, by rw [e135]; exact hρ 0 (by decide) (by decide), by rw [e135]; exact hρ 1 (by decide) (by decide), v3, v4, by rw [v2 43 (by decide)]; exact c0, fun f i f0 f1 i0 i1 => by rw [v1 _ (by omega) (by omega)]; exact hm f i f0 f1 i0 i1⟩
  have hc := c_M_fill (E := E) (d := d + 25 - sTn mn wo) (T := sTq mt wo sw) hW hN (sTn mn wo) sEmpty ν 0
  rw [show d + 25 - sTn mn wo + sTn mn wo + 4 = d + 29 by omega] at hc
  refine hc _ (by show (0 : Int) + (sTn mn wo : Nat) = _; omega) rfl sGB_empty hs (by rw [v2 43 (by decide)]; exact c1) (fun ξ b1 g1 => h ξ b1 ?_ ?_ ?_ (fun f i f0 f1 i0 i1 => ?_) (fun f i f0 f1 i0 => ?_))
  · exact (show mWf μ ν from ⟨fun p p1 p2 => v1 p p1 (by omega), fun i _ i2 _ => v2 i i2⟩).trans (mWf_of g1)
  · exact fun j j0 j1 => by rw [g1.1 143 (by decide) (by decide)]; exact hs.1 j j0 j1
  · rw [g1.2.2.1, v2 43 (by decide)]
  · rw [g1.2.2.2.1 f i f0 f1 i0 i1, v1 _ (by omega) (by omega)]
  · rw [g1.2.2.2.2 f i f0 f1 i0, v1 _ (by omega) (by omega)]
/-- the loop over the rows of minutes -/
theorem r_M_wholes63 {w : Int} {R : List sB} (hW : sWR ρ) (hn : mn ≤ 24) (hw : w = 1 ∨ w = 2) (B : ∀ i : Int, 0 ≤ i → i < (if w = 2 then mn - 1 else mn : Nat) → ((sFi ρ (sTq mt (if w = 1 then i else -1) (if w = 2 then i else -1)) (sTn mn (if w = 1 then i else -1)) sEmpty).length : Int) ≤ 20000)
    (h : ∀ ν : jm_M, mWf μ ν → ν 133 43 = μ 133 43 + R.length → (R.length : Int) ≤ 480000 → (∀ f i : Int, 0 ≤ f → f ≤ 2 → 0 ≤ i → i < sWn mn w → ν (153 + f) i = sMk (sFd ρ f i) R (μ (153 + f) i)) → jg E m_X11_wholes (d + 29) 122 [some (jm_R 133), some (jm_I w), some (jm_I mn), none] [] ν Q)
    (hR : R = sFl (fun i => sFi ρ (sTq mt (if w = 1 then i else -1) (if w = 2 then i else -1)) (sTn mn (if w = 1 then i else -1)) sEmpty) (if w = 2 then mn - 1 else mn) 0)
    (hr : mRu μ 0 ρ) (hb : mBd μ 0 sEmpty) (hρ : ∀ i, 0 ≤ i → i < 60 → μ 135 i = ρ i) (hM : mMn μ mn mt) (c0 : μ 133 43 = 0) (hm : ∀ f i : Int, 0 ≤ f → f ≤ 2 → 0 ≤ i → i < 24 → μ (153 + f) i = 0) :
    jg E m_X11_wholes (d + 29) 63 [some (jm_R 133), some (jm_I w), some (jm_I mn), some (jm_I 0)] [] μ Q := by
  obtain ⟨C, hC⟩ : ∃ C : Nat, C = if w = 2 then mn - 1 else mn := ⟨_, rfl⟩
  have hC24 : C ≤ mn := by rw [hC]; split <;> omega
  rw [← hC] at B hR
  generalize hF : (fun i : Int => sFi ρ (sTq mt (if w = 1 then i else -1) (if w = 2 then i else -1)) (sTn mn (if w = 1 then i else -1)) sEmpty) = F at hR
  have hF' : ∀ i, F i = sFi ρ (sTq mt (if w = 1 then i else -1) (if w = 2 then i else -1)) (sTn mn (if w = 1 then i else -1)) sEmpty := fun i => by rw [← hF]
  clear hF
  have hNN : ∀ i : Int, 0 ≤ i → sTn mn (if w = 1 then i else -1) = sWn mn w := fun i i0 => by
    unfold sTn sWn
    by_cases h1 : w = 1
    · rw [if_pos h1, if_pos h1, if_pos i0]
    · rw [if_neg h1, if_neg h1, if_neg (by decide)]
  have hN24 : sWn mn w ≤ 24 := by unfold sWn; split <;> omega
  have hgood : ∀ i : Int, 0 ≤ i → ∀ x, x ∈ F i → sGB ρ x ∧ x.2.1 = sWn mn w := fun i i0 x hx => by
    rw [hF', hNN i i0] at hx
    have := sFi_good (T := sTq mt (if w = 1 then i else -1) (if w = 2 then i else -1)) hW (sWn mn w) sEmpty sGB_empty (by show (0 : Int) + (sWn mn w : Nat) ≤ 400; omega) x hx
    exact ⟨this.1, by rw [this.2]; show (0 : Int) + (sWn mn w : Nat) = _; omega⟩
  have key : ∀ (m t : Nat) (L : List sB) (ξ : jm_M), C - t = m → t ≤ C → mBd ξ 0 sEmpty → mWf μ ξ → mRu ξ 0 ρ → ξ 133 43 = L.length → (L.length : Int) ≤ t * 20000 → (∀ x, x ∈ L → sGB ρ x ∧ x.2.1 = sWn mn w) → (∀ f i : Int, 0 ≤ f → f ≤ 2 → 0 ≤ i → i < 24 → (i < sWn mn w → ξ (153 + f) i = sMk (sFd ρ f i) L 0) ∧ ((sWn mn w : Int) ≤ i → ξ (153 + f) i = 0)) → R = L ++ sFl F m t → jg E m_X11_wholes (d + 29) 63 [some (jm_R 133), some (jm_I w), some (jm_I mn), some (jm_I t)] [] ξ Q := by
    intro m
    induction m with
    | zero =>
      intro t L ξ g1 g2 g3 g4 g5 g6 g7 g8 g9 g10
      have hRL : R = L := by rw [g10]; exact List.append_nil L
      subst hRL
      have g := h ξ g4 (by rw [c0]; omega) (by omega) (fun f i f0 f1 i0 i1 => by rw [hm f i f0 f1 i0 (by omega)]; exact (g9 f i f0 f1 i0 (by omega)).1 i1)
      by_cases ht : (mn : Int) ≤ t
      · exact r_X11_wholes_63 (d := d + 29) ⟨fun _ => g, fun z => absurd ht z⟩
      · have h2 : w = 2 := by
          rcases hw with rfl | h2
          · rw [if_neg (by decide)] at hC; omega
          · exact h2
        rw [if_pos h2] at hC
        refine r_X11_wholes_63 (d := d + 29) ⟨fun z => absurd z ht, fun _ => ⟨fun z => absurd z (by omega), fun _ => ⟨fun z => absurd h2 z, fun _ => ⟨fun z => ?_, fun _ => g⟩⟩⟩⟩
        rw [jm_wr_id (by omega) (by omega)] at z
        exact absurd (show (t : Int) = mn - 1 by omega) z
    | succ m ih =>
      intro t L ξ g1 g2 g3 g4 g5 g6 g7 g8 g9 g10
      have e135 : ξ 135 = μ 135 := g4.1 135 (by decide) (by decide)
      have hρ' : ∀ i, 0 ≤ i → i < 60 → ξ 135 i = ρ i := fun i i0 i1 => by rw [e135]; exact hρ i i0 i1
      have hM' : mMn ξ mn mt := ⟨by rw [e135]; exact hM.1, fun i i0 i1 => by rw [e135]; exact hM.2 i i0 i1⟩
      have hBt := B t (by omega) (by omega)
      have hm' : ∀ f i : Int, 0 ≤ f → f ≤ 2 → 0 ≤ i → i < 24 → 0 ≤ ξ (153 + f) i ∧ ξ (153 + f) i < 1024 := fun f i f0 f1 i0 i1 => by
        by_cases hi : i < sWn mn w
        · rw [(g9 f i f0 f1 i0 i1).1 hi]
          exact sMk_lt L 0 (fun x hx => sFd_in hW (g8 x hx).1 i0 (by rw [(g8 x hx).2]; exact hi)) (by decide) (by decide)
        · rw [(g9 f i f0 f1 i0 i1).2 (by omega)]
          decide
      have g10' : R = L ++ (F t ++ sFl F m ((t : Int) + 1)) := g10
      have fin : ∀ wo sw : Int, wo = (if w = 1 then (t : Int) else -1) → sw = (if w = 2 then (t : Int) else -1) → jc E m_X11_layTorn (d + 29) [jm_R 133, jm_I wo, jm_I sw] ξ (fun o m3 => o = none → jc E m_X11_fill (d + 29) [jm_R 133, jm_I 0] m3 (fun o m4 => o = none → jg E m_X11_wholes (d + 29) 63 [some (jm_R 133), some (jm_I w), some (jm_I mn), some (jm_I (jm_wr ((t : Int) + 1)))] [] m4 Q)) := by
        intro wo sw hwo hsw
        rw [← hwo, ← hsw] at hBt
        have hNt := hNN t (by omega)
        rw [← hwo] at hNt
        have hFt := hF' t
        rw [← hwo, ← hsw] at hFt
        refine m_row hW hn g5 g3 hρ' hM' ?_ ?_ ?_ ?_ (by omega) (by omega) hm' (fun ν b1 f1 r1 n1 k1 k2 _ => ?_)
        · rw [hwo]; split <;> omega
        · rw [hwo]; split
          · omega
          · omega
        · rw [hsw]; split <;> omega
        · rw [hsw]
          rcases hw with h1 | h1
          · exact Or.inl (if_neg (by omega))
          · rw [if_pos h1] at hC ⊢
            right; omega
        · rw [← hFt] at n1 k1 hBt
          rw [jm_wr_id (by omega) (by omega)]
          refine ih (t + 1) (L ++ F t) ν (by omega) (by omega) b1 (g4.trans f1) r1 (by rw [n1, g6, List.length_append]; omega) (by rw [List.length_append]; omega) (fun x hx => ?_) (fun f i f0 f1' i0 i1 => ⟨fun hi => ?_, fun hi => ?_⟩) ?_
          · rcases List.mem_append.mp hx with h1 | h1
            · exact g8 x h1
            · exact hgood t (by omega) x h1
          · rw [k1 f i f0 f1' i0 (by omega), (g9 f i f0 f1' i0 i1).1 hi, sMk_app]
          · rw [k2 f i f0 f1' (by omega), (g9 f i f0 f1' i0 i1).2 hi]
          · rw [g10', List.append_assoc]
            rfl
      have goto87 : jg E m_X11_wholes (d + 29) 87 [some (jm_R 133), some (jm_I w), some (jm_I mn), some (jm_I t)] [] ξ Q := by
        rcases hw with h1 | h1
        · subst h1
          exact r_X11_wholes_87 (d := d + 29) ⟨fun z => absurd rfl z, fun _ => ⟨fun _ => fin t (-1) rfl rfl, fun z => absurd (by decide) z⟩⟩
        · subst h1
          exact r_X11_wholes_87 (d := d + 29) ⟨fun _ => ⟨fun z => absurd rfl z, fun _ => fin (-1) t rfl rfl⟩, fun z => absurd (by decide) z⟩
      refine r_X11_wholes_63 (d := d + 29) ⟨fun z => absurd z (by omega), fun _ => ⟨fun z => absurd z (by omega), fun _ => ⟨fun _ => goto87, fun z => ⟨fun _ => goto87, fun z2 => ?_⟩⟩⟩⟩
      rw [if_pos (Decidable.not_not.mp z)] at hC
      rw [jm_wr_id (by omega) (by omega)] at z2
      omega
  exact key C 0 [] μ (by omega) (by omega) hb ⟨fun _ _ _ => rfl, fun _ _ _ _ => rfl⟩ hr c0 (by simp) (fun x hx => by cases hx) (fun f i f0 f1 i0 i1 => ⟨fun _ => hm f i f0 f1 i0 i1, fun _ => hm f i f0 f1 i0 i1⟩) hR
end MY
