theorem sBc_full : ∀ (n f v : Nat), n ≤ f → v < 2 ^ n → sBc f v ≤ n ∧ (sBc f v = n → v + 1 = 2 ^ n)
  | 0, f, v, _, h => by
    have : v = 0 := by rw [Nat.pow_zero] at h; omega
    subst this
    rw [sBc_0]
    exact ⟨Nat.le_refl _, fun _ => rfl⟩
  | n + 1, f, v, hf, h => by
    obtain ⟨f', rfl⟩ : ∃ f', f = f' + 1 := ⟨f - 1, by omega⟩
    rw [Nat.pow_succ] at h ⊢
    have ih := sBc_full n f' (v / 2) (by omega) (by omega)
    rw [sBc]
    refine ⟨by omega, fun q => ?_⟩
    have := ih.2 (by omega)
    omega
theorem sBc_top : ∀ (n f : Nat), n ≤ f → sBc f (2 ^ n - 1) = n
  | 0, f, _ => sBc_0 f
  | n + 1, f, hf => by
    obtain ⟨f', rfl⟩ : ∃ f', f = f' + 1 := ⟨f - 1, by omega⟩
    have hp : 0 < 2 ^ n := Nat.pow_pos (by decide)
    have ih := sBc_top n f' (by omega)
    rw [sBc, Nat.pow_succ, show (2 ^ n * 2 - 1) / 2 = 2 ^ n - 1 by omega, ih]
    omega
/-- rules and boards alone have changed -/
def mRB (μ ν : jm_M) : Prop := ∀ p, p < 143 ∨ 151 < p → ν p = μ p
section MN
variable {E : jm_E} {d : Nat} {μ : jm_M} {Q : Option jm_V → jm_M → Prop} {ρ : sR} {mn : Nat} {mt : Int → Int}
theorem c_M_isTalk {s : Nat} (hW : sWR ρ) (hρ : ∀ i, 0 ≤ i → i < 60 → μ 135 i = ρ i) (hM : mMn μ mn mt) (hV : sVM ρ mn mt) (h0 : sTorn mn mt = 0) (hn : mn ≤ 14) (hs : s < 2 ^ 14)
    (h : ∀ ν, mRB μ ν → (sTk ρ mt s mn 0 sEmpty = true → Q (some (jm_I 1)) ν) ∧ (sTk ρ mt s mn 0 sEmpty = false → Q (some (jm_I 0)) ν)) : jc E m_X11_isTalk (d + 4) [jm_R 133, jm_I s] μ Q := by
  have hT := sTorn_0.mp h0
  refine e_X11_isTalk (d := d + 3) (fun _ => c_M_layRules (ρ := ρ) (by decide) (fun i i0 i1 => ⟨?_, ?_⟩) (by decide) (by decide) (fun ν hr hb hf _ _ _ => ?_))
  · rw [Int.zero_add]
    exact ixl_135 i0 (by omega)
  · rw [Int.zero_add]
    exact hρ i i0 i1
  generalize hS : sTk ρ mt s mn 0 sEmpty = S at h
  have key : ∀ (m : Nat) (t : Int) (b : sB) (ξ : jm_M), mn - t = m → 0 ≤ t → b.2.1 ≤ t → mRu ξ 0 ρ → mBd ξ 0 b → sGB ρ b → mRB μ ξ → sTk ρ mt s m t b = S → jg E m_X11_isTalk (d + 3) 12 [some (jm_R 133), some (jm_I s), some (jm_I t)] [] ξ Q := by
    intro m
    induction m with
    | zero =>
      intro t b ξ g1 g2 g3 g4 g5 g6 g7 g8
      have q : ξ 135 861 = mn := by rw [g7 135 (by decide)]; exact hM.1
      exact r_X11_isTalk_12 (d := d + 3) ⟨fun _ => (h ξ g7).1 (by rw [← g8]; rfl), fun z => absurd (show ξ 135 861 ≤ t by omega) z⟩
    | succ m ih =>
      intro t b ξ g1 g2 g3 g4 g5 g6 g7 g8
      have e135 := g7 135 (by decide)
      have q : ξ 135 861 = mn := by rw [e135]; exact hM.1
      have a1 : jm_wr (2 * t) = 2 * t := jm_wr_id (by omega) (by omega)
      have a2 : jm_wr (862 + 2 * t) = 862 + 2 * t := jm_wr_id (by omega) (by omega)
      have a3 : jm_wr (862 + 2 * t + 1) = 862 + (2 * t + 1) := by rw [jm_wr_id (by omega) (by omega)]; omega
      have q1 : ξ 135 (862 + 2 * t) = mt (2 * t) := by rw [e135]; exact hM.2 _ (by omega) (by omega)
      have q2 : ξ 135 (862 + (2 * t + 1)) = mt (2 * t + 1) := by rw [e135]; exact hM.2 _ (by omega) (by omega)
      have v1 := hV.2.1 t g2 (by omega)
      have n1 := hT (2 * t) (by omega) (by omega)
      have n2 := hT (2 * t + 1) (by omega) (by omega)
      have v2 := v1.1.resolve_left n1
      have v3 := v1.2.resolve_left n2
      rw [sTk] at g8
      refine r_X11_isTalk_12 (d := d + 3) ⟨fun z => absurd z (by omega), fun _ => c_M_has (by omega) (by omega) g2 (by omega) (fun z => jq_Z (jb_f (by decide) ?_)) (fun z => jq_Z (jb_t rfl ?_))⟩
      · rw [jm_wr_id (a := t + 1) (by omega) (by omega)]
        rw [if_pos z] at g8
        exact ih (t + 1) b ξ (by omega) (by omega) (by omega) g4 g5 g6 g7 g8
      · rw [if_neg (by rw [z]; decide)] at g8
        rw [a1, a2, a3, q1, q2]
        refine ⟨⟨by omega, by omega⟩, ⟨by omega, by omega⟩, c_M_wrongOf (by decide) hW g4 g5 g6 v2.1 v2.2 v3.1 v3.2 (jq_I ⟨fun z2 => ?_, fun z2 => (h ξ g7).2 ?_⟩)⟩
        · rw [if_pos z2] at g8
          have nb := (sPush_c (ρ := ρ) (b := b) (who := mt (2 * t)) (k := mt (2 * t + 1)) rfl).1
          rw [q1, q2]
          refine c_M_push (by decide) hW g4 g5 g6.1 (by omega) (fun x s0 s1 => ?_) ⟨g6.2.2.1, by have := g6.2.2.2.1; omega⟩ v2.1 v2.2 v3.1 v3.2 (fun ξ2 bd2 f2 _ => ?_)
          · have := (g6.2.2.2.2 x s0 s1).2.2.2.2.1
            omega
          · rw [jm_wr_id (a := t + 1) (by omega) (by omega)]
            exact ih (t + 1) _ ξ2 (by omega) (by omega) (by omega) (mRu_of f2 g4) bd2 (sGB_push hW g6 (by omega) v2.1 v2.2 v3.1 v3.2 z2) (fun p hp => (f2.1 p (by omega)).trans (g7 p hp)) g8
        · rw [if_neg z2] at g8
          exact g8.symm
  exact key mn 0 sEmpty ν (by omega) (by decide) (by decide) hr hb sGB_empty (fun p hp => hf p (by omega) (by omega) (by omega)) hS
theorem c_M_mend (hW : sWR ρ) (hρ : ∀ i, 0 ≤ i → i < 60 → μ 135 i = ρ i) (hM : mMn μ mn mt) (hV : sVM ρ mn mt)
    (h1 : ¬ (sTorn mn mt = 0 ∧ mn ≤ 14) → ∀ ν, mQ μ ν → Q (some (jm_I (-1))) ν)
    (h2 : sTorn mn mt = 0 → mn ≤ 14 → ∀ (ν : jm_M) (s : Nat), (∀ p, p ≠ 133 → p < 143 ∨ 151 < p → ν p = μ p) → (∀ i, i ≠ 0 → i ≠ 45 → ν 133 i = μ 133 i) → ν 133 45 = s → sMe ρ mn mt s → Q (some (jm_I (sBc 14 s))) ν) : jc E m_X11_mend (d + 5) [jm_R 133] μ Q := by
  have e0 : ∀ p, p ≠ 133 → jm_up μ 133 0 0 p = μ p := fun p hp => jm_up_ne hp
  have hM0 : mMn (jm_up μ 133 0 0) mn mt := ⟨by rw [e0 135 (by decide)]; exact hM.1, fun i i0 i1 => by rw [e0 135 (by decide)]; exact hM.2 i i0 i1⟩
  refine e_X11_mend (d := d + 4) (fun _ x1 hx1 => ?_)
  rw [hM.1] at hx1
  subst hx1
  refine c_M_isWhole hV.1 hM0 (fun z => jq_Z (jb_f (by decide) ⟨fun y => ?_, fun y => h1 (fun q => y (by omega)) _ mQ_0⟩)) (fun z => jq_Z (jb_t rfl (h1 (fun q => z q.1) _ mQ_0)))
  intro x7 hx7
  have hmn : mn ≤ 14 := by omega
  have h2' := h2 z hmn
  have hp14 : 2 ^ mn ≤ 2 ^ 14 := Nat.pow_le_pow_right (by decide) hmn
  have hp0 : 0 < 2 ^ mn := Nat.pow_pos (by decide)
  have hfull := fun v (hv : v < 2 ^ mn) => sBc_full mn 14 v hmn hv
  have hsh : jm_shl 1 (mn : Int) = ((2 ^ mn : Nat) : Int) := jm_shl_1 (by omega)
  have htop : sTk ρ mt ((2 ^ mn - 1 : Nat) : Int) mn 0 sEmpty = true := by
    refine sTk_all mn 0 sEmpty (fun k k0 k1 => ?_)
    unfold sbt
    rw [show (((2 ^ mn - 1 : Nat) : Int)).toNat = 2 ^ mn - 1 from rfl, Nat.testBit_two_pow_sub_one]
    exact decide_eq_true (by omega)
  have hlexd : sMe ρ mn mt = fun s : Nat => s < 2 ^ mn ∧ sTk ρ mt s mn 0 sEmpty = true ∧ ∀ u : Nat, u < 2 ^ mn → sTk ρ mt u mn 0 sEmpty = true → sBc 14 s < sBc 14 u ∨ (sBc 14 s = sBc 14 u ∧ s ≤ u) := rfl
  rw [hlexd] at h2'
  generalize hpw : 2 ^ mn = pw at hp14 hp0 hfull hsh htop h2'
  rw [hsh, show jm_wr ((pw : Int) - 1) = ((pw - 1 : Nat) : Int) by rw [jm_wr_id (by omega) (by omega)]; omega] at hx7
  subst hx7
  have key : ∀ (m v s : Nat) (ξ : jm_M), pw - v = m → v ≤ pw → s < pw → (s < v ∨ s + 1 = pw) → sTk ρ mt s mn 0 sEmpty = true → (∀ u : Nat, u < v → sTk ρ mt u mn 0 sEmpty = true → sBc 14 s < sBc 14 u ∨ (sBc 14 s = sBc 14 u ∧ s ≤ u)) → mRB (jm_up μ 133 0 0) ξ → jg E m_X11_mend (d + 4) 37 [some (jm_R 133), some (jm_I mn), some (jm_I s), some (jm_I v)] [] ξ Q := by
    intro m
    induction m with
    | zero =>
      intro v s ξ g1 g2 g3 g4 g5 g6 g7
      refine r_X11_mend_37 (d := d + 4) ⟨fun _ => c_M_bits (by omega) (jq_I ?_), fun z => absurd (show jm_shl 1 (mn : Int) ≤ v by rw [hsh]; omega) z⟩
      exact h2' _ s (fun p p1 p2 => by rw [jm_up_ne p1, g7 p p2, e0 p p1]) (fun i i0 i1 => by rw [jm_up_i i1, g7 133 (by decide), jm_up_i i0]) jm_up_at ⟨g3, g5, fun u hu => g6 u (by omega)⟩
    | succ m ih =>
      intro v s ξ g1 g2 g3 g4 g5 g6 g7
      have e135 : ξ 135 = μ 135 := by rw [g7 135 (by decide)]; exact e0 135 (by decide)
      have hρ' : ∀ i, 0 ≤ i → i < 60 → ξ 135 i = ρ i := fun i i0 i1 => by rw [e135]; exact hρ i i0 i1
      have hM' : mMn ξ mn mt := ⟨by rw [e135]; exact hM.1, fun i i0 i1 => by rw [e135]; exact hM.2 i i0 i1⟩
      have ev : jm_wr ((v : Int) + 1) = ((v + 1 : Nat) : Int) := by rw [jm_wr_id (by omega) (by omega)]; omega
      have fv := hfull v (by omega)
      have fs := hfull s g3
      refine r_X11_mend_37 (d := d + 4) ⟨fun z => absurd z (by rw [hsh]; omega), fun _ => c_M_bits (by omega) (jq_I (c_M_bits (by omega) (jq_I ⟨fun y => ?_, fun y => ?_⟩)))⟩
      · rw [ev]
        refine ih (v + 1) s ξ (by omega) (by omega) g3 (by omega) g5 (fun u hu hT => ?_) g7
        by_cases huv : u = v
        · subst huv
          by_cases he : sBc 14 s = sBc 14 u
          · right
            refine ⟨he, ?_⟩
            rcases g4 with g4 | g4
            · omega
            · have ft := hfull (pw - 1) (by omega)
              have htp : sBc 14 s = mn := by
                have hs' : s = pw - 1 := by omega
                have := sBc_top mn 14 hmn
                rw [hpw] at this
                rw [hs']
                exact this
              have := fv.2 (by omega)
              omega
          · left; omega
        · exact g6 u (by omega) hT
      · refine c_M_isTalk hW hρ' hM' hV z hmn (by omega) (fun ν f => ⟨fun hT => jq_Z (jb_f (by decide) ?_), fun hT => jq_Z (jb_t rfl ?_)⟩)
        · rw [ev]
          refine ih (v + 1) v ν (by omega) (by omega) (by omega) (Or.inl (by omega)) hT (fun u hu hU => ?_) (fun p hp => (f p hp).trans (g7 p hp))
          by_cases huv : u = v
          · subst huv
            exact Or.inr ⟨rfl, Nat.le_refl _⟩
          · have := g6 u (by omega) hU
            left; omega
        · rw [ev]
          refine ih (v + 1) s ν (by omega) (by omega) g3 (by omega) g5 (fun u hu hU => ?_) (fun p hp => (f p hp).trans (g7 p hp))
          by_cases huv : u = v
          · subst huv
            rw [hT] at hU
            cases hU
          · exact g6 u (by omega) hU
  exact key pw 0 (pw - 1) _ (by omega) (by omega) (by omega) (Or.inr (by omega)) htop (fun u hu => by omega) (fun _ _ => rfl)
theorem c_M_mended (h : Q (some (jm_I (μ 133 45))) (jm_up μ 133 0 0)) : jc E m_X11_mended (d + 1) [jm_R 133] μ Q := e_X11_mended (fun _ => h)
end MN
