section WK
variable {E : jm_E} {d : Nat} {μ : jm_M} {Q : Option jm_V → jm_M → Prop} {ρ : sR} {p : Int} {mn : Nat} {mt : Int → Int}
theorem c_T_looser {t : Int} {W : Nat} (hA : tA μ ρ 37 p 400 sEmpty) (hM : tMn μ 69 mn mt) (hV : sVM ρ mn mt) (t0 : 0 ≤ t) (t1 : t < mn) (hl : (sHl ρ mn mt t).length < 2147483647) (h5 : μ 124 5 = 0) (hm : ∀ f i : Int, 0 ≤ f → f ≤ 2 → 0 ≤ i → i < 24 → 0 ≤ μ (127 + f) i ∧ μ (127 + f) i < 1024)
    (h : ∀ ν, tA ν ρ 37 p 400 sEmpty → wQ μ ν → ν 124 5 = 0 → ν 124 6 = μ 124 6 → ν 127 = μ 127 ∧ ν 128 = μ 128 ∧ ν 129 = μ 129 → Q (some (jm_I (if W < (sHl ρ mn mt t).length then 1 else 0))) ν) :
    jc E m_X9_looser (d + 40) [jm_R 124, jm_R 69, jm_R 37, jm_I t, jm_I W] μ Q := by
  have hn := hV.1
  have e : sTn mn (-1) = mn := rfl
  refine e_X9_looser (d := d + 39) (fun _ => c_T_take (d := d + 37) is_69 (by decide) hM hV.1 (by decide) (by omega) (fun m v1 v2 v3 v4 _ => ?_))
  rw [e] at v3 v4
  rw [v3]
  refine ⟨fun z => absurd z (by omega), fun _ => ⟨fun z => absurd z (by omega), fun _ => ⟨by omega, fun m5 h5' m6 h6' => ?_⟩⟩⟩
  have oth : ∀ x, x ≠ 125 → x ≠ 126 → m6 x = m x := fun x x1 x2 => by rw [h6', jm_up_ne x2, h5', jm_up_ne x1]
  refine r_X9_looser_32 (d := d + 39) ?_
  have o1 : ∀ x, x < 124 ∨ 126 < x → jm_up (jm_up m6 124 3 0) 124 4 W x = μ x := fun x hx => by rw [jm_up_ne (by omega), jm_up_ne (by omega), oth x (by omega) (by omega), v1 x (by omega) (by omega) (by omega)]
  have o2 : ∀ i, i ≠ 0 → i ≠ 3 → i ≠ 4 → jm_up (jm_up m6 124 3 0) 124 4 W 124 i = μ 124 i := fun i i0 i3 i4 => by rw [jm_up_i i4, jm_up_i i3, oth 124 (by decide) (by decide)]; exact v2 i i0
  have hs : wS (sTe mt t) mn 0 W (jm_up (jm_up m6 124 3 0) 124 4 W) := by
    refine ⟨by rw [jm_up_i (by decide), jm_up_i (by decide), oth 124 (by decide) (by decide)]; exact v3, by rw [o2 5 (by decide) (by decide) (by decide)]; exact h5, jm_up_at, fun i i0 i1 => ?_, by rw [jm_up_i (by decide), jm_up_at]; exact Int.le_refl _, fun f i f0 f1 i0 i1 => by rw [o1 _ (by omega)]; exact hm f i f0 f1 i0 i1⟩
    rw [jm_up_ne (by decide), jm_up_ne (by decide), jm_up_ne (by decide), jm_up_ne (by decide), h6', jm_up_ne (by decide), h5']
    unfold sTe
    have := v4 i i0 i1
    by_cases q : i = t
    · subst q
      rw [if_pos (Or.inl rfl), if_pos (Or.inr rfl)]
      exact ⟨jm_up_at, jm_up_at⟩
    · rw [if_neg (by omega), if_neg (by omega), jm_up_i q, jm_up_i q, jm_up_ne (by decide)]
      exact this
  have hT : ∀ s : Int, 0 ≤ s → s < mn → (sTe mt t (2 * s) = -1 ∨ 0 ≤ sTe mt t (2 * s) ∧ sTe mt t (2 * s) < ρ 0) ∧ (sTe mt t (2 * s + 1) = -1 ∨ 0 ≤ sTe mt t (2 * s + 1) ∧ sTe mt t (2 * s + 1) < ρ 1) := by
    intro s s0 s1
    have := sTq_in (sw := -1) hV (by decide) (show (-1 : Int) < mn by omega) (by decide) (Or.inl rfl) (Or.inl rfl) s s0 (by rw [e]; exact s1)
    unfold sTe
    refine ⟨?_, ?_⟩
    · split
      · exact Or.inl rfl
      · exact this.1
    · split
      · exact Or.inl rfl
      · exact this.2
  have e3 : jm_up (jm_up m6 124 3 0) 124 4 W 124 3 = 0 := by rw [jm_up_i (by decide), jm_up_at]
  refine t_rowF hV.1 (Or.inl rfl) hT (hA.of (fun q hq => o1 q (by have := hA.1.p; omega))) hs (by rw [e3]; show 0 + ((sHl ρ mn mt t).length : Int) < _; omega) (fun ν A S G _ => ?_)
  have cnt := G.2.2.2.1
  have c5 := G.2.2.2.2.1
  have c6 := G.2.2.2.2.2.1
  have c7 := G.2.2.2.2.2.2.1 rfl
  rw [e3] at cnt c5 c6
  have eH : sFi ρ (sTe mt t) mn sEmpty = sHl ρ mn mt t := rfl
  rw [eH] at cnt c5 c6
  have g := h ν A ((wQ_o (fun x hx => o1 x (by omega))).trans (wQ_g G)) S.2.1 (by rw [G.2.2.1 6 (by decide)]; exact o2 6 (by decide) (by decide) (by decide)) ⟨c7.1.trans (o1 127 (by decide)), c7.2.1.trans (o1 128 (by decide)), c7.2.2.trans (o1 129 (by decide))⟩
  refine ⟨fun z => ?_, fun z => ?_⟩
  · rw [if_neg (by omega)] at g; exact g
  · rw [if_pos (by omega)] at g; exact g
theorem c_T_hanging (hA : tA μ ρ 37 p 400 sEmpty) (hM : tMn μ 69 mn mt) (hV : sVM ρ mn mt) (hB : ρ 0 * ρ 1 * sWays ρ mt mn ≤ 100000) (hm : ∀ f i : Int, 0 ≤ f → f ≤ 2 → 0 ≤ i → i < 24 → 0 ≤ μ (127 + f) i ∧ μ (127 + f) i < 1024)
    (h : ∀ ν, wQ μ ν → ν 37 0 = μ 37 0 → ν 124 6 = μ 124 6 → ν 127 = μ 127 ∧ ν 128 = μ 128 ∧ ν 129 = μ 129 → Q (some (jm_I (sHg ρ mn mt))) ν) :
    jc E m_X9_hanging (d + 41) [jm_R 124, jm_R 69, jm_R 37] μ Q := by
  have hW := hA.2.2.1
  have hn := hV.1
  have len0 : ((sWl ρ mn mt 0).length : Int) ≤ 100000 := by
    rw [sWl_0]
    by_cases hz : ρ 0 ≤ 0 ∨ ρ 1 ≤ 0
    · have := sFi_zero (ρ := ρ) (T := sTq mt (-1) (-1)) (b := sEmpty) hz mn
      omega
    · have h1 := hW.1
      have h2 := hW.2.2.1
      have hw0 : 0 ≤ sWays ρ mt mn := by
        refine sPr_nn _ _ (fun s _ _ => ?_)
        unfold sGw
        refine Int.mul_nonneg ?_ ?_ <;> split <;> omega
      have h3 : 1 ≤ ρ 0 * ρ 1 := by
        have := Int.mul_le_mul (show (1 : Int) ≤ ρ 0 by omega) (show (1 : Int) ≤ ρ 1 by omega) (by decide) h1
        omega
      have h4 : 1 * sWays ρ mt mn ≤ ρ 0 * ρ 1 * sWays ρ mt mn := Int.mul_le_mul_of_nonneg_right h3 hw0
      exact sRow_len (mn := mn) (wo := -1) (sw := -1) hW (by decide) (by omega) (by decide) (Or.inl rfl) (Or.inl rfl) (by decide) (by omega)
  have eW : sFi ρ (sTq mt (-1) (-1)) (sTn mn (-1)) sEmpty = sWl ρ mn mt 0 := rfl
  refine e_X9_hanging (d := d + 40) (fun _ => e_X9_start (d := d + 39) (fun _ => ⟨Or.inl rfl, fun _ => ?_⟩))
  have o1 : ∀ x, x ≠ 124 → jm_up (jm_up (jm_up (jm_up μ 124 5 0) 124 0 0) 124 3 0) 124 4 1000000 x = μ x := fun x hx => by rw [jm_up_ne hx, jm_up_ne hx, jm_up_ne hx, jm_up_ne hx]
  generalize hm0 : jm_up (jm_up (jm_up (jm_up μ 124 5 0) 124 0 0) 124 3 0) 124 4 1000000 = m0 at o1
  have e5 : m0 124 5 = 0 := by rw [← hm0, jm_up_i (by decide), jm_up_i (by decide), jm_up_i (by decide), jm_up_at]
  have e4 : m0 124 4 = 1000000 := by rw [← hm0, jm_up_at]
  have e3 : m0 124 3 = 0 := by rw [← hm0, jm_up_i (by decide), jm_up_at]
  have e6 : m0 124 6 = μ 124 6 := by rw [← hm0, jm_up_i (by decide), jm_up_i (by decide), jm_up_i (by decide), jm_up_i (by decide)]
  have A0 : tA m0 ρ 37 p 400 sEmpty := hA.of (fun q hq => o1 q (by have := hA.1.p; omega))
  have w0 : wQ μ m0 := wQ_o (fun x hx => o1 x (by omega))
  have t1 := t_row1 (E := E) (d := d + 1) (wo := -1) (tl := 0) (en := 1000000) (μ := m0) (p := p) (F := fun o m3 => o = none → ((m3 124 3 ≠ 0 → jg E m_X9_hanging (d + 40) 34 [some (jm_R 124), some (jm_R 69), some (jm_R 37), some (jm_I (m3 124 3)), some (jm_I 0), some (jm_I 0)] [] m3 Q) ∧ (¬ (m3 124 3 ≠ 0) → Q (some (jm_I (-1))) m3))) hV (Or.inl rfl) (by decide) (by omega) A0 (tMn_w w0 hM) e5 e4 (by omega) (fun f i f0 f1 i0 i1 => by rw [o1 _ (by omega)]; exact hm f i f0 f1 i0 i1) (by rw [e3, eW]; omega) (fun ν A r _ => ?_)
  · exact t1
  obtain ⟨r1, r2, r3, r4, r5, r6, r7, r8, r9⟩ := r
  rw [e3, eW] at r6
  have c3 : ν 124 3 = (sWl ρ mn mt 0).length := by have := r6 (by omega); omega
  have hH : sHg ρ mn mt = if (sWl ρ mn mt 0).length = 0 then -1 else sMsk (fun t => decide (mt (2 * t) ≠ -1 ∧ mt (2 * t + 1) ≠ -1 ∧ (sWl ρ mn mt 0).length < (sHl ρ mn mt t).length)) mn 0 0 := by
    unfold sHg; rw [if_neg (by omega)]
  rw [hH] at h
  have same : ν 127 = μ 127 ∧ ν 128 = μ 128 ∧ ν 129 = μ 129 := by
    have := r8 rfl
    exact ⟨this.1.trans (o1 127 (by decide)), this.2.1.trans (o1 128 (by decide)), this.2.2.trans (o1 129 (by decide))⟩
  rw [c3]
  refine ⟨fun z => ?_, fun z => ?_⟩
  · have l0 : (sWl ρ mn mt 0).length ≠ 0 := by omega
    rw [if_neg l0] at h
    generalize hV0 : sMsk (fun t => decide (mt (2 * t) ≠ -1 ∧ mt (2 * t + 1) ≠ -1 ∧ (sWl ρ mn mt 0).length < (sHl ρ mn mt t).length)) mn 0 0 = V at h
    have key : ∀ (m : Nat) (t acc : Int) (ξ : jm_M), t + m = mn → 0 ≤ t → 0 ≤ acc → acc < 2 ^ 24 → tA ξ ρ 37 p 400 sEmpty → wQ μ ξ → ξ 37 0 = μ 37 0 → ξ 124 5 = 0 → ξ 124 6 = μ 124 6 → (ξ 127 = μ 127 ∧ ξ 128 = μ 128 ∧ ξ 129 = μ 129) → sMsk (fun t => decide (mt (2 * t) ≠ -1 ∧ mt (2 * t + 1) ≠ -1 ∧ (sWl ρ mn mt 0).length < (sHl ρ mn mt t).length)) m t acc = V → jg E m_X9_hanging (d + 40) 34 [some (jm_R 124), some (jm_R 69), some (jm_R 37), some (jm_I (sWl ρ mn mt 0).length), some (jm_I acc), some (jm_I t)] [] ξ Q := by
      intro m
      induction m with
      | zero =>
        intro t acc ξ g1 g2 g3 g4 g5 g6 g7 g8 g9 g10 g11
        refine r_X9_hanging_34 (d := d + 40) ⟨is_69, ?_⟩
        rw [(tMn_w g6 hM).1]
        refine ⟨fun _ => ?_, fun z => absurd z (by omega)⟩
        rw [← g11] at h
        exact h ξ g6 g7 g9 g10
      | succ m ih =>
        intro t acc ξ g1 g2 g3 g4 g5 g6 g7 g8 g9 g10 g11
        have M' := tMn_w g6 hM
        have gs := sor_lt (m := acc) (k := t) (n := 24) g3 g4 g2 (by omega)
        rw [sMsk] at g11
        refine r_X9_hanging_34 (d := d + 40) ⟨is_69, ?_⟩
        rw [M'.1, jm_wr_id (a := t + 1) (by omega) (by omega)]
        refine ⟨fun z => absurd z (by omega), fun _ => c_T_whoAt is_69 M' hn g2 (by omega) (jq_I ⟨fun z1 => ?_, fun z1 => c_T_kindAt is_69 M' hn g2 (by omega) (jq_I ⟨fun z2 => ?_, fun z2 => ?_⟩)⟩)⟩
        · rw [if_neg (by simp [z1])] at g11
          exact ih (t + 1) acc ξ (by omega) (by omega) g3 g4 g5 g6 g7 g8 g9 g10 g11
        · rw [if_neg (by simp [z2])] at g11
          exact ih (t + 1) acc ξ (by omega) (by omega) g3 g4 g5 g6 g7 g8 g9 g10 g11
        · have hl := sHl_len hW g2 (by omega) z1 z2 (by decide) hB
          refine c_T_looser (W := (sWl ρ mn mt 0).length) g5 M' hV g2 (by omega) (by omega) g8 (fun f i f0 f1 i0 i1 => ?_) (fun ν' A' w' e5' e6' s' => ?_)
          · have := hm f i f0 f1 i0 i1
            rcases (show f = 0 ∨ f = 1 ∨ f = 2 by omega) with rfl | rfl | rfl
            · rw [show (127 + 0 : Int) = 127 by decide, g10.1]; exact this
            · rw [show (127 + 1 : Int) = 128 by decide, g10.2.1]; exact this
            · rw [show (127 + 2 : Int) = 129 by decide, g10.2.2]; exact this
          · have s'' : ν' 127 = μ 127 ∧ ν' 128 = μ 128 ∧ ν' 129 = μ 129 := ⟨s'.1.trans g10.1, s'.2.1.trans g10.2.1, s'.2.2.trans g10.2.2⟩
            have e37 : ν' 37 0 = μ 37 0 := by rw [A'.2.1, ← g5.2.1]; exact g7
            by_cases q : (sWl ρ mn mt 0).length < (sHl ρ mn mt t).length
            · rw [if_pos q]
              refine jq_Z (jb_f (by decide) (fun x hx => ?_))
              rw [jm_or_bit g3 (by omega) g2 (by omega)] at hx
              subst hx
              rw [if_pos (by simp [z1, z2, q])] at g11
              exact ih (t + 1) _ ν' (by omega) (by omega) gs.1 gs.2 A' (g6.trans w') e37 e5' (e6'.trans g9) s'' g11
            · rw [if_neg q]
              refine jq_Z (jb_t rfl ?_)
              rw [if_neg (by simp [q])] at g11
              exact ih (t + 1) acc ν' (by omega) (by omega) g3 g4 A' (g6.trans w') e37 e5' (e6'.trans g9) s'' g11
    refine key mn 0 0 ν (by omega) (by decide) (by decide) (by decide) A (w0.trans r1) ?_ ((r3 5 (by decide) (by decide)).trans e5) ((r3 6 (by decide) (by decide)).trans e6) same hV0
    rw [A.2.1, ← hA.2.1]
  · have l0 : (sWl ρ mn mt 0).length = 0 := by omega
    rw [if_pos l0] at h
    exact h ν (w0.trans r1) (by rw [A.2.1, ← hA.2.1]) ((r3 6 (by decide) (by decide)).trans e6) same
end WK
