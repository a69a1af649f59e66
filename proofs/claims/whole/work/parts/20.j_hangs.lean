/-! which words wholes hang on -/
def sTe (mt : Int → Int) (t : Int) : Int → Int := fun i => if i = 2 * t ∨ i = 2 * t + 1 then -1 else sTq mt (-1) (-1) i
def sHl (ρ : sR) (mn : Nat) (mt : Int → Int) (t : Int) : List sB := sFi ρ (sTe mt t) mn sEmpty
def sHg (ρ : sR) (mn : Nat) (mt : Int → Int) : Int :=
  if 100000 < ρ 0 * ρ 1 * sWays ρ mt mn then -2
  else if (sWl ρ mn mt 0).length = 0 then -1
  else sMsk (fun t => decide (mt (2 * t) ≠ -1 ∧ mt (2 * t + 1) ≠ -1 ∧ (sWl ρ mn mt 0).length < (sHl ρ mn mt t).length)) mn 0 0
theorem sWl_0 {ρ : sR} {mn : Nat} {mt : Int → Int} : sWl ρ mn mt 0 = sFi ρ (sTq mt (-1) (-1)) mn sEmpty := by
  unfold sWl
  rw [if_pos rfl]
  rfl
theorem sTq_id {mt : Int → Int} {i : Int} (i0 : 0 ≤ i) : sTq mt (-1) (-1) i = mt i := by
  unfold sTq sDp sSw
  rw [if_neg (show ¬ (0 ≤ (-1 : Int) ∧ (-1 : Int) ≤ i / 2) by omega), if_neg (by omega), if_neg (by omega)]
  congr 1
  omega
/-- the looser minutes have no more ways than that -/
theorem sHl_len {ρ : sR} {mn : Nat} {mt : Int → Int} {t B : Int} (hW : sWR ρ) (t0 : 0 ≤ t) (t1 : t < mn) (h1 : mt (2 * t) ≠ -1) (h2 : mt (2 * t + 1) ≠ -1) (b1 : 1 ≤ B) (hB : ρ 0 * ρ 1 * sWays ρ mt mn ≤ B) : ((sHl ρ mn mt t).length : Int) ≤ B := by
  by_cases hz : ρ 0 ≤ 0 ∨ ρ 1 ≤ 0
  · have := sFi_zero (T := sTe mt t) (b := sEmpty) hz mn
    unfold sHl
    omega
  · have hl := sFi_len (T := sTe mt t) hW mn sEmpty
    refine Int.le_trans hl (Int.le_trans ?_ hB)
    show sPr (sGw ρ (sTe mt t)) mn 0 ≤ ρ 0 * ρ 1 * sPr (sGw ρ mt) mn 0
    have hq : ∀ s, 0 ≤ s → sGw ρ (sTe mt t) s = if s = t then ρ 0 * ρ 1 else sGw ρ mt s := fun s s0 => by
      by_cases hs : s = t
      · rw [if_pos hs]
        unfold sGw sTe
        rw [hs, if_pos (Or.inl rfl), if_pos (Or.inr rfl), if_pos rfl]
        rfl
      · rw [if_neg hs]
        have x1 : sTe mt t (2 * s) = mt (2 * s) := by
          unfold sTe
          rw [if_neg (by omega), sTq_id (by omega)]
        have x2 : sTe mt t (2 * s + 1) = mt (2 * s + 1) := by
          unfold sTe
          rw [if_neg (by omega), sTq_id (by omega)]
        unfold sGw
        rw [x1, x2]
    obtain ⟨k, rfl⟩ : ∃ k : Nat, t = k := ⟨t.toNat, by omega⟩
    obtain ⟨m, rfl⟩ : ∃ m : Nat, mn = k + (m + 1) := ⟨mn - k - 1, by omega⟩
    rw [sPr_add, sPr_add k (m + 1)]
    simp only [sPr]
    have e1 : sPr (sGw ρ (sTe mt k)) k 0 = sPr (sGw ρ mt) k 0 := sPr_ext k 0 0 (fun s a0 a1 => by rw [hq _ (by omega), if_neg (by omega)])
    have e2 : sPr (sGw ρ (sTe mt k)) m (0 + (k : Int) + 1) = sPr (sGw ρ mt) m (0 + (k : Int) + 1) := sPr_ext m _ _ (fun s a0 a1 => by rw [hq _ (by omega), if_neg (by omega)])
    have e3 : sGw ρ mt (0 + (k : Int)) = 1 := by
      rw [Int.zero_add]
      unfold sGw
      rw [if_neg h1, if_neg h2]
      rfl
    rw [e1, e2, hq _ (by omega), if_pos (by omega), e3, Int.one_mul]
    refine Int.le_of_eq ?_
    rw [Int.mul_left_comm]
theorem sMsk_b {p : Int → Bool} {n : Nat} : ∀ (m : Nat) (k acc : Int), 0 ≤ k → k + m ≤ n → 0 ≤ acc → acc < 2 ^ n → 0 ≤ sMsk p m k acc ∧ sMsk p m k acc < 2 ^ n
  | 0, _, _, _, _, h0, h1 => ⟨h0, h1⟩
  | m + 1, k, acc, k0, k1, h0, h1 => by
    have h := sor_lt (m := acc) (k := k) (n := n) h0 h1 k0 (by omega)
    unfold sMsk
    split
    · exact sMsk_b m (k + 1) _ (by omega) (by omega) h.1 h.2
    · exact sMsk_b m (k + 1) _ (by omega) (by omega) h0 h1
section MH2
variable {E : jm_E} {d : Nat} {μ : jm_M} {Q : Option jm_V → jm_M → Prop} {ρ : sR} {mn : Nat} {mt : Int → Int}
theorem c_M_hangs (hW : sWR ρ) (hρ : ∀ i, 0 ≤ i → i < 60 → μ 135 i = ρ i) (hM : mMn μ mn mt) (hV : sVM ρ mn mt) (h : ∀ ν, mWf μ ν → Q (some (jm_I (sHg ρ mn mt))) ν) : jc E m_X11_hangs (d + 30) [jm_R 133] μ Q := by
  have hn := hV.1
  have hP := hW.1
  have hP8 := hW.2.1
  have hK := hW.2.2.1
  have hK10 := hW.2.2.2.1
  have e0 : ∀ p, p ≠ 133 → jm_up μ 133 0 0 p = μ p := fun p hp => jm_up_ne hp
  have hM0 : mMn (jm_up μ 133 0 0) mn mt := ⟨by rw [e0 135 (by decide)]; exact hM.1, fun i i0 i1 => by rw [e0 135 (by decide)]; exact hM.2 i i0 i1⟩
  have hρ0 : ∀ i, 0 ≤ i → i < 60 → jm_up μ 133 0 0 135 i = ρ i := fun i i0 i1 => by rw [e0 135 (by decide)]; exact hρ i i0 i1
  have c0 : 0 ≤ ρ 0 * ρ 1 := Int.mul_nonneg hP hK
  have c1 : ρ 0 * ρ 1 ≤ 8 * 10 := Int.mul_le_mul hP8 hK10 hK (by decide)
  have f00 : mWf μ (jm_up μ 133 0 0) := ⟨fun p p1 _ => e0 p p1, fun i i0 _ _ => jm_up_i i0⟩
  refine e_X11_hangs (d := d + 29) (fun _ => ?_)
  rw [hρ 0 (by decide) (by decide), hρ 1 (by decide) (by decide), jm_wr_id (by omega) (by omega)]
  refine c_M_fillings (times := ρ 0 * ρ 1) (most := 100000) hW (hρ0 0 (by decide) (by decide)) (hρ0 1 (by decide) (by decide)) hM0 hV c0 ?_ (by decide) (by decide) (by omega) (fun z => jq_I (jb_f (by decide) ?_)) (fun z => jq_I (jb_t z ?_))
  · by_cases h0 : 1 ≤ ρ 0 ∧ 1 ≤ ρ 1
    · exact Or.inl h0
    · right
      by_cases h1 : ρ 0 = 0
      · rw [h1, Int.zero_mul]; decide
      · rw [show ρ 1 = 0 by omega, Int.mul_zero]; decide
  · have g := h _ f00
    rw [sHg, if_pos z] at g
    exact g
  · rw [sHg, if_neg (by omega), sWl_0] at h
    have hlen0 := sRow_len (ρ := ρ) (mn := mn) (mt := mt) (wo := -1) (sw := -1) (B := 100000) hW (by decide) (by omega) (by decide) (Or.inl rfl) (Or.inl rfl) (by decide)
    rw [show sTn mn (-1) = mn from rfl] at hlen0
    have hlenA : ((sFi ρ (sTq mt (-1) (-1)) mn sEmpty).length : Int) ≤ 100000 := by
      by_cases hz : ρ 0 ≤ 0 ∨ ρ 1 ≤ 0
      · have := sFi_zero (T := sTq mt (-1) (-1)) (b := sEmpty) hz mn
        omega
      · refine hlen0 ?_
        have h1 : 1 ≤ ρ 0 * ρ 1 := by
          have := Int.mul_le_mul (show 1 ≤ ρ 0 by omega) (show 1 ≤ ρ 1 by omega) (by decide) hP
          omega
        have n0 : 0 ≤ sWays ρ mt mn := sPr_nn mn 0 (fun s _ _ => by unfold sGw; refine Int.mul_nonneg ?_ ?_ <;> split <;> omega)
        have := Int.mul_le_mul_of_nonneg_right h1 n0
        omega
    refine c_M_beginFill (d := d + 27) hρ0 (fun ν v1 v2 v3 v4 v5 v6 _ => ?_)
    have e135 : ν 135 = μ 135 := by rw [v3 135 (by decide) (by decide), e0 135 (by decide)]
    have f0 : mWf μ ν := f00.trans ⟨fun p p1 p2 => v3 p p1 (by omega), fun i i0 i1 i2 => v4 i i2⟩
    have hMν : mMn ν mn mt := ⟨by rw [e135]; exact hM.1, fun i i0 i1 => by rw [e135]; exact hM.2 i i0 i1⟩
    have hρν : ∀ i, 0 ≤ i → i < 60 → ν 135 i = ρ i := fun i i0 i1 => by rw [e135]; exact hρ i i0 i1
    refine m_row hW hn v1 v2 hρν hMν (by decide) (by omega) (by decide) (Or.inl rfl) (by omega) (by rw [show sTn mn (-1) = mn from rfl]; omega) (fun f i f0 f1 i0 i1 => by rw [v6 f i f0 f1 i0 i1]; decide) (fun ξ b1 f1 r1 n1 k1 k2 _ => ?_)
    rw [show sTn mn (-1) = mn from rfl, v5, Int.zero_add] at n1
    generalize hA : (sFi ρ (sTq mt (-1) (-1)) mn sEmpty).length = A at h n1 hlenA
    rw [n1]
    have fx := f0.trans f1
    refine ⟨fun y => ?_, fun y => ?_⟩
    · rw [if_neg (by omega)] at h
      generalize hp : (fun t : Int => decide (mt (2 * t) ≠ -1 ∧ mt (2 * t + 1) ≠ -1 ∧ A < (sHl ρ mn mt t).length)) = p at h
      have hp' : ∀ t, p t = decide (mt (2 * t) ≠ -1 ∧ mt (2 * t + 1) ≠ -1 ∧ A < (sHl ρ mn mt t).length) := fun t => by rw [← hp]
      have key : ∀ (m : Nat) (t acc : Int) (ξ : jm_M), mn - t = m → 0 ≤ t → 0 ≤ acc → acc < 2 ^ 24 → mWf μ ξ → sMsk p m t acc = sMsk p mn 0 0 → jg E m_X11_hangs (d + 29) 64 [some (jm_R 133), some (jm_I A), some (jm_I acc), some (jm_I t)] [] ξ Q := by
        intro m
        induction m with
        | zero =>
          intro t acc ξ g1 g2 g3 g4 g5 g6
          have q : ξ 135 861 = mn := by rw [g5.1 135 (by decide) (by decide)]; exact hM.1
          refine r_X11_hangs_64 (d := d + 29) ⟨fun _ => ?_, fun z => absurd (show ξ 135 861 ≤ t by omega) z⟩
          have g6' : acc = sMsk p mn 0 0 := g6
          rw [g6']
          exact h ξ g5
        | succ m ih =>
          intro t acc ξ g1 g2 g3 g4 g5 g6
          have e135' : ξ 135 = μ 135 := g5.1 135 (by decide) (by decide)
          have a1 : jm_wr (2 * t) = 2 * t := jm_wr_id (by omega) (by omega)
          have a2 : jm_wr (862 + 2 * t) = 862 + 2 * t := jm_wr_id (by omega) (by omega)
          have a3 : jm_wr (862 + 2 * t + 1) = 862 + (2 * t + 1) := by rw [jm_wr_id (by omega) (by omega)]; omega
          have a4 : jm_wr (2 * t + 1) = 2 * t + 1 := jm_wr_id (by omega) (by omega)
          have q : ξ 135 861 = mn := by rw [e135']; exact hM.1
          have q1 : ξ 135 (862 + 2 * t) = mt (2 * t) := by rw [e135']; exact hM.2 _ (by omega) (by omega)
          have q2 : ξ 135 (862 + (2 * t + 1)) = mt (2 * t + 1) := by rw [e135']; exact hM.2 _ (by omega) (by omega)
          have g6' : sMsk p m (t + 1) (if p t then sor acc t else acc) = sMsk p mn 0 0 := g6
          have no : p t = false → ∀ ω : jm_M, mWf μ ω → jg E m_X11_hangs (d + 29) 64 [some (jm_R 133), some (jm_I A), some (jm_I acc), some (jm_I (jm_wr (t + 1)))] [] ω Q := by
            intro z ω g5'
            rw [z] at g6'
            rw [jm_wr_id (by omega) (by omega)]
            exact ih (t + 1) acc ω (by omega) (by omega) g3 g4 g5' g6'
          refine r_X11_hangs_64 (d := d + 29) ⟨fun z => absurd z (by omega), fun _ => ?_⟩
          rw [a1, a2, a3, a4, q1, q2]
          refine ⟨⟨by omega, by omega⟩, fun z => no (by rw [hp']; exact decide_eq_false (fun y => y.1 z)) ξ g5, fun z1 => ⟨⟨by omega, by omega⟩, fun z2 => ?_, fun z2 => no (by rw [hp']; exact decide_eq_false (fun y => z2 y.2.1)) ξ g5⟩⟩
          have hlt := sHl_len (ρ := ρ) (mn := mn) (mt := mt) (t := t) (B := 100000) hW g2 (by omega) z1 z2 (by decide) (by omega)
          have hρξ : ∀ i, 0 ≤ i → i < 60 → ξ 135 i = ρ i := fun i i0 i1 => by rw [e135']; exact hρ i i0 i1
          refine c_M_beginFill (d := d + 27) hρξ (fun ω1 u1 u2 u3 u4 u5 u6 _ => ?_)
          have e2 : ω1 135 = μ 135 := by rw [u3 135 (by decide) (by decide)]; exact e135'
          have hM2 : mMn ω1 mn mt := ⟨by rw [e2]; exact hM.1, fun i i0 i1 => by rw [e2]; exact hM.2 i i0 i1⟩
          have fA : mWf μ ω1 := g5.trans ⟨fun p p1 p2 => u3 p p1 (by omega), fun i i0 i1 i2 => u4 i i2⟩
          refine c_M_layTorn (d := d + 28) hn hM2 (by decide) (by omega) (by decide) (Or.inl rfl) (fun ω2 x1 x2 x3 x4 _ => ⟨⟨by omega, by omega⟩, fun m9 h9 => ⟨⟨by omega, by omega⟩, fun m11 h11 => ?_⟩⟩)
          rw [show sTn mn (-1) = mn from rfl] at x3 x4
          have e11 : ∀ p, p ≠ 152 → m11 p = ω2 p := fun p hp => by rw [h11, h9, jm_up_ne hp, jm_up_ne hp]
          have e152 : ∀ i : Int, 0 ≤ i → i < 2 * mn → m11 152 i = sTe mt t i := fun i i0 i1 => by
            unfold sTe
            by_cases c1 : i = 2 * t + 1
            · rw [if_pos (Or.inr c1), h11, c1, jm_up_at]
            · by_cases c2 : i = 2 * t
              · rw [if_pos (Or.inl c2), h11, jm_up_i c1, h9, c2, jm_up_at]
              · rw [if_neg (fun q => q.elim c2 c1), h11, jm_up_i c1, h9, jm_up_i c2]
                exact x4 i i0 i1
          have hs : mFs ρ (sTe mt t) mn sEmpty m11 := ⟨fun j j0 j1 => by rw [e11 143 (by decide), x1 143 (by decide) (by decide)]; exact u1 j j0 j1, ⟨by rw [e11 150 (by decide), x1 150 (by decide) (by decide)]; exact u2.1, by rw [e11 151 (by decide), x1 151 (by decide) (by decide)]; exact u2.2.1, fun f s f0 f1 s0 s1 => absurd (show s < 0 from s1) (by omega)⟩, by rw [e11 135 (by decide), x1 135 (by decide) (by decide), e2]; exact hρ 0 (by decide) (by decide), by rw [e11 135 (by decide), x1 135 (by decide) (by decide), e2]; exact hρ 1 (by decide) (by decide), by rw [e11 133 (by decide)]; exact x3, e152, by rw [e11 133 (by decide), x2 43 (by decide), u5]; decide, fun f i f0 f1 i0 i1 => by rw [e11 _ (by omega), x1 _ (by omega) (by omega), u6 f i f0 f1 i0 i1]; decide⟩
          have h43 : m11 133 43 = 0 := by rw [e11 133 (by decide), x2 43 (by decide), u5]
          have hc := c_M_fill (E := E) (d := d + 25 - mn) (T := sTe mt t) hW hn mn sEmpty m11 0
          rw [show d + 25 - mn + mn + 4 = d + 29 by omega] at hc
          have hlt' : ((sFi ρ (sTe mt t) mn sEmpty).length : Int) ≤ 100000 := hlt
          refine hc _ (by show (0 : Int) + (mn : Nat) = _; omega) rfl sGB_empty hs (by omega) (fun ω3 b3 g3' _ => ?_)
          have fB : mWf μ ω3 := (fA.trans ⟨fun p p1 p2 => by rw [e11 p (by omega)]; exact x1 p p1 (by omega), fun i i0 i1 i2 => by rw [e11 133 (by decide)]; exact x2 i i1⟩).trans (mWf_of g3')
          have n3 : ω3 133 43 = (sHl ρ mn mt t).length := by rw [g3'.2.2.1, h43, Int.zero_add]; rfl
          rw [n3]
          refine ⟨fun y => no (by rw [hp']; exact decide_eq_false (fun q => by omega)) ω3 fB, fun y x14 h14 => ?_⟩
          have hyes : p t = true := by rw [hp']; exact decide_eq_true ⟨z1, z2, by omega⟩
          rw [hyes] at g6'
          have hb := sor_lt (m := acc) (k := t) (n := 24) g3 g4 g2 (by omega)
          have h24 : (2 : Int) ^ 24 = 16777216 := by decide
          rw [jm_or_bit g3 (by omega) g2 (by omega)] at h14
          rw [jm_wr_id (a := t + 1) (by omega) (by omega), h14]
          exact ih (t + 1) _ ω3 (by omega) (by omega) hb.1 hb.2 fB g6'
      exact key mn 0 0 ξ (by omega) (by decide) (by decide) (by decide) fx rfl
    · rw [if_pos (by omega)] at h
      exact h ξ fx
end MH2
