/-! a talk, in the reference: the call -/
section ML
variable {E : jm_E} {d : Nat} {μ : jm_M} {Q : Option jm_V → jm_M → Prop} {τ : Int → Int} {n lim p : Int} {T : zTs} {W : zTk}
theorem g_M_22 : ∀ (f : Nat) (i p : Int) (W : zTk) (ν : jm_M), i + f = 471 → 0 ≤ i → 2 * i ≤ p → mAt ν τ n lim p → mTk ν T W → (∀ e, zWt (sTok τ n lim) T f W p = .error e → ∀ ξ, mFl ν ξ e → Q (some (jm_I (jm_wr (-1 - e.2.1)))) ξ) → (∀ x, zWt (sTok τ n lim) T f W p = .ok x → ∀ ξ, mFk ν ξ → mTk ξ T x → jg E m_X11_talk (d + 5) 45 [some (jm_R 133), some (jm_I 0)] [] ξ Q) → jg E m_X11_talk (d + 5) 22 [some (jm_R 133), none] [] ν Q
  | 0, i, p, W, ν, g1, g2, g3, h0, hT, h1, h2 => by
    have b1 := h0.1.2.1
    have b2 := h0.2.2.2.2.1
    omega
  | f + 1, i, p, W, ν, g1, g2, g3, h0, hT, h1, h2 => by
    rw [zWt] at h1 h2
    refine r_X11_talk_22 (d := d + 5) ?_
    rw [h0.val.1]
    refine ⟨fun z => ?_, fun z => ?_⟩
    · rw [if_pos z] at h2
      exact h2 _ rfl ν mFk.rfl hT
    · rw [if_neg z] at h1 h2
      refine c_M_readTw (d := d + 1) h0 hT (fun e he ξ fe => jq_Z (jb_f (by decide) ?_)) (fun x hx xp ξ fo xa xm => jq_Z (jb_t (by decide) ?_))
      · rw [fe.2.2.2.1]
        exact h1 e (zC3_e he) ξ fe
      · rw [zC3_o hx] at h1 h2
        exact g_M_22 f (i + 1) x.2 x.1 ξ (by omega) (by omega) (by omega) xa xm (fun e he ζ fe => h1 e he ζ (fo.fe fe)) (fun w hw ζ f2 m2 => h2 w hw ζ (fo.trans f2) m2)
theorem g_M_45 {ξ : jm_M} (hT : mTk ξ T W) (h : ∀ ν, (∀ y, y ≠ 135 → ν y = ξ y) → (∀ j, j < 60 ∨ 861 ≤ j → ν 135 j = ξ 135 j) → mTl ν T.1 W.1 W.2 → Q (some (jm_I W.2)) ν) : jg E m_X11_talk (d + 5) 45 [some (jm_R 133), some (jm_I 0)] [] ξ Q := by
  have hn := hT.2.2.2.2.1
  have hW := hT.1.2.2.2
  have ec : ξ 150 0 = W.2 := by
    have h1 := hT.2.2.1.1
    rw [sLay_n] at h1
    exact h1
  have key : ∀ (f : Nat) (i : Nat) (ν : jm_M), i + f = W.2 → (∀ y, y ≠ 135 → ν y = ξ y) → (∀ j, j < 61 ∨ 861 ≤ j → ν 135 j = ξ 135 j) → (∀ j : Int, 0 ≤ j → j < 2 * i → ν 135 (61 + j) = W.1 j) → jg E m_X11_talk (d + 5) 45 [some (jm_R 133), some (jm_I i)] [] ν Q := by
    intro f
    induction f with
    | zero =>
      intro i ν g1 g3 g4 g5
      refine r_X11_talk_45 (d := d + 5) ?_
      rw [show ν 150 0 = W.2 by rw [g3 150 (by decide)]; exact ec]
      refine ⟨fun _ m2 h2 => ?_, fun z => absurd (by omega) z⟩
      rw [show m2 150 0 = W.2 by rw [h2, jm_up_lj (by decide), g3 150 (by decide)]; exact ec]
      refine h m2 (fun y hy => by rw [h2, jm_up_ne hy, g3 y hy]) (fun j hj => by rw [h2, jm_up_i (by omega)]; exact g4 j (by omega)) ⟨fun j j0 j1 => ?_, by rw [h2, jm_up_at], fun j j0 j1 => ?_⟩
      · rw [h2, jm_up_i (by omega), g4 j (by omega)]; exact hT.1.1 j j0 j1
      · rw [h2, jm_up_i (by omega)]; exact g5 j j0 (by omega)
    | succ f ih =>
      intro i ν g1 g3 g4 g5
      refine r_X11_talk_45 (d := d + 5) ?_
      have hl := sLay_w (ρ := T.1) (w := W.1) hW W.2 hn hT.2.2.2.1 i (by omega)
      have B := hT.2.2.1
      have e0 : ξ 144 i = W.1 (2 * i) := by
        have h1 := B.at (f := 0) (t := i) (g := 144) rfl (by decide) (by decide) (by omega) (by rw [sLay_n]; omega)
        rw [show (400 * 0 + (i : Int)) = i by omega] at h1
        rw [h1]; exact hl.1
      have e1 : ξ 145 i = W.1 (2 * i + 1) := by
        have h1 := B.at (f := 1) (t := i) (g := 145) rfl (by decide) (by decide) (by omega) (by rw [sLay_n]; omega)
        rw [show (400 * 0 + (i : Int)) = i by omega] at h1
        rw [h1]; exact hl.2
      rw [show ν 150 0 = W.2 by rw [g3 150 (by decide)]; exact ec, jm_wr_id (a := 2 * (i : Int)) (by omega) (by omega), jm_wr_id (a := 61 + 2 * (i : Int)) (by omega) (by omega), jm_wr_id (a := 61 + 2 * (i : Int) + 1) (by omega) (by omega), jm_wr_id (a := (i : Int) + 1) (by omega) (by omega), g3 144 (by decide), e0]
      refine ⟨fun z => absurd z (by omega), fun _ => ⟨⟨by omega, by omega⟩, ⟨by omega, by omega⟩, fun m5 h5 => ⟨⟨by omega, by omega⟩, fun m7 h7 => ?_⟩⟩⟩
      rw [show m5 145 i = W.1 (2 * i + 1) by rw [h5, jm_up_lj (by decide), g3 145 (by decide)]; exact e1] at h7
      refine ih (i + 1) m7 (by omega) (fun y hy => by rw [h7, jm_up_ne hy, h5, jm_up_ne hy, g3 y hy]) (fun j hj => by rw [h7, jm_up_i (by omega), h5, jm_up_i (by omega)]; exact g4 j hj) (fun j j0 j1 => ?_)
      rw [h7]
      by_cases q1 : j = 2 * (i : Int) + 1
      · rw [q1, show 61 + (2 * (i : Int) + 1) = 61 + 2 * (i : Int) + 1 by omega, jm_up_at]
      · rw [jm_up_i (by omega), h5]
        by_cases q0 : j = 2 * (i : Int)
        · rw [q0, jm_up_at]
        · rw [jm_up_i (by omega)]; exact g5 j j0 (by omega)
  exact key W.2 0 ξ (by omega) (fun _ _ => rfl) (fun _ _ => rfl) (fun j j0 j1 => by omega)
theorem c_M_talk (hX : sTx τ n) (ht : mTp μ τ n) (hT : mTt μ T) (h1 : ∀ e, zWt (sTok τ n 900) T 471 zW0 0 = .error e → ∀ ν, (∀ x, x ≠ 133 → x < 143 ∨ 151 < x → ν x = μ x) → (∀ j, j = 1 ∨ 12 < j → j ≠ 31 → ν 133 j = μ 133 j) → ν 133 0 = 0 → ν 133 2 = 0 → ν 133 10 = e.1 → ν 133 31 = e.2.2 → Q (some (jm_I (jm_wr (-1 - e.2.1)))) ν)
    (h2 : ∀ x, zWt (sTok τ n 900) T 471 zW0 0 = .ok x → ∀ ν, (∀ y, y ≠ 133 → y ≠ 135 → y < 143 ∨ 151 < y → ν y = μ y) → (∀ j, j < 60 ∨ 861 ≤ j → ν 135 j = μ 135 j) → (∀ j, j = 1 ∨ 12 < j → j ≠ 31 → ν 133 j = μ 133 j) → ν 133 0 = 0 → ν 133 2 = 0 → ν 133 10 = 0 → ν 133 31 = 0 → mTl ν T.1 x.1 x.2 → Q (some (jm_I x.2)) ν) : jc E m_X11_talk (d + 6) [jm_R 133] μ Q := by
  refine e_X11_talk (d := d + 5) (fun _ => c_M_begin (d := d + 2) hX ht (fun m1 a1 a2 a0 b2 b10 aA _ => ?_))
  have g : ∀ x, x ≠ 133 → jm_up m1 133 31 0 x = μ x := fun x hx => by rw [jm_up_ne hx, a1 x hx]
  have s : ∀ j, j ≠ 31 → jm_up m1 133 31 0 133 j = m1 133 j := fun j hj => jm_up_i hj
  have k0 : jm_up m1 133 31 0 133 31 = 0 := jm_up_at
  generalize jm_up m1 133 31 0 = m at g s k0 ⊢
  have aM : mAt m τ n 900 0 := aA.of (fun j hj => s j (by omega)) (by rw [g 134 (by decide), a1 134 (by decide)])
  have Tm : mTt m T := hT.of (g 135 (by decide)) (g 139 (by decide))
  refine c_M_layRules (e := 0) (ρ := T.1) (p := 135) (o := 0) (by decide) (fun i i0 i1 => ⟨ixl_135 (by omega) (by omega), by rw [show (0 : Int) + i = i by omega]; exact Tm.1 i i0 i1⟩) (by decide) (by decide) (fun m2 r1 r2 r3 _ _ _ => ?_)
  have aM2 : mAt m2 τ n 900 0 := aM.kf (r3 133 (by decide) (by decide) (by decide)) (r3 134 (by decide) (by decide) (by decide))
  have T2 : mTk m2 T zW0 := ⟨Tm.of (r3 135 (by decide) (by decide) (by decide)) (r3 139 (by decide) (by decide) (by decide)), r1, r2, fun t ht => absurd ht (Nat.not_lt_zero t), Nat.zero_le _, by rw [r3 133 (by decide) (by decide) (by decide)]; exact k0⟩
  have G : ∀ x, x ≠ 133 → x < 143 ∨ 151 < x → m2 x = μ x := fun x x1 x2 => by rw [r3 x (by omega) (by omega) (by omega), g x x1]
  have S : ∀ j, j ≠ 31 → m2 133 j = m1 133 j := fun j hj => by rw [r3 133 (by decide) (by decide) (by decide), s j hj]
  refine g_M_22 471 0 0 zW0 m2 (by decide) (by decide) (by decide) aM2 T2 (fun e he ξ fe => h1 e he ξ (fun x x1 x2 => by rw [fe.1 x x1 (by omega), G x x1 x2]) (fun j hj q1 => by rw [fe.2.1 j (by omega) q1, S j q1, a2 j (by omega)]) (by rw [fe.2.1 0 (by decide) (by decide), S 0 (by decide), a0]) (by rw [fe.2.1 2 (by decide) (by decide), S 2 (by decide), b2]) fe.2.2.1 fe.2.2.2.2) (fun x hx ξ fo xm => g_M_45 xm (fun ν f1 f2 f3 => h2 x hx ν (fun y y1 y2 y3 => by rw [f1 y y2, fo.1 y y1 (by omega), G y y1 y3]) (fun j hj => by rw [f2 j hj, fo.1 135 (by decide) (by decide), G 135 (by decide) (by decide)]) (fun j hj q1 => ?_) ?_ ?_ ?_ ?_ f3))
  · rw [f1 133 (by decide), fo.2 j (by omega) (by omega), S j q1, a2 j (by omega)]
  · rw [f1 133 (by decide), fo.2 0 (by decide) (by decide), S 0 (by decide), a0]
  · rw [f1 133 (by decide), fo.2 2 (by decide) (by decide), S 2 (by decide), b2]
  · rw [f1 133 (by decide), fo.2 10 (by decide) (by decide), S 10 (by decide), b10]
  · rw [f1 133 (by decide)]; exact xm.2.2.2.2.2
end ML
