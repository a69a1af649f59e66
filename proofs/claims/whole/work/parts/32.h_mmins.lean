/-! torn minutes: the call of the reference -/
section MJ
variable {E : jm_E} {d : Nat} {μ : jm_M} {Q : Option jm_V → jm_M → Prop} {τ : Int → Int} {n lim p : Int} {T : zTs} {M : zMs}
theorem g_M_17 : ∀ (f : Nat) (i p : Int) (M : zMs) (ν : jm_M), i + f = 471 → 0 ≤ i → 2 * i ≤ p → mTt ν T → mAt ν τ n lim p → mMl ν M → zMi T.1 M → (∀ e, zMt (sTok τ n lim) T f M p = .error e → ∀ ξ, mFn ν ξ e → Q (some (jm_I (jm_wr (-1 - e.2)))) ξ) → (∀ x, zMt (sTok τ n lim) T f M p = .ok x → ∀ ξ, mFm ν ξ → mMl ξ x → zMi T.1 x → jg E m_X11_minutes (d + 5) 40 [some (jm_R 133), some (jm_I 0)] [] ξ Q) → jg E m_X11_minutes (d + 5) 17 [some (jm_R 133), none] [] ν Q
  | 0, i, p, M, ν, g1, g2, g3, hT, h0, hM, hi, h1, h2 => by
    have b1 := h0.1.2.1
    have b2 := h0.2.2.2.2.1
    omega
  | f + 1, i, p, M, ν, g1, g2, g3, hT, h0, hM, hi, h1, h2 => by
    have t8 := hi.1.2.2
    have te := hi.2
    have tg := (sCnt_le (fun k => decide (M.1 k = -1)) (2 * M.2.1) 0 0).1
    unfold sTorn at te
    rw [zMt] at h1 h2
    refine r_X11_minutes_17 (d := d + 5) ?_
    rw [h0.val.1]
    refine ⟨fun z => ?_, fun z => ?_⟩
    · rw [if_pos z] at h2
      exact h2 _ rfl ν mFm.rfl hM hi
    · rw [if_neg z] at h1 h2
      refine c_M_readMinute h0 hi.1.1 (by omega) (by omega) hT hM (fun e he ξ fe => jq_Z (jb_f (by decide) ?_)) (fun x y hx hy e1 yp ξ fo xa xm => jq_Z (jb_t (by decide) ?_))
      · rw [fe.2.2.2]
        exact h1 e (zBi_e he) ξ fe
      · rw [zBi_o hy, e1] at h1 h2
        exact g_M_17 f (i + 1) y.2 x.1 ξ (by omega) (by omega) (by omega) (hT.of (fo.1 135 (by decide) (by decide)) (fo.1 139 (by decide) (by decide))) xa xm (zMw_i hT.2.2.2 hi hx) (fun e he ζ fe => h1 e he ζ (fo.fe fe)) (fun w hw ζ f2 m2 i2 => h2 w hw ζ (fo.trans f2) m2 i2)
theorem g_M_40 {ξ : jm_M} (hM : mMl ξ M) (hm : M.2.1 ≤ 24) (h : ∀ ν, (∀ y, y ≠ 135 → ν y = ξ y) → (∀ j, j < 861 ∨ 910 ≤ j → ν 135 j = ξ 135 j) → mMn ν M.2.1 M.1 → Q (some (jm_I M.2.1)) ν) : jg E m_X11_minutes (d + 5) 40 [some (jm_R 133), some (jm_I 0)] [] ξ Q := by
  have key : ∀ (f : Nat) (i : Int) (ν : jm_M), i + f = 2 * M.2.1 → 0 ≤ i → (∀ y, y ≠ 135 → ν y = ξ y) → (∀ j, j < 862 ∨ 910 ≤ j → ν 135 j = ξ 135 j) → (∀ j, 0 ≤ j → j < i → ν 135 (862 + j) = M.1 j) → jg E m_X11_minutes (d + 5) 40 [some (jm_R 133), some (jm_I i)] [] ν Q := by
    intro f
    induction f with
    | zero =>
      intro i ν g1 g2 g3 g4 g5
      refine r_X11_minutes_40 (d := d + 5) ?_
      rw [show ν 133 33 = M.2.1 by rw [g3 133 (by decide)]; exact hM.1, jm_wr_id (a := 2 * (M.2.1 : Int)) (by omega) (by omega)]
      refine ⟨fun _ m2 h2 => ?_, fun z => absurd (by omega) z⟩
      rw [show m2 133 33 = M.2.1 by rw [h2, jm_up_lj (by decide), g3 133 (by decide)]; exact hM.1]
      exact h m2 (fun y hy => by rw [h2, jm_up_ne hy, g3 y hy]) (fun j hj => by rw [h2, jm_up_i (by omega)]; exact g4 j (by omega)) ⟨by rw [h2, jm_up_at], fun j j0 j1 => by rw [h2, jm_up_i (by omega)]; exact g5 j j0 (by omega)⟩
    | succ f ih =>
      intro i ν g1 g2 g3 g4 g5
      refine r_X11_minutes_40 (d := d + 5) ?_
      rw [show ν 133 33 = M.2.1 by rw [g3 133 (by decide)]; exact hM.1, jm_wr_id (a := 2 * (M.2.1 : Int)) (by omega) (by omega), jm_wr_id (a := 862 + i) (by omega) (by omega), jm_wr_id (a := i + 1) (by omega) (by omega)]
      refine ⟨fun z => absurd z (by omega), fun _ => ⟨⟨by omega, by omega⟩, ⟨by omega, by omega⟩, fun m5 h5 => ?_⟩⟩
      refine ih (i + 1) m5 (by omega) (by omega) (fun y hy => by rw [h5, jm_up_ne hy, g3 y hy]) (fun j hj => by rw [h5, jm_up_i (by omega)]; exact g4 j hj) (fun j j0 j1 => ?_)
      rw [h5]
      by_cases q : j = i
      · rw [q, jm_up_at, g3 138 (by decide)]; exact hM.2.2 i g2 (by omega)
      · rw [jm_up_i (by omega)]; exact g5 j j0 (by omega)
  exact key (2 * M.2.1) 0 ξ (by omega) (by decide) (fun _ _ => rfl) (fun _ _ => rfl) (fun j j0 j1 => by omega)
theorem c_M_minutes (hX : sTx τ n) (ht : mTp μ τ n) (hT : mTt μ T) (h1 : ∀ e, zMt (sTok τ n 300) T 471 zM0 0 = .error e → ∀ ν, (∀ x, x ≠ 133 → x ≠ 138 → ν x = μ x) → (∀ j, j = 1 ∨ 13 < j → j ≠ 33 → j ≠ 34 → ν 133 j = μ 133 j) → ν 133 0 = 0 → ν 133 2 = 0 → ν 133 10 = e.1 → Q (some (jm_I (jm_wr (-1 - e.2)))) ν)
    (h2 : ∀ x, zMt (sTok τ n 300) T 471 zM0 0 = .ok x → zMi T.1 x → ∀ ν, (∀ y, y ≠ 133 → y ≠ 138 → y ≠ 135 → ν y = μ y) → (∀ j, j < 861 ∨ 910 ≤ j → ν 135 j = μ 135 j) → (∀ j, j = 1 ∨ 13 < j → j ≠ 33 → j ≠ 34 → ν 133 j = μ 133 j) → ν 133 0 = 0 → ν 133 2 = 0 → ν 133 10 = 0 → mMn ν x.2.1 x.1 → Q (some (jm_I x.2.1)) ν) : jc E m_X11_minutes (d + 6) [jm_R 133] μ Q := by
  refine e_X11_minutes (d := d + 5) (fun _ => c_M_begin (d := d + 2) hX ht (fun m1 a1 a2 a0 b2 b10 aA _ => ?_))
  have g : ∀ x, x ≠ 133 → jm_up (jm_up m1 133 33 0) 133 34 0 x = μ x := fun x hx => by rw [jm_up_ne hx, jm_up_ne hx, a1 x hx]
  have s : ∀ j, j ≠ 33 → j ≠ 34 → jm_up (jm_up m1 133 33 0) 133 34 0 133 j = m1 133 j := fun j j0 j1 => by rw [jm_up_i j1, jm_up_i j0]
  have k0 : jm_up (jm_up m1 133 33 0) 133 34 0 133 33 = 0 := by rw [jm_up_i (by decide), jm_up_at]
  have k1 : jm_up (jm_up m1 133 33 0) 133 34 0 133 34 = 0 := jm_up_at
  generalize jm_up (jm_up m1 133 33 0) 133 34 0 = m at g s k0 k1 ⊢
  have aM : mAt m τ n 300 0 := aA.of (fun j hj => s j (by omega) (by omega)) (by rw [g 134 (by decide), a1 134 (by decide)])
  refine g_M_17 471 0 0 zM0 m (by decide) (by decide) (by decide) (hT.of (g 135 (by decide)) (g 139 (by decide))) aM ⟨k0, k1, fun i i0 i1 => absurd (show i < 2 * (0 : Int) from i1) (by omega)⟩ zMi_0 (fun e he ξ fe => h1 e he ξ (fun x x1 x2 => by rw [fe.1 x x1 x2, g x x1]) (fun j hj q1 q2 => ?_) ?_ ?_ fe.2.2.1) (fun x hx ξ fo xm xi => g_M_40 xm xi.1.1 (fun ν f1 f2 f3 => h2 x hx xi ν (fun y y1 y2 y3 => by rw [f1 y y3, fo.1 y y1 y2, g y y1]) (fun j hj => by rw [f2 j hj, fo.1 135 (by decide) (by decide), g 135 (by decide)]) (fun j hj q1 q2 => ?_) ?_ ?_ ?_ f3))
  · rw [fe.2.1 j (by omega) q1 q2, s j q1 q2, a2 j (by omega)]
  · rw [fe.2.1 0 (by decide) (by decide) (by decide), s 0 (by decide) (by decide), a0]
  · rw [fe.2.1 2 (by decide) (by decide) (by decide), s 2 (by decide) (by decide), b2]
  · rw [f1 133 (by decide), fo.2 j (by omega) (by omega) (by omega) q1 q2, s j q1 q2, a2 j (by omega)]
  · rw [f1 133 (by decide), fo.2 0 (by decide) (by decide) (by decide) (by decide) (by decide), s 0 (by decide) (by decide), a0]
  · rw [f1 133 (by decide), fo.2 2 (by decide) (by decide) (by decide) (by decide) (by decide), s 2 (by decide) (by decide), b2]
  · rw [f1 133 (by decide), fo.2 10 (by decide) (by decide) (by decide) (by decide) (by decide), s 10 (by decide) (by decide), b10]
end MJ
