/-! the call of a table, in the reference -/
section MZ
variable {E : jm_E} {d : Nat} {μ : jm_M} {Q : Option jm_V → jm_M → Prop} {τ : Int → Int} {n lim p : Int} {T : zTs}
theorem c_M_begin (hX : sTx τ n) (ht : mTp μ τ n) (h : ∀ ν, (∀ x, x ≠ 133 → ν x = μ x) → (∀ j, j = 1 ∨ j = 11 ∨ 12 < j → ν 133 j = μ 133 j) → ν 133 0 = 0 → ν 133 2 = 0 → ν 133 10 = 0 → mAt ν τ n lim 0 → Q none ν) : jc E m_X11_begin (d + 3) [jm_R 133, jm_I lim] μ Q := by
  refine e_X11_begin (d := d + 2) (fun _ => e_X11_take (d := d + 1) (fun _ => jq_I ?_))
  rw [show jm_up μ 133 0 0 133 2 = n by rw [jm_up_i (by decide)]; exact ht.1]
  have u : ∀ x, x ≠ 133 → jm_up (jm_up (jm_up (jm_up (jm_up (jm_up μ 133 0 0) 133 2 0) 133 3 n) 133 4 lim) 133 10 0) 133 5 0 x = μ x := fun x hx => by rw [jm_up_ne hx, jm_up_ne hx, jm_up_ne hx, jm_up_ne hx, jm_up_ne hx, jm_up_ne hx]
  have o : ∀ j, j = 1 ∨ j = 11 ∨ 12 < j → jm_up (jm_up (jm_up (jm_up (jm_up (jm_up μ 133 0 0) 133 2 0) 133 3 n) 133 4 lim) 133 10 0) 133 5 0 133 j = μ 133 j := fun j hj => by rw [jm_up_i (by omega), jm_up_i (by omega), jm_up_i (by omega), jm_up_i (by omega), jm_up_i (by omega), jm_up_i (by omega)]
  have o0 : jm_up (jm_up (jm_up (jm_up (jm_up (jm_up μ 133 0 0) 133 2 0) 133 3 n) 133 4 lim) 133 10 0) 133 5 0 133 0 = 0 := by rw [jm_up_i (by decide), jm_up_i (by decide), jm_up_i (by decide), jm_up_i (by decide), jm_up_i (by decide), jm_up_at]
  have o2 : jm_up (jm_up (jm_up (jm_up (jm_up (jm_up μ 133 0 0) 133 2 0) 133 3 n) 133 4 lim) 133 10 0) 133 5 0 133 2 = 0 := by rw [jm_up_i (by decide), jm_up_i (by decide), jm_up_i (by decide), jm_up_i (by decide), jm_up_at]
  have o3 : jm_up (jm_up (jm_up (jm_up (jm_up (jm_up μ 133 0 0) 133 2 0) 133 3 n) 133 4 lim) 133 10 0) 133 5 0 133 3 = n := by rw [jm_up_i (by decide), jm_up_i (by decide), jm_up_i (by decide), jm_up_at]
  have o4 : jm_up (jm_up (jm_up (jm_up (jm_up (jm_up μ 133 0 0) 133 2 0) 133 3 n) 133 4 lim) 133 10 0) 133 5 0 133 4 = lim := by rw [jm_up_i (by decide), jm_up_i (by decide), jm_up_at]
  have o5 : jm_up (jm_up (jm_up (jm_up (jm_up (jm_up μ 133 0 0) 133 2 0) 133 3 n) 133 4 lim) 133 10 0) 133 5 0 133 5 = 0 := jm_up_at
  have oa : jm_up (jm_up (jm_up (jm_up (jm_up (jm_up μ 133 0 0) 133 2 0) 133 3 n) 133 4 lim) 133 10 0) 133 5 0 133 10 = 0 := by rw [jm_up_i (by decide), jm_up_at]
  generalize jm_up (jm_up (jm_up (jm_up (jm_up (jm_up μ 133 0 0) 133 2 0) 133 3 n) 133 4 lim) 133 10 0) 133 5 0 = m at *
  have t : mTx m τ n := ⟨o3, fun i i0 i1 => by rw [u 134 (by decide)]; exact ht.2 i i0 i1⟩
  exact c_M_go hX t o4 o5 (by decide) hX.1 (fun ν f k _ => h ν (fun x hx => by rw [f.1 x hx, u x hx]) (fun j hj => by rw [f.2 j (by omega) (by omega), o j hj]) (by rw [f.2 0 (by omega) (by decide), o0]) (by rw [f.2 2 (by omega) (by decide), o2]) (by rw [f.2 10 (by omega) (by decide), oa]) ⟨hX, mTx_of f t, by rw [f.2 4 (by omega) (by decide)]; exact o4, by decide, hX.1, k⟩)
theorem g_M_30 : ∀ (f : Nat) (m p : Int) (T : zTs) (ν : jm_M), m + f = 471 → 0 ≤ m → 2 * m ≤ p → mAt ν τ n lim p → mTa ν T → (∀ e, zRtb (sTok τ n lim) f T m p = .error e → ∀ ξ, mFe mW ν ξ e → Q (some (jm_I (jm_wr (-1 - e.2)))) ξ) → (∀ x, zRtb (sTok τ n lim) f T m p = .ok x → ∀ ξ, mFo mW ν ξ → mTa ξ x.1 → jg E m_X11_table (d + 6) 59 [some (jm_R 133), some (jm_I x.2), some (jm_I 0)] [] ξ Q) → jg E m_X11_table (d + 6) 30 [some (jm_R 133), some (jm_I m), none] [] ν Q
  | 0, m, p, T, ν, g1, g2, g3, h0, hT, h1, h2 => by
    have b1 := h0.1.2.1
    have b2 := h0.2.2.2.2.1
    omega
  | f + 1, m, p, T, ν, g1, g2, g3, h0, hT, h1, h2 => by
    have b1 := h0.1.2.1
    have b2 := h0.2.2.2.2.1
    rw [zRtb] at h1 h2
    refine r_X11_table_30 (d := d + 6) ?_
    rw [h0.val.1]
    refine ⟨fun z => ?_, fun z => ?_⟩
    · rw [if_pos z] at h2
      exact h2 _ rfl ν mFo.rfl hT
    · rw [if_neg z] at h1 h2
      refine c_M_readLine h0 hT (fun e he ξ fe => jq_Z (jb_f (by decide) ?_)) (fun x hx xp ξ fo xa xt => jq_Z (jb_t (by decide) ?_))
      · rw [fe.2.2.2]
        exact h1 e (zBi_e he) ξ fe
      · rw [zBi_o hx] at h1 h2
        rw [jm_wr_id (by omega) (by omega)]
        exact g_M_30 f (m + 1) x.2 x.1 ξ (by omega) (by omega) (by omega) xa xt (fun e he ζ fe => h1 e he ζ (fo.fe fe)) (fun y hy ζ f2 t2 => h2 y hy ζ (fo.trans f2) t2)
theorem g_M_59 {v : Int} {ξ : jm_M} (hT : mTa ξ T) (h : ∀ ν, (∀ y, y ≠ 135 → y ≠ 139 → ν y = ξ y) → mDk (ν 135) (ν 139) (zD0 T) → Q (some (jm_I v)) ν) : jg E m_X11_table (d + 6) 59 [some (jm_R 133), some (jm_I v), some (jm_I 0)] [] ξ Q := by
  have w1 := hT.2.2.2.1.2.1
  have w3 := hT.2.2.2.1.2.2.2.1
  have k2 : ∀ (f : Nat) (i : Int) (ν : jm_M), i + f = 18 → 0 ≤ i → (∀ y, y ≠ 135 → y ≠ 139 → ν y = ξ y) → (∀ j, 0 ≤ j → j < 60 → ν 135 j = ξ 136 j) → (∀ j, 0 ≤ j → j < i → ν 139 j = ξ 140 j) → jg E m_X11_table (d + 6) 85 [some (jm_R 133), some (jm_I v), some (jm_I i)] [] ν Q := by
    intro f
    induction f with
    | zero =>
      intro i ν g1 g2 g3 g4 g5
      refine r_X11_table_85 (d := d + 6) ⟨fun _ m2 h2 m3 h3 m4 h4 => ?_, fun z => absurd (by omega) z⟩
      have g : ∀ y, y ≠ 135 → m4 y = ν y := fun y hy => by rw [h4, jm_up_ne hy, h3, jm_up_ne hy, h2, jm_up_ne hy]
      have e : ∀ j, j ≠ 60 → j ≠ 861 → j ≠ 910 → m4 135 j = ν 135 j := fun j j0 j1 j2 => by rw [h4, jm_up_i j2, h3, jm_up_i j1, h2, jm_up_i j0]
      refine h m4 (fun y y0 y1 => by rw [g y y0, g3 y y0 y1]) ⟨fun j j0 j1 => ?_, ?_, fun j j0 j1 => ?_, ?_, fun j j0 j1 => ?_, ?_, fun z => absurd rfl z, fun j hj => ?_, fun j j0 j1 => ?_, fun j j0 j1 => ?_⟩
      · rw [e j (by omega) (by omega) (by omega), g4 j j0 j1]; exact hT.1 j j0 j1
      · rw [h4, jm_up_i (by decide), h3, jm_up_i (by decide), h2, jm_up_at]; rfl
      · have : j < 2 * (0 : Int) := j1
        omega
      · rw [h4, jm_up_i (by decide), h3, jm_up_at]; rfl
      · have : j < 2 * (0 : Int) := j1
        omega
      · rw [h4, jm_up_at]; rfl
      · exact absurd hj (Nat.not_lt_zero _)
      · have j1' : j < T.1 0 := j1
        rw [g 139 (by decide), g5 j j0 (by omega)]; exact hT.2.1 j j0 j1'
      · have j1' : j < T.1 1 := j1
        rw [g 139 (by decide), g5 _ (by omega) (by omega)]; exact hT.2.2.1 j j0 j1'
    | succ f ih =>
      intro i ν g1 g2 g3 g4 g5
      refine r_X11_table_85 (d := d + 6) ⟨fun z => absurd z (by omega), fun _ => ⟨⟨by omega, by omega⟩, fun m6 h6 => ?_⟩⟩
      rw [jm_wr_id (by omega) (by omega)]
      refine ih (i + 1) m6 (by omega) (by omega) (fun y y0 y1 => by rw [h6, jm_up_ne y1, g3 y y0 y1]) (fun j j0 j1 => by rw [h6, jm_up_lj (by decide)]; exact g4 j j0 j1) (fun j j0 j1 => ?_)
      rw [h6]
      by_cases q : j = i
      · rw [q, jm_up_at, g3 140 (by decide) (by decide)]
      · rw [jm_up_i q]; exact g5 j j0 (by omega)
  have k1 : ∀ (f : Nat) (i : Int) (ν : jm_M), i + f = 60 → 0 ≤ i → (∀ y, y ≠ 135 → ν y = ξ y) → (∀ j, 0 ≤ j → j < i → ν 135 j = ξ 136 j) → jg E m_X11_table (d + 6) 59 [some (jm_R 133), some (jm_I v), some (jm_I i)] [] ν Q := by
    intro f
    induction f with
    | zero =>
      intro i ν g1 g2 g3 g4
      exact r_X11_table_59 (d := d + 6) ⟨fun _ => k2 18 0 ν (by decide) (by decide) (fun y y0 _ => g3 y y0) (fun j j0 j1 => g4 j j0 (by omega)) (fun j j0 j1 => by omega), fun z => absurd (by omega) z⟩
    | succ f ih =>
      intro i ν g1 g2 g3 g4
      refine r_X11_table_59 (d := d + 6) ⟨fun z => absurd z (by omega), fun _ => ⟨⟨by omega, by omega⟩, ⟨by omega, by omega⟩, fun m4 h4 => ?_⟩⟩
      rw [jm_wr_id (by omega) (by omega)]
      refine ih (i + 1) m4 (by omega) (by omega) (fun y y0 => by rw [h4, jm_up_ne y0, g3 y y0]) (fun j j0 j1 => ?_)
      rw [h4]
      by_cases q : j = i
      · rw [q, jm_up_at, g3 136 (by decide)]
      · rw [jm_up_i q]; exact g4 j j0 (by omega)
  exact k1 60 0 ξ (by decide) (by decide) (fun _ _ => rfl) (fun j j0 j1 => by omega)
theorem c_M_table (hX : sTx τ n) (ht : mTp μ τ n) (h1 : ∀ e, zRtb (sTok τ n 900) 471 zT0 0 0 = .error e → ∀ ν, (∀ x, x ≠ 133 → x ≠ 136 → x ≠ 140 → ν x = μ x) → (∀ j, j = 1 ∨ 13 < j → ν 133 j = μ 133 j) → ν 133 0 = 0 → ν 133 2 = 0 → ν 133 10 = e.1 → Q (some (jm_I (jm_wr (-1 - e.2)))) ν)
    (h2 : ∀ x, zRtb (sTok τ n 900) 471 zT0 0 0 = .ok x → ∀ ν, (∀ y, y ≠ 133 → y ≠ 135 → y ≠ 136 → y ≠ 139 → y ≠ 140 → ν y = μ y) → (∀ j, j = 1 ∨ 13 < j → ν 133 j = μ 133 j) → ν 133 0 = 0 → ν 133 2 = 0 → ν 133 10 = 0 → mDk (ν 135) (ν 139) (zD0 x.1) → Q (some (jm_I x.2)) ν) : jc E m_X11_table (d + 7) [jm_R 133] μ Q := by
  refine e_X11_table (d := d + 6) (fun _ => c_M_begin (d := d + 3) hX ht (fun m1 a1 a2 a0 b2 b10 aA _ => ?_))
  have k0 : ∀ (f : Nat) (i : Int) (ν : jm_M), i + f = 60 → 0 ≤ i → (∀ y, y ≠ 136 → ν y = m1 y) → (∀ j, 0 ≤ j → j < i → ν 136 j = 0) → jg E m_X11_table (d + 6) 9 [some (jm_R 133), some (jm_I i), none] [] ν Q := by
    intro f
    induction f with
    | zero =>
      intro i ν g1 g2 g3 g4
      refine r_X11_table_9 (d := d + 6) ⟨fun _ => ?_, fun z => absurd (by omega) z⟩
      have T0 : mTa ν zT0 := ⟨fun j j0 j1 => g4 j j0 (by omega), fun j j0 j1 => absurd (show j < 0 from j1) (by omega), fun j j0 j1 => absurd (show j < 0 from j1) (by omega), zTi_0⟩
      have nW : ∀ x : Int, x ≠ 136 → x ≠ 140 → ¬ mW x := fun x q1 q2 q => q.elim q1 q2
      refine g_M_30 471 0 0 zT0 ν (by decide) (by decide) (by decide) (aA.kf (g3 133 (by decide)) (g3 134 (by decide))) T0 (fun e he ξ fe => h1 e he ξ (fun x x1 x2 x3 => by rw [fe.1 x x1 (nW x x2 x3), g3 x x2, a1 x x1]) (fun j hj => ?_) ?_ ?_ fe.2.2.1) (fun x hx ξ fo xt => g_M_59 xt (fun ζ f3 hD => h2 x hx ζ (fun y y1 y2 y3 y4 y5 => by rw [f3 y y2 y4, fo.1 y y1 (nW y y3 y5), g3 y y3, a1 y y1]) (fun j hj => ?_) ?_ ?_ ?_ hD))
      · rw [fe.2.1 j (by omega), g3 133 (by decide), a2 j (by omega)]
      · rw [fe.2.1 0 (by decide), g3 133 (by decide), a0]
      · rw [fe.2.1 2 (by decide), g3 133 (by decide), b2]
      · rw [f3 133 (by decide) (by decide), fo.2 j (by omega) (by omega) (by omega), g3 133 (by decide), a2 j (by omega)]
      · rw [f3 133 (by decide) (by decide), fo.2 0 (by decide) (by decide) (by decide), g3 133 (by decide), a0]
      · rw [f3 133 (by decide) (by decide), fo.2 2 (by decide) (by decide) (by decide), g3 133 (by decide), b2]
      · rw [f3 133 (by decide) (by decide), fo.2 10 (by decide) (by decide) (by decide), g3 133 (by decide), b10]
    | succ f ih =>
      intro i ν g1 g2 g3 g4
      refine r_X11_table_9 (d := d + 6) ⟨fun z => absurd z (by omega), fun _ => ⟨⟨by omega, by omega⟩, fun m3 h3 => ?_⟩⟩
      rw [jm_wr_id (by omega) (by omega)]
      refine ih (i + 1) m3 (by omega) (by omega) (fun y y0 => by rw [h3, jm_up_ne y0, g3 y y0]) (fun j j0 j1 => ?_)
      rw [h3]
      by_cases q : j = i
      · rw [q, jm_up_at]
      · rw [jm_up_i q]; exact g4 j j0 (by omega)
  exact k0 60 0 m1 (by decide) (by decide) (fun _ _ => rfl) (fun j j0 j1 => by omega)
end MZ
