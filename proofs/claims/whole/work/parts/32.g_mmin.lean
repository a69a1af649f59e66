/-! torn minutes, in the reference: a line -/
section MI
variable {E : jm_E} {d : Nat} {μ : jm_M} {Q : Option jm_V → jm_M → Prop} {τ : Int → Int} {n lim p : Int} {T : zTs} {M : zMs}
def mMl (ν : jm_M) (M : zMs) : Prop := ν 133 33 = M.2.1 ∧ ν 133 34 = M.2.2 ∧ ∀ i : Int, 0 ≤ i → i < 2 * M.2.1 → ν 138 i = M.1 i
theorem c_M_readMinute (h0 : mAt μ τ n lim p) (hm : M.2.1 ≤ 24) (t0 : 0 ≤ M.2.2) (t8 : M.2.2 ≤ 8) (hT : mTt μ T) (hM : mMl μ M) (h1 : ∀ e, zMl (sTok τ n lim) T M p = .error e → ∀ ξ, mFn μ ξ e → Q (some (jm_I 0)) ξ) (h2 : ∀ x y, zMw (sTok τ n lim) T M p = .ok x → zMl (sTok τ n lim) T M p = .ok y → y.1 = x.1 → p + 2 ≤ y.2 → ∀ ξ, mFm μ ξ → mAt ξ τ n lim y.2 → mMl ξ x.1 → Q (some (jm_I 1)) ξ) : jc E m_X11_readMinute (d + 5) [jm_R 133] μ Q := by
  have w0 := hT.2.2.2.1
  have w1 := hT.2.2.2.2.1
  have w2 := hT.2.2.2.2.2.1
  have w3 := hT.2.2.2.2.2.2.1
  have e0 : μ 135 0 = T.1 0 := hT.1 0 (by decide) (by decide)
  have bad : (¬ zIs (sTok τ n lim) p 15) → (¬ zIs (sTok τ n lim) p 0) → zMl (sTok τ n lim) T M p = .error (1, (sTok τ n lim p).2.1) := fun q1 q2 => by
    have nh : ∀ g c, zNH (sTok τ n lim) g c p = .error (1, (sTok τ n lim p).2.1) := fun g c => by unfold zNH; rw [if_pos q2]; rfl
    refine zBi_e ?_
    unfold zMw
    by_cases m24 : M.2.1 = 24
    · rw [if_pos m24, if_neg q1]; exact zBi_e (nh _ _)
    · rw [if_neg m24]; exact zBi_e (by unfold zTn; rw [if_neg q1]; exact zBi_e (nh _ _))
  have go : (sTok τ n lim p).1 = 2 → (zIs (sTok τ n lim) p 15 ∨ zIs (sTok τ n lim) p 0) → jg E m_X11_readMinute (d + 4) 30 [some (jm_R 133), none] [] μ Q := by
    intro s hc
    refine r_X11_readMinute_30 (d := d + 4) ?_
    rw [hM.1]
    refine ⟨fun z => ?_, fun z => ?_⟩
    · have m24 : ¬ M.2.1 = 24 := by omega
      rw [jm_wr_id (a := 2 * (M.2.1 : Int)) (by omega) (by omega), e0]
      refine c_M_readTorn h0 (by omega) (by omega) (by decide) w0 (by omega) t0 t8 hT.2.1 hM.2.1 (fun e he ξ fe => jq_Z (jb_t rfl (h1 e (zBi_e (by unfold zMw; rw [if_neg m24]; exact zBi_e he)) ξ fe))) (fun y hy _ m2 b1 b2 b3 b4 b5 b6 => jq_Z (jb_f (by decide) ?_))
      have iy := zTn_in w0 hy
      have T2 : mTt m2 T := hT.of (b1.1 135 (by decide) (by decide)) (b1.1 139 (by decide) (by decide))
      have e1 : m2 135 1 = T.1 1 := T2.1 1 (by decide) (by decide)
      rw [b2, hM.1, jm_wr_id (a := 2 * (M.2.1 : Int)) (by omega) (by omega), jm_wr_id (a := 2 * (M.2.1 : Int) + 1) (by omega) (by omega), e1]
      refine c_M_readTorn b6 (by omega) (by omega) (by decide) w2 (by omega) (by omega) (by omega) T2.2.2.1 b3 (fun e he ξ fe => jq_Z (jb_f (by decide) (h1 e (zBi_e (by unfold zMw; rw [if_neg m24, zBi_o hy]; exact zBi_e he)) ξ (b1.fe fe)))) (fun x hx s5 m6 c1 c2 c3 c4 c5 c6 => jq_Z (jb_t (by decide) ?_))
      have e33 : m6 133 33 = M.2.1 := by rw [c2, b2]; exact hM.1
      rw [e33, jm_wr_id (by omega) (by omega)]
      have fu : mFm m6 (jm_up m6 133 33 (M.2.1 + 1)) := ⟨fun x x1 _ => jm_up_ne x1, fun j _ _ _ j4 _ => jm_up_i j4⟩
      have au : mAt (jm_up m6 133 33 (M.2.1 + 1)) τ n lim (sNx1 τ n lim (sNx1 τ n lim p)) := c6.of (fun j hj => jm_up_i (by omega)) (jm_up_ne (by decide))
      have ew : zMw (sTok τ n lim) T M p = .ok ((sUp (sUp M.1 (2 * M.2.1) y.1) (2 * M.2.1 + 1) x.1, M.2.1 + 1, x.2), sNx1 τ n lim (sNx1 τ n lim p)) := by unfold zMw; rw [if_neg m24, zBi_o hy, zBi_o hx]
      have F := (b1.trans c1).trans fu
      have z1 := h0.nx (by omega)
      have z2 := b6.nx (by omega)
      have z3 := (fun q => au.nx q)
      refine c_M_readEnd au (fun s4 v4 ξ k kA => jq_Z (h2 _ (_, sNx1 τ n lim (sNx1 τ n lim (sNx1 τ n lim p))) ew (by unfold zMl; rw [zBi_o ew, if_pos ⟨s4, v4⟩]) rfl ?_ ξ (F.trans (mFm.of k)) kA ⟨?_, ?_, fun i i0 i1 => ?_⟩)) (fun q ξ er => jq_Z (h1 (1, _) (by unfold zMl; rw [zBi_o ew, if_neg q]; rfl) ξ (F.er er)))
      · have := z3 (by omega)
        show p + 2 ≤ sNx1 τ n lim (sNx1 τ n lim (sNx1 τ n lim p))
        omega
      · rw [k.2 33 (by decide) (by decide), jm_up_at]; rfl
      · rw [k.2 34 (by decide) (by decide), jm_up_i (by decide)]; exact c3
      · have i1' : i < 2 * ((M.2.1 : Int) + 1) := i1
        rw [k.1 138 (by decide), jm_up_lj (by decide)]
        dsimp only
        by_cases q1 : i = 2 * (M.2.1 : Int) + 1
        · rw [q1, c4, sUp_at]
        · rw [c5 i q1, sUp_ne q1]
          by_cases q0 : i = 2 * (M.2.1 : Int)
          · rw [q0, b4, sUp_at]
          · rw [b5 i q0, sUp_ne q0]; exact hM.2.2 i i0 (by omega)
    · have m24 : M.2.1 = 24 := by omega
      refine c_M_isW 15 h0 (by decide) (by decide) rfl (fun _ t => jq_Z (jb_t (by decide) (c_M_bad2 h0 (by omega) (fun ξ er => jq_Z (h1 (4, _) (zBi_e (by unfold zMw; rw [if_pos m24, if_pos ⟨s, t⟩]; rfl)) ξ (mFm.rfl.er er)))))) (fun q => jq_Z (jb_f (by decide) ?_))
      have nm : ¬ ¬ zIs (sTok τ n lim) p 0 := Decidable.not_not.mpr (hc.elim (fun y => absurd y q) (fun y => y))
      rw [e0]
      refine c_M_findIn (by decide) w0 (by omega) (fun j j0 j1 => ixl_139 j0 j1) (sTok_nv s) hT.2.1 (h0.val.2.2 s) (jq_I ⟨fun y => ?_, fun y => ?_⟩)
      · exact c_M_bad2 h0 (by omega) (fun ξ er => jq_Z (h1 (3, _) (zBi_e (by unfold zMw; rw [if_pos m24, if_neg q]; exact zBi_e (by unfold zNH; rw [if_neg nm, if_pos y]; rfl))) ξ (mFm.rfl.er er)))
      · exact c_M_bad2 h0 (by omega) (fun ξ er => jq_Z (h1 (4, _) (zBi_e (by unfold zMw; rw [if_pos m24, if_neg q]; exact zBi_o (by unfold zNH; rw [if_neg nm, if_neg y]))) ξ (mFm.rfl.er er)))
  refine e_X11_readMinute (d := d + 4) (fun _ => ?_)
  rw [h0.val.1]
  refine ⟨fun z => c_M_bad1 h0 (fun ξ er => jq_Z (h1 (1, _) (bad (fun q => z q.1) (fun q => z q.1)) ξ (mFm.rfl.er er))), fun z => ?_⟩
  have s := Decidable.not_not.mp z
  refine c_M_isW 15 h0 (by decide) (by decide) rfl (fun _ t => jq_Z (jb_t (by decide) (go s (Or.inl ⟨s, t⟩)))) (fun q => jq_Z (jb_f (by decide) ?_))
  exact c_M_isName h0 (fun _ t => jq_Z (jb_t (by decide) (go s (Or.inr ⟨s, t⟩)))) (fun q2 => jq_Z (jb_f (by decide) (c_M_bad1 h0 (fun ξ er => jq_Z (h1 (1, _) (bad q q2) ξ (mFm.rfl.er er))))))
end MI
