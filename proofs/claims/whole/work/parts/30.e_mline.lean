/-! a table's lines, in the reference: comb, a line -/
section MC
variable {E : jm_E} {d : Nat} {μ : jm_M} {Q : Option jm_V → jm_M → Prop} {τ : Int → Int} {n lim p : Int} {T : zTs}
theorem mTa_comb {ν : jm_M} {v : Int} (hT : mTa ν T) (h6 : T.1 3 ≠ 6) (v0 : 1 ≤ v) (v1 : v ≤ 6) : mTa (jm_up (jm_up ν 136 (6 + T.1 3) v) 136 3 (T.1 3 + 1)) (sUp (sUp T.1 (6 + T.1 3) v) 3 (T.1 3 + 1), T.2) := by
  have w3 := hT.2.2.2.1.2.2.2.2.2.2.1
  refine ⟨fun i i0 i1 => ?_, fun i i0 i1 => ?_, fun i i0 i1 => ?_, zTi_comb hT.2.2.2 h6 v0 v1⟩
  · dsimp only
    by_cases q : i = 3
    · rw [q, jm_up_at, sUp_at]
    · rw [jm_up_i q, sUp_ne q]
      by_cases q2 : i = 6 + T.1 3
      · rw [q2, jm_up_at, sUp_at]
      · rw [jm_up_i q2, sUp_ne q2]; exact hT.1 i i0 i1
  · dsimp only at i1
    rw [sUp_ne (by decide), sUp_ne (by omega)] at i1
    rw [jm_up_lj (by decide), jm_up_lj (by decide)]; exact hT.2.1 i i0 i1
  · dsimp only at i1
    rw [sUp_ne (by decide), sUp_ne (by omega)] at i1
    rw [jm_up_lj (by decide), jm_up_lj (by decide)]; exact hT.2.2.1 i i0 i1
theorem g_M_comb : ∀ (f : Nat) (i p : Int) (T : zTs) (ν : jm_M), i + f = 7 → 0 ≤ i → i ≤ 6 → T.1 3 = i → mAt ν τ n lim p → mTa ν T → (∀ e, zRc (sTok τ n lim) f T p = .error e → ∀ ξ, mFe mW ν ξ e → Q (some (jm_I 0)) ξ) → (∀ x, zRc (sTok τ n lim) f T p = .ok x → p ≤ x.2 → ∀ ξ, mFo mW ν ξ → mAt ξ τ n lim x.2 → mTa ξ x.1 → Q (some (jm_I 1)) ξ) → jg E m_X11_readComb (d + 3) 19 [some (jm_R 133), none] [] ν Q
  | 0, i, p, T, ν, g1, g2, g3, g4, h0, hT, h1, h2 => absurd g1 (by omega)
  | f + 1, i, p, T, ν, g1, g2, g3, g4, h0, hT, h1, h2 => by
    rw [zRc] at h1 h2
    have e3 : ν 136 3 = i := by rw [hT.1 3 (by decide) (by decide), g4]
    have e7 := h0.val.1
    -- one more
    have one : (T.1 3 = 0 ∨ (sTok τ n lim p).1 = 3) → jg E m_X11_readComb (d + 3) 36 [some (jm_R 133), none] [] ν Q := by
      intro hc
      rw [if_pos hc] at h1 h2
      refine r_X11_readComb_36 (d := d + 3) ?_
      rw [e3]
      refine ⟨fun z => ?_, fun z => ?_⟩
      · rw [if_neg (by omega)] at h1 h2
        intro x2 hx2
        rw [jm_wr_id (by omega) (by omega)] at hx2
        subst hx2
        refine c_M_num h0 (fun e he ξ er => jq_Z (jb_f (by decide) (h1 e (zBi_e he) ξ (mFo.rfl.er er)))) (fun s4 he r0 r1 m3 c1 c2 c3 => jq_Z (jb_t (by decide) ⟨⟨by omega, by omega⟩, fun m8 h8 m9 h9 => ?_⟩))
        rw [zBi_o he] at h1 h2
        have g : ∀ x, x ≠ 133 → m3 x = ν x := fun x hx => c1.1 x hx (fun q => q)
        have T3 : mTa m3 T := hT.of (g 136 (by decide)) (g 140 (by decide))
        rw [c2] at h8
        have e8 : m8 136 3 = T.1 3 := by rw [h8, jm_up_i (by omega), g 136 (by decide), e3, g4]
        rw [e8, jm_wr_id (by omega) (by omega), h8, ← g4] at h9
        have T9 := mTa_comb T3 (by omega) r0 r1
        rw [← h9] at T9
        have f9 : mFo mW m3 m9 := by rw [h9]; exact (mFo.up (Or.inl rfl) (by decide)).trans (mFo.up (Or.inl rfl) (by decide))
        have a9 : mAt m9 τ n lim (sNx1 τ n lim p) := c3.kf (by rw [h9, jm_up_ne (by decide), jm_up_ne (by decide)]) (by rw [h9, jm_up_ne (by decide), jm_up_ne (by decide)])
        have x1 := h0.nx (by omega)
        have F : mFo mW ν m9 := c1.wi.trans f9
        exact g_M_comb f (i + 1) _ _ m9 (by omega) (by omega) (by omega) (by rw [← g4]; dsimp only; exact sUp_at) a9 T9 (fun e he ξ fe => h1 e he ξ (F.fe fe)) (fun x hx xp ξ fo xa xt => h2 x hx (by omega) ξ (F.trans fo) xa xt)
      · rw [if_pos (by omega)] at h1
        exact c_M_bad2 h0 (by omega) (fun ξ er => jq_Z (h1 (4, _) rfl ξ (mFo.rfl.er er)))
    refine r_X11_readComb_19 (d := d + 3) ?_
    rw [e3, e7]
    refine ⟨fun z => one (Or.inl (by omega)), fun z => ⟨fun z2 => ?_, fun z2 => one (Or.inr (Decidable.not_not.mp z2))⟩⟩
    rw [if_neg (by omega)] at h2
    exact h2 _ rfl (Int.le_refl _) ν mFo.rfl h0 hT
theorem c_M_readComb (h0 : mAt μ τ n lim p) (hs : 2 ≤ (sTok τ n lim p).1) (hT : mTa μ T) (h1 : ∀ e, (if 0 < T.1 3 then zE (sTok τ n lim) p 3 else zRc (sTok τ n lim) 7 T (zNx (sTok τ n lim) p)) = .error e → ∀ ν, mFe mW μ ν e → Q (some (jm_I 0)) ν) (h2 : ∀ x, (if 0 < T.1 3 then zE (sTok τ n lim) p 3 else zRc (sTok τ n lim) 7 T (zNx (sTok τ n lim) p)) = .ok x → p < x.2 → ∀ ν, mFo mW μ ν → mAt ν τ n lim x.2 → mTa ν x.1 → Q (some (jm_I 1)) ν) : jc E m_X11_readComb (d + 4) [jm_R 133] μ Q := by
  have w0 := hT.2.2.2.1.2.2.2.2.2.2.1
  have e3 : μ 136 3 = T.1 3 := hT.1 3 (by decide) (by decide)
  refine e_X11_readComb (d := d + 3) (fun _ => ?_)
  rw [e3]
  refine ⟨fun z => ?_, fun z => ?_⟩
  · rw [if_neg (by omega)] at h1 h2
    have x1 := h0.nx hs
    exact c_M_adv h0 hs (fun m2 b1 b2 _ => g_M_comb 7 0 _ T m2 (by decide) (by decide) (by decide) (by omega) b2 (hT.of (b1.1 136 (by decide)) (b1.1 140 (by decide))) (fun e he ξ fe => h1 e he ξ ((mFo.of b1).fe fe)) (fun x hx xp ξ fo xa xt => h2 x hx (by omega) ξ ((mFo.of b1).trans fo) xa xt))
  · rw [if_pos (by omega)] at h1
    exact c_M_bad2 h0 (by omega) (fun ν er => jq_Z (h1 (3, _) rfl ν (mFo.rfl.er er)))
/-- behind a line: its sign -/
theorem c_M_tail {ν : jm_M} {x : zTs × Int} (hx : zRl1 (sTok τ n lim) T p = .ok x) (fo : mFo mW μ ν) (xa : mAt ν τ n lim x.2) (xt : mTa ν x.1) (h1 : ∀ e, zRl (sTok τ n lim) T p = .error e → ∀ ξ, mFe mW μ ξ e → Q (some (jm_I 0)) ξ) (h2 : ∀ y, zRl (sTok τ n lim) T p = .ok y → x.2 < y.2 → ∀ ξ, mFo mW μ ξ → mAt ξ τ n lim y.2 → mTa ξ y.1 → Q (some (jm_I 1)) ξ) : jc E m_X11_readEnd (d + 3) [jm_R 133] ν (fun o m => ∀ r : Int, o = some (jm_I r) → (r = 0 ∨ r = 1) → (r = 0 → Q (some (jm_I 0)) m) ∧ (¬ r = 0 → Q (some (jm_I 1)) m)) :=
  c_M_readEnd xa (fun s v ξ b c => jq_Z (jb_f (by decide) (h2 (x.1, sNx1 τ n lim x.2) (by unfold zRl; rw [zBi_o hx, if_pos ⟨s, v⟩]) (xa.nx (by omega)) ξ (fo.trans (mFo.of b)) c (xt.of (b.1 136 (by decide)) (b.1 140 (by decide)))))) (fun z ξ er => jq_Z (jb_t rfl (h1 (1, _) (by unfold zRl; rw [zBi_o hx, if_neg z]; rfl) ξ (fo.er er))))
theorem c_M_readLine (h0 : mAt μ τ n lim p) (hT : mTa μ T) (h1 : ∀ e, zRl (sTok τ n lim) T p = .error e → ∀ ν, mFe mW μ ν e → Q (some (jm_I 0)) ν) (h2 : ∀ x, zRl (sTok τ n lim) T p = .ok x → p + 2 ≤ x.2 → ∀ ν, mFo mW μ ν → mAt ν τ n lim x.2 → mTa ν x.1 → Q (some (jm_I 1)) ν) : jc E m_X11_readLine (d + 6) [jm_R 133] μ Q := by
  refine e_X11_readLine (d := d + 5) (fun _ => ?_)
  refine c_M_isW 1 h0 (by decide) (by decide) rfl (fun s t => jq_Z (jb_f (by decide) ?_)) (fun n1 => jq_Z (jb_t rfl ?_))
  · have e : zRl1 (sTok τ n lim) T p = zRw (sTok τ n lim) T p := by unfold zRl1; rw [if_pos ⟨s, t⟩]
    exact c_M_readWho h0 (by omega) hT (fun q he ν fe => jq_Z (jb_t rfl (h1 q (zBi_e (e.trans he)) ν fe))) (fun x hx xp ν fo xa xt => jq_Z (jb_f (by decide) (c_M_tail (e.trans hx) fo xa xt h1 (fun y hy yp => h2 y hy (by omega)))))
  refine c_M_isW 2 h0 (by decide) (by decide) rfl (fun s t => jq_Z (jb_f (by decide) ?_)) (fun n2 => jq_Z (jb_t rfl ?_))
  · have e : zRl1 (sTok τ n lim) T p = zRk1 (sTok τ n lim) T p := by unfold zRl1; rw [if_neg n1, if_pos ⟨s, t⟩]
    exact c_M_readKind h0 (by omega) hT (fun q he ν fe => jq_Z (jb_t rfl (h1 q (zBi_e (e.trans he)) ν fe))) (fun x hx xp ν fo xa xt => jq_Z (jb_f (by decide) (c_M_tail (e.trans hx) fo xa xt h1 (fun y hy yp => h2 y hy (by omega)))))
  refine c_M_isW 3 h0 (by decide) (by decide) rfl (fun s t => jq_Z (jb_f (by decide) ?_)) (fun n3 => jq_Z (jb_t rfl ?_))
  · have e : zRl1 (sTok τ n lim) T p = zRm (sTok τ n lim) T p := by unfold zRl1; rw [if_neg n1, if_neg n2, if_pos ⟨s, t⟩]
    exact c_M_readMay h0 (by omega) hT (fun q he ν fe => jq_Z (jb_t rfl (h1 q (zBi_e (e.trans he)) ν fe))) (fun x hx xp ν fo xa xt => jq_Z (jb_f (by decide) (c_M_tail (e.trans hx) fo xa xt h1 (fun y hy yp => h2 y hy (by omega)))))
  refine c_M_isW 4 h0 (by decide) (by decide) rfl (fun s t => jq_Z (jb_f (by decide) ?_)) (fun n4 => jq_Z (jb_t rfl ?_))
  · have e : zRl1 (sTok τ n lim) T p = if 0 < T.1 3 then zE (sTok τ n lim) p 3 else zRc (sTok τ n lim) 7 T (zNx (sTok τ n lim) p) := by unfold zRl1; rw [if_neg n1, if_neg n2, if_neg n3, if_pos ⟨s, t⟩]
    exact c_M_readComb (d := d + 1) h0 (by omega) hT (fun q he ν fe => jq_Z (jb_t rfl (h1 q (zBi_e (e.trans he)) ν fe))) (fun x hx xp ν fo xa xt => jq_Z (jb_f (by decide) (c_M_tail (e.trans hx) fo xa xt h1 (fun y hy yp => h2 y hy (by omega)))))
  refine c_M_isW 5 h0 (by decide) (by decide) rfl (fun s t => jq_Z (jb_f (by decide) ?_)) (fun n5 => jq_Z (jb_t rfl ?_))
  · have e : zRl1 (sTok τ n lim) T p = zRo (sTok τ n lim) 4 T p := by unfold zRl1; rw [if_neg n1, if_neg n2, if_neg n3, if_neg n4, if_pos ⟨s, t⟩]
    exact c_M_readOnce (d := d + 2) (Or.inl rfl) h0 (by omega) hT (fun q he ν fe => jq_Z (jb_t rfl (h1 q (zBi_e (e.trans he)) ν fe))) (fun x hx xp ν fo xa xt => jq_Z (jb_f (by decide) (c_M_tail (e.trans hx) fo xa xt h1 (fun y hy yp => h2 y hy (by omega)))))
  refine c_M_isW 6 h0 (by decide) (by decide) rfl (fun s t => jq_Z (jb_f (by decide) ?_)) (fun n6 => jq_Z (jb_t rfl ?_))
  · have e : zRl1 (sTok τ n lim) T p = zRo (sTok τ n lim) 5 T p := by unfold zRl1; rw [if_neg n1, if_neg n2, if_neg n3, if_neg n4, if_neg n5, if_pos ⟨s, t⟩]
    exact c_M_readOnce (d := d + 2) (Or.inr rfl) h0 (by omega) hT (fun q he ν fe => jq_Z (jb_t rfl (h1 q (zBi_e (e.trans he)) ν fe))) (fun x hx xp ν fo xa xt => jq_Z (jb_f (by decide) (c_M_tail (e.trans hx) fo xa xt h1 (fun y hy yp => h2 y hy (by omega)))))
  have e : zRl1 (sTok τ n lim) T p = zE (sTok τ n lim) p 1 := by unfold zRl1; rw [if_neg n1, if_neg n2, if_neg n3, if_neg n4, if_neg n5, if_neg n6]
  exact c_M_bad1 h0 (fun ν er => jq_Z (jb_t rfl (h1 (1, _) (zBi_e e) ν (mFo.rfl.er er))))
end MC
