/-! a table's lines, in the reference: may, comb, once -/
section MY
variable {E : jm_E} {d : Nat} {μ : jm_M} {Q : Option jm_V → jm_M → Prop} {τ : Int → Int} {n lim p : Int} {T : zTs}
theorem c_M_readKindTold (h0 : mAt μ τ n lim p) (hT : mTa μ T) (h1 : ∀ e, zNH (sTok τ n lim) T.2.2 (T.1 1) p = .error e → ∀ ν, mFe mW μ ν e → Q (some (jm_I 0)) ν) (h2 : ∀ a, zNH (sTok τ n lim) T.2.2 (T.1 1) p = .ok a → ∀ ν, mFo mW μ ν → ν 133 13 = a → mAt ν τ n lim p → mTa ν T → Q (some (jm_I 1)) ν) : jc E m_X11_readKindTold (d + 4) [jm_R 133] μ Q := by
  have e1 : μ 136 1 = T.1 1 := hT.1 1 (by decide) (by decide)
  refine e_X11_readKindTold (d := d + 3) (fun _ => c_M_isName h0 (fun a b => jq_Z (jb_t (by decide) ?_)) (fun z => jq_Z (jb_f (by decide) (c_M_bad1 h0 (fun ν er => jq_Z (h1 (1, _) (by unfold zNH; rw [if_pos z]; rfl) ν (mFo.rfl.er er)))))))
  have nm : ¬ ¬ zIs (sTok τ n lim) p 0 := Decidable.not_not.mpr ⟨a, b⟩
  rw [e1]
  refine c_M_findK hT (sTok_nv a) (h0.val.2.2 a) (jq_I ?_)
  have fu : ∀ w, mFo mW μ (jm_up μ 133 13 w) := fun w => ⟨fun x hx _ => jm_up_ne hx, fun j _ _ h13 => jm_up_i h13⟩
  have au : ∀ w, mAt (jm_up μ 133 13 w) τ n lim p := fun w => h0.of (fun j hj => jm_up_i (by omega)) (jm_up_ne (by decide))
  refine ⟨fun y => h2 _ (by unfold zNH; rw [if_neg nm, if_neg y]) _ (fu _) jm_up_at (au _) (hT.of (jm_up_ne (by decide)) (jm_up_ne (by decide))), fun y => ?_⟩
  exact c_M_bad2 (au _) (by omega) (fun ν er => jq_Z (jb_t rfl (h1 (3, _) (by unfold zNH; rw [if_neg nm, if_pos (Decidable.not_not.mp y)]; rfl) ν ((fu _).er er))))
theorem c_M_readMay (h0 : mAt μ τ n lim p) (hs : 2 ≤ (sTok τ n lim p).1) (hT : mTa μ T) (h1 : ∀ e, zRm (sTok τ n lim) T p = .error e → ∀ ν, mFe mW μ ν e → Q (some (jm_I 0)) ν) (h2 : ∀ x, zRm (sTok τ n lim) T p = .ok x → p < x.2 → ∀ ν, mFo mW μ ν → mAt ν τ n lim x.2 → mTa ν x.1 → Q (some (jm_I 1)) ν) : jc E m_X11_readMay (d + 5) [jm_R 133] μ Q := by
  have k0 := hT.2.2.2.1.2.2.1
  have k1 := hT.2.2.2.1.2.2.2.1
  have w0 := hT.2.2.2.1.2.2.2.2.1
  have w1 := hT.2.2.2.1.2.2.2.2.2.1
  have e0 : μ 136 2 = T.1 2 := hT.1 2 (by decide) (by decide)
  refine e_X11_readMay (d := d + 4) (fun _ => ?_)
  rw [e0]
  refine ⟨fun z => ?_, fun z => ?_⟩
  · refine c_M_adv h0 hs (fun m2 a1 a2 _ => ?_)
    have hT2 : mTa m2 T := hT.of (a1.1 136 (by decide)) (a1.1 140 (by decide))
    refine c_M_readKindTold a2 hT2 (fun e he ν fe => jq_Z (jb_f (by decide) (h1 e (by unfold zRm; rw [if_neg z]; exact zBi_e he) ν ((mFo.of a1).fe fe)))) (fun a ha m3 b1 b2 b3 b4 => jq_Z (jb_t (by decide) ?_))
    obtain ⟨x0, x1, s3⟩ := zNH_in k0 ha
    refine c_M_adv b3 (by omega) (fun m7 c1 c2 _ => ?_)
    have hT7 : mTa m7 T := b4.of (c1.1 136 (by decide)) (c1.1 140 (by decide))
    have F : mFo mW μ m7 := ((mFo.of a1).trans b1).trans (mFo.of c1)
    refine c_M_readKindTold c2 hT7 (fun e he ν fe => jq_Z (jb_f (by decide) (h1 e (by unfold zRm; rw [if_neg z]; rw [zBi_o ha]; exact zBi_e he) ν (F.fe fe)))) (fun b hb m8 d1 d2 d3 d4 => jq_Z (jb_t (by decide) ?_))
    obtain ⟨y0, y1, s4⟩ := zNH_in k0 hb
    rw [b2, d2]
    intro x12 hx
    rw [jm_wr_id (a := 4 * a) (by omega) (by omega), jm_wr_id (a := 20 + 4 * a) (by omega) (by omega), jm_wr_id (by omega) (by omega), show 20 + 4 * a + 3 = 23 + 4 * a by omega] at hx
    subst hx
    have mr := (hT.2.2.2.1.2.2.2.2.2.2.2.2.2.2.2.2 a x0 x1).2.2.2
    have em : m8 136 (23 + 4 * a) = sMa T.1 a := d4.1 _ (by omega) (by omega)
    have F8 : mFo mW μ m8 := F.trans d1
    rw [em]
    refine ⟨⟨by omega, by omega⟩, c_M_has mr.1 (by omega) y0 (by omega) (fun hb1 => jq_Z (jb_f (by decide) ?_)) (fun hb0 => jq_Z (jb_t rfl ?_))⟩
    · exact c_M_bad2 d3 (by omega) (fun ν er => jq_Z (h1 (3, _) (by unfold zRm; rw [if_neg z]; rw [zBi_o ha]; rw [zBi_o hb]; rw [if_pos hb1]; rfl) ν (F8.er er)))
    · intro m18 h18 m19 h19
      rw [em, d2, jm_or_bit mr.1 (by omega) y0 (by omega)] at h18
      have e18 : m18 136 2 = T.1 2 := by rw [h18, jm_up_i (by omega)]; exact d4.1 2 (by decide) (by decide)
      rw [e18, jm_wr_id (by omega) (by omega)] at h19
      have f19 : mFo mW m8 m19 := by rw [h19, h18]; exact (mFo.up (Or.inl rfl) (by decide)).trans (mFo.up (Or.inl rfl) (by decide))
      have a19 : mAt m19 τ n lim (sNx1 τ n lim (sNx1 τ n lim p)) := d3.kf (by rw [h19, jm_up_ne (by decide), h18, jm_up_ne (by decide)]) (by rw [h19, jm_up_ne (by decide), h18, jm_up_ne (by decide)])
      have z1 := h0.nx hs
      have z2 := a2.nx (by omega)
      have z3 := c2.nx (by omega)
      have T19 : mTa m19 (sUp (sUp T.1 (23 + 4 * a) (sor (sMa T.1 a) b)) 2 (T.1 2 + 1), T.2) := by
        refine ⟨fun i i0 i1 => ?_, fun i i0 i1 => ?_, fun i i0 i1 => ?_, zTi_may hT.2.2.2 z x0 x1 y0 y1⟩
        · dsimp only
          rw [h19]
          by_cases q : i = 2
          · rw [q, jm_up_at, sUp_at]
          · rw [jm_up_i q, sUp_ne q, h18]
            by_cases q2 : i = 23 + 4 * a
            · rw [q2, jm_up_at, sUp_at]
            · rw [jm_up_i q2, sUp_ne q2]; exact d4.1 i i0 i1
        · dsimp only at i1
          rw [sUp_ne (by decide), sUp_ne (by omega)] at i1
          rw [h19, jm_up_lj (by decide), h18, jm_up_lj (by decide)]; exact d4.2.1 i i0 i1
        · dsimp only at i1
          rw [sUp_ne (by decide), sUp_ne (by omega)] at i1
          rw [h19, jm_up_lj (by decide), h18, jm_up_lj (by decide)]; exact d4.2.2.1 i i0 i1
      exact c_M_adv a19 (by omega) (fun m20 g1 g2 _ => h2 (_, _) (by unfold zRm; rw [if_neg z]; rw [zBi_o ha]; rw [zBi_o hb]; rw [if_neg (by rw [hb0]; decide)]) (by show p < sNx1 τ n lim (sNx1 τ n lim (sNx1 τ n lim p)); omega) m20 ((F8.trans f19).trans (mFo.of g1)) g2 (T19.of (g1.1 136 (by decide)) (g1.1 140 (by decide))))
  · have c8 := Decidable.not_not.mp z
    exact c_M_bad2 h0 (by omega) (fun ν er => jq_Z (h1 (4, _) (by unfold zRm; rw [if_pos c8]; rfl) ν (mFo.rfl.er er)))
theorem c_M_readOnce {q : Int} (hq : q = 4 ∨ q = 5) (h0 : mAt μ τ n lim p) (hs : 2 ≤ (sTok τ n lim p).1) (hT : mTa μ T) (h1 : ∀ e, zRo (sTok τ n lim) q T p = .error e → ∀ ν, mFe mW μ ν e → Q (some (jm_I 0)) ν) (h2 : ∀ x, zRo (sTok τ n lim) q T p = .ok x → p < x.2 → ∀ ν, mFo mW μ ν → mAt ν τ n lim x.2 → mTa ν x.1 → Q (some (jm_I 1)) ν) : jc E m_X11_readOnce (d + 3) [jm_R 133, jm_I q] μ Q := by
  have e : μ 136 q = T.1 q := hT.1 q (by omega) (by omega)
  unfold zRo at h1 h2
  refine e_X11_readOnce (d := d + 2) (fun _ => ?_)
  rw [e]
  refine ⟨⟨by omega, by omega⟩, fun z m3 h3 => ?_, fun z => ?_⟩
  · rw [if_neg (by omega)] at h2
    have a3 : mAt m3 τ n lim p := h0.kf (by rw [h3, jm_up_ne (by decide)]) (by rw [h3, jm_up_ne (by decide)])
    have f3 : mFo mW μ m3 := by rw [h3]; exact mFo.up (Or.inl rfl) (by decide)
    have T3 : mTa m3 (sUp T.1 q 1, T.2) := by
      refine ⟨fun i i0 i1 => ?_, fun i i0 i1 => ?_, fun i i0 i1 => ?_, zTi_once hT.2.2.2 hq⟩
      · dsimp only
        rw [h3]
        by_cases y : i = q
        · rw [y, jm_up_at, sUp_at]
        · rw [jm_up_i y, sUp_ne y]; exact hT.1 i i0 i1
      · dsimp only at i1
        rw [sUp_ne (by omega)] at i1
        rw [h3, jm_up_lj (by decide)]; exact hT.2.1 i i0 i1
      · dsimp only at i1
        rw [sUp_ne (by omega)] at i1
        rw [h3, jm_up_lj (by decide)]; exact hT.2.2.1 i i0 i1
    have x1 := h0.nx hs
    exact c_M_adv a3 hs (fun m4 b1 b2 _ => h2 _ rfl x1 m4 (f3.trans (mFo.of b1)) b2 (T3.of (b1.1 136 (by decide)) (b1.1 140 (by decide))))
  · rw [if_pos (by omega)] at h1
    exact c_M_bad2 h0 (by omega) (fun ν er => jq_Z (h1 (3, _) rfl ν (mFo.rfl.er er)))
end MY
