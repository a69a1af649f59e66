/-! a table's lines, in the reference: kinds, may, comb, once -/
section ML
variable {E : jm_E} {d : Nat} {μ : jm_M} {Q : Option jm_V → jm_M → Prop} {τ : Int → Int} {n lim p : Int} {T : zTs}
theorem c_M_isW {k : Int} (t : Int) (h0 : mAt μ τ n lim p) (k0 : 0 ≤ k) (k1 : k ≤ 24) (e : t = k + 1) (ht : (sTok τ n lim p).1 = 2 → sTm (sTok τ n lim p).2.2.2 = t → Q (some (jm_I 1)) μ) (hf : ¬ zIs (sTok τ n lim) p t → Q (some (jm_I 0)) μ) : jc E m_X11_isWord (d + 3) [jm_R 133, jm_I k] μ Q := by
  subst e
  exact c_M_isWord h0 k0 k1 ht hf
theorem c_M_readKind (h0 : mAt μ τ n lim p) (hs : 2 ≤ (sTok τ n lim p).1) (hT : mTa μ T) (h1 : ∀ e, zRk1 (sTok τ n lim) T p = .error e → ∀ ν, mFe mW μ ν e → Q (some (jm_I 0)) ν) (h2 : ∀ x, zRk1 (sTok τ n lim) T p = .ok x → p < x.2 → ∀ ν, mFo mW μ ν → mAt ν τ n lim x.2 → mTa ν x.1 → Q (some (jm_I 1)) ν) : jc E m_X11_readKind (d + 5) [jm_R 133] μ Q := by
  have w0 := hT.2.2.2.1.2.2.1
  have w1 := hT.2.2.2.1.2.2.2.1
  have e0 : μ 136 1 = T.1 1 := hT.1 1 (by decide) (by decide)
  refine e_X11_readKind (d := d + 4) (fun _ x1 hx1 => ?_)
  rw [e0] at hx1
  subst hx1
  refine ⟨fun z => ?_, fun z => ?_⟩
  · intro x3 hx3
    rw [jm_wr_id (a := 4 * T.1 1) (by omega) (by omega), jm_wr_id (a := 20 + 4 * T.1 1) (by omega) (by omega)] at hx3
    subst hx3
    refine c_M_adv h0 hs (fun m3 a1 a2 _ => ?_)
    have hT3 : mTa m3 T := hT.of (a1.1 136 (by decide)) (a1.1 140 (by decide))
    rw [jm_wr_id (a := 8 + T.1 1) (by omega) (by omega)]
    refine c_M_readNew (by omega) (by omega) a2 hT3 (fun e he ν er => jq_Z (jb_f (by decide) (h1 e (by unfold zRk1; rw [if_neg z]; exact zBi_e he) ν ((mFo.of a1).er er)))) (fun s3 he m4 b1 b2 b3 b4 b5 => jq_Z (jb_t (by decide) ?_))
    have nv := sTok_nv s3
    have F : mFo mW μ m4 := (mFo.of a1).trans b1
    have z1 := h0.nx hs
    have z2 := a2.nx (by omega)
    -- what opens or begins
    have key : ∀ w m, w = zOo (sTok τ n lim) (sNx1 τ n lim (sNx1 τ n lim p)) → m = jm_up m4 136 (20 + 4 * T.1 1) w → (w = 0 ∨ (sTok τ n lim (sNx1 τ n lim (sNx1 τ n lim p))).1 = 2) → ((m 136 (20 + 4 * T.1 1) ≤ 0 → jg E m_X11_readKind (d + 4) 96 [some (jm_R 133), none, some (jm_I (20 + 4 * T.1 1)), some (jm_I 8)] [] m Q) ∧ (¬ m 136 (20 + 4 * T.1 1) ≤ 0 → jc E m_X11_go (d + 4) [jm_R 133] m (fun o m20 => o = none → jg E m_X11_readKind (d + 4) 96 [some (jm_R 133), none, some (jm_I (20 + 4 * T.1 1)), some (jm_I 8)] [] m20 Q))) := by
      intro w m hw hm hs5
      have w02 : 0 ≤ w ∧ w ≤ 2 := by rw [hw]; unfold zOo; split; exact ⟨by decide, by decide⟩; split; exact ⟨by decide, by decide⟩; exact ⟨by decide, by decide⟩
      have H : mHk μ m T (sTok τ n lim (sNx1 τ n lim p)).2.2.2 w := by
        rw [hm]
        exact ⟨fun i q1 q2 => by rw [jm_up_i q1, b2, a1.1 136 (by decide)], jm_up_at, by rw [jm_up_lj (by decide)]; exact b3, fun i hi => by rw [jm_up_lj (by decide), b4 i hi, a1.1 140 (by decide)]⟩
      have fm : mFo mW m4 m := by rw [hm]; exact mFo.up (Or.inl rfl) (by decide)
      have am : mAt m τ n lim (sNx1 τ n lim (sNx1 τ n lim p)) := b5.kf (by rw [hm, jm_up_ne (by decide)]) (by rw [hm, jm_up_ne (by decide)])
      have em : m 136 (20 + 4 * T.1 1) = w := H.2.1
      rw [em]
      refine ⟨fun y => ?_, fun y => c_M_adv am (by omega) (fun m20 c1 c2 _ => ?_)⟩
      · have w0' : w = 0 := by omega
        refine g_M_96 am hT z H w02.1 w02.2 nv (fun e he2 ξ fe => h1 e ?_ ξ ((F.trans fm).fe fe)) (fun x hx xp ξ fo xa xt => h2 x ?_ (by omega) ξ ((F.trans fm).trans fo) xa xt)
        · unfold zRk1; rw [if_neg z]; rw [zBi_o he]; rw [← hw, if_pos w0']; exact he2
        · unfold zRk1; rw [if_neg z]; rw [zBi_o he]; rw [← hw, if_pos w0']; exact hx
      · have z3 := b5.nx (by omega)
        refine g_M_96 c2 hT z (H.of (c1.1 136 (by decide)) (c1.1 140 (by decide))) w02.1 w02.2 nv (fun e he2 ξ fe => h1 e ?_ ξ (((F.trans fm).trans (mFo.of c1)).fe fe)) (fun x hx xp ξ fo xa xt => h2 x ?_ (by omega) ξ (((F.trans fm).trans (mFo.of c1)).trans fo) xa xt)
        · unfold zRk1; rw [if_neg z]; rw [zBi_o he]; rw [← hw, if_neg (show ¬ w = 0 by omega)]; exact he2
        · unfold zRk1; rw [if_neg z]; rw [zBi_o he]; rw [← hw, if_neg (show ¬ w = 0 by omega)]; exact hx
    have ad : jm_wr (20 + 4 * T.1 1 + 0) = 20 + 4 * T.1 1 := by rw [show 20 + 4 * T.1 1 + 0 = 20 + 4 * T.1 1 by omega]; exact jm_wr_id (by omega) (by omega)
    rw [ad]
    refine c_M_isW 7 b5 (by decide) (by decide) rfl (fun s t => jq_Z (jb_f (by decide) ⟨⟨by omega, by omega⟩, fun m26 h26 => key 1 m26 (by unfold zOo; rw [if_pos ⟨s, t⟩]) h26 (Or.inr s)⟩)) (fun n6 => jq_Z (jb_t rfl (c_M_isW 8 b5 (by decide) (by decide) rfl (fun s t => jq_Z (jb_f (by decide) ⟨⟨by omega, by omega⟩, fun m22 h22 => key 2 m22 (by unfold zOo; rw [if_neg n6, if_pos ⟨s, t⟩]) h22 (Or.inr s)⟩)) (fun n7 => jq_Z (jb_t rfl ⟨⟨by omega, by omega⟩, fun m18 h18 => key 0 m18 (by unfold zOo; rw [if_neg n6, if_neg n7]) h18 (Or.inl rfl)⟩)))))
  · have c8 := Decidable.not_not.mp z
    exact c_M_bad2 h0 (by omega) (fun ν er => jq_Z (h1 (4, _) (by unfold zRk1; rw [if_pos c8]; rfl) ν (mFo.rfl.er er)))
end ML
