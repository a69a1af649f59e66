/-! a table's lines, in the class: read -/
section KL
variable {E : jm_E} {d : Nat} {μ : jm_M} {Q : Option jm_V → jm_M → Prop} {τ : Int → Int} {n lim p : Int} {T : zTs}
theorem kTb.er {ν : jm_M} {f pl : Int} (h : kTb μ T) (he : kEr μ ν f pl) : kTb ν T := h.of (fun q a b => he.1 q (by omega))
theorem c_K_readMay (h0 : kAt μ τ n lim p) (hs : 2 ≤ (sTok τ n lim p).1) (hT : kTb μ T) (h1 : ∀ e, zRm (sTok τ n lim) T p = .error e → ∀ ν, kFe kW μ ν e → Q (some (jm_I 0)) ν) (h2 : ∀ x, zRm (sTok τ n lim) T p = .ok x → p < x.2 → ∀ ν, kFo kW μ ν → ν 12 0 = μ 12 0 → kAt ν τ n lim x.2 → kTb ν x.1 → Q (some (jm_I 1)) ν) : jc E m_X5_readMay (d + 4) [jm_R 12, jm_R 1] μ Q := by
  have k0 := hT.2.2.1.2.2.1
  have k1 := hT.2.2.1.2.2.2.1
  have w0 := hT.2.2.1.2.2.2.2.1
  have w1 := hT.2.2.1.2.2.2.2.2.1
  have e0 : μ 12 10 = T.1 2 := hT.1.1.2.2.1
  refine e_X5_readMay (d := d + 3) (fun _ => ⟨is_12, fun z => ?_, fun z => ?_⟩)
  · have c8 : ¬ T.1 2 = 40 := by omega
    refine c_K_adv h0 hs (fun m3 a1 a2 _ => ?_)
    have hT3 := hT.kf a1
    refine c_K_kindHere a2 is_12 hT.2.2.1 hT3.1.1.2.1 hT3.1.2.2.1 (fun e he ν er => jq_I ?_) (fun a ha => jq_I ?_)
    · exact c_T_hasKind is_12 hT.2.2.1 (hT3.er er).1.1 (fun q => absurd q (by decide)) (fun _ => jq_Z (jb_f (by decide) (h1 e (by unfold zRm; rw [if_neg c8]; exact zBi_e he) ν ((kFo.of a1).er er))))
    obtain ⟨x0, x1, s3⟩ := zNH_in k0 ha
    refine c_T_hasKind is_12 hT.2.2.1 hT3.1.1 (fun _ _ => jq_Z (jb_t (by decide) ?_)) (fun q => absurd ⟨x0, x1⟩ q)
    refine c_K_adv a2 (by omega) (fun m10 b1 b2 _ => ?_)
    have hT10 := hT3.kf b1
    have F : kFo kW μ m10 := (kFo.of a1).trans (kFo.of b1)
    refine c_K_kindHere b2 is_12 hT.2.2.1 hT10.1.1.2.1 hT10.1.2.2.1 (fun e he ν er => jq_I ?_) (fun b hb => jq_I ?_)
    · exact c_T_hasKind is_12 hT.2.2.1 (hT10.er er).1.1 (fun q => absurd q (by decide)) (fun _ => jq_Z (jb_f (by decide) (h1 e (by unfold zRm; rw [if_neg c8]; rw [zBi_o ha]; exact zBi_e he) ν (F.er er))))
    obtain ⟨y0, y1, s4⟩ := zNH_in k0 hb
    refine c_T_hasKind is_12 hT.2.2.1 hT10.1.1 (fun _ _ => jq_Z (jb_t (by decide) ?_)) (fun q => absurd ⟨y0, y1⟩ q)
    have mr := (hT.2.2.1.2.2.2.2.2.2.2.2.2.2.2.2 a x0 x1).2.2.2
    refine c_T_mayAnswer is_12 hT.2.2.1 hT10.1.1 x0 x1 y0 y1 (fun hb1 => jq_Z (jb_f (by decide) ?_)) (fun hb0 => jq_Z (jb_t rfl ⟨⟨x0, by omega⟩, fun m22 h22 => ?_⟩))
    · rw [b2.val.1]
      exact c_K_fails (fun ν er => jq_Z (h1 (3, _) (by unfold zRm; rw [if_neg c8]; rw [zBi_o ha]; rw [zBi_o hb]; rw [if_pos hb1]; rfl) ν (F.er er)))
    · have e19 : m10 (12 + 7) a = sMa T.1 a := (hT10.1.1.2.2.2.2.2.2.2.2.2 a x0 x1).2.2.2
      rw [e19, jm_or_bit mr.1 (by omega) y0 (by omega)] at h22
      have e22 : m22 12 10 = T.1 2 := by rw [h22, jm_up_lj (by decide)]; exact hT10.1.1.2.2.1
      rw [e22, jm_wr_id (by omega) (by omega)]
      have g : ∀ q, q ≠ 1 → q ≠ 19 → q ≠ 12 → jm_up m22 12 10 (T.1 2 + 1) q = μ q := fun q q1 q2 q3 => by rw [jm_up_ne q3, h22, jm_up_ne (show q ≠ 12 + 7 by omega), b1.1 q q1, a1.1 q q1]
      have f22 : kFo kW m10 (jm_up m22 12 10 (T.1 2 + 1)) := by rw [h22]; exact (kFo.up (by decide) (by decide)).trans (kFo.up (by decide) (by decide))
      have a22 : kAt (jm_up m22 12 10 (T.1 2 + 1)) τ n lim (sNx1 τ n lim (sNx1 τ n lim p)) := b2.kf (by rw [jm_up_ne (by decide), h22, jm_up_ne (by decide)]) (by rw [jm_up_ne (by decide), h22, jm_up_ne (by decide)])
      have z1 := h0.nx hs
      have z2 := a2.nx (by omega)
      have z3 := b2.nx (by omega)
      have g12 : ∀ j, j ≠ 10 → jm_up m22 12 10 (T.1 2 + 1) 12 j = μ 12 j := fun j hj => by rw [jm_up_i hj, h22, jm_up_lj (by decide), b1.1 12 (by decide), a1.1 12 (by decide)]
      refine c_K_adv a22 (by omega) (fun m23 c1 c2 _ => h2 (_, _) (by unfold zRm; rw [if_neg c8]; rw [zBi_o ha]; rw [zBi_o hb]; rw [if_neg (by rw [hb0]; decide)]) (by show p < sNx1 τ n lim (sNx1 τ n lim (sNx1 τ n lim p)); omega) m23 ((F.trans f22).trans (kFo.of c1)) (by rw [c1.1 12 (by decide)]; exact g12 0 (by decide)) c2 ?_)
      refine (kTb_may (ν := jm_up m22 12 10 (T.1 2 + 1)) hT c8 x0 x1 y0 y1 jm_up_at g12 ?_ (fun i hi => ?_) (fun x q0 q1 q2 => g x (by omega) q2 (by omega))).kf c1
      · rw [jm_up_lj (by decide), h22]; exact jm_up_at
      · rw [jm_up_lj (by decide), h22]; exact (jm_up_i hi).trans (by rw [b1.1 _ (by decide), a1.1 _ (by decide)])
  · have c8 : T.1 2 = 40 := by omega
    rw [h0.val.1]
    exact c_K_fails (fun ν er => jq_Z (h1 (4, _) (by unfold zRm; rw [if_pos c8]; rfl) ν ((kFo.rfl).er er)))
theorem g_readComb : ∀ (f : Nat) (i p : Int) (T : zTs) (ν : jm_M), i + f = 7 → 0 ≤ i → i ≤ 6 → T.1 3 = i → kAt ν τ n lim p → kCb ν T → (∀ e, zRc (sTok τ n lim) f T p = .error e → ∀ ξ, kFe kW ν ξ e → Q (some (jm_I 0)) ξ) → (∀ x, zRc (sTok τ n lim) f T p = .ok x → p ≤ x.2 → ∀ ξ, kFo kW ν ξ → ξ 12 0 = ν 12 0 → kAt ξ τ n lim x.2 → kTb ξ x.1 → Q (some (jm_I 1)) ξ) → jg E m_X5_readComb (d + 3) 33 [some (jm_R 12), some (jm_R 1), some (jm_I i)] [] ν Q
  | 0, i, p, T, ν, g1, g2, g3, g4, h0, hC, h1, h2 => absurd g1 (by omega)
  | f + 1, i, p, T, ν, g1, g2, g3, g4, h0, hC, h1, h2 => by
    have s := h0.s1
    rw [zRc] at h1 h2
    -- behind the numbers
    have out : (sTok τ n lim p).1 ≠ 3 ∨ i = 6 → jg E m_X5_readComb (d + 3) 89 [some (jm_R 12), some (jm_R 1), none] [] ν Q := by
      intro hz
      refine r_X5_readComb_89 (d := d + 3) ?_
      rw [hC.2.1.1, g4, h0.val.1]
      refine ⟨fun z => ⟨is_12, fun z2 => ?_, fun z2 => ?_⟩, fun z => ?_⟩
      · have n3 : ¬ (T.1 3 = 0 ∨ (sTok τ n lim p).1 = 3) := by have : ¬ (sTok τ n lim p).1 = 3 := fun q => z (s.2.1.mpr q); omega
        rw [if_neg n3] at h2
        exact h2 _ rfl (Int.le_refl _) ν kFo.rfl rfl h0 (hC.tb (by omega))
      · have n3 : ¬ (sTok τ n lim p).1 = 3 := fun q => z (s.2.1.mpr q)
        rw [if_pos (Or.inl (by omega)), if_neg (by omega)] at h1
        exact c_K_fails (fun ξ er => jq_Z (jb_t rfl (h1 (1, _) (zBi_e (by unfold zNu; rw [if_pos n3]; rfl)) ξ (kFo.rfl.er er))))
      · have y3 := s.2.1.mp (Decidable.not_not.mp z)
        rw [if_pos (Or.inr y3), if_pos (by omega)] at h1
        exact c_K_fails (fun ξ er => jq_Z (h1 (4, _) rfl ξ (kFo.rfl.er er)))
    refine r_X5_readComb_33 (d := d + 3) ⟨fun z => out (Or.inr (by omega)), fun z => ⟨fun z2 => out (Or.inl (fun q => z2 (s.2.1.mpr q))), fun z2 => ?_⟩⟩
    have y3 := s.2.1.mp (Decidable.not_not.mp z2)
    rw [if_pos (Or.inr y3), if_neg (by omega)] at h1 h2
    refine c_K_num h0 (fun e he ξ er => jq_Z (jb_f (by decide) (h1 e (zBi_e he) ξ (kFo.rfl.er er)))) (fun s4 he r0 r1 => jq_Z (jb_t (by decide) ?_))
    rw [zBi_o he] at h1 h2
    refine ⟨is_12, ⟨g2, by omega⟩, fun m9 h9 => ?_⟩
    rw [h0.val.2.2 s4] at h9
    have e9 : m9 12 11 = T.1 3 := by rw [h9, jm_up_lj (by decide)]; exact hC.2.1.1
    rw [e9, jm_wr_id (by omega) (by omega), jm_wr_id (by omega) (by omega)]
    have hC9 := hC.st (by omega) r0 r1
    have hm : jm_up m9 12 11 (T.1 3 + 1) = jm_up (jm_up ν 20 (T.1 3) (sTok τ n lim p).2.2.2) 12 11 (T.1 3 + 1) := by rw [h9, g4]; rfl
    rw [hm]
    have f9 : kFo kW ν (jm_up (jm_up ν 20 (T.1 3) (sTok τ n lim p).2.2.2) 12 11 (T.1 3 + 1)) := (kFo.up (by decide) (by decide)).trans (kFo.up (by decide) (by decide))
    have a9 : kAt (jm_up (jm_up ν 20 (T.1 3) (sTok τ n lim p).2.2.2) 12 11 (T.1 3 + 1)) τ n lim p := h0.kf (by rw [jm_up_ne (by decide), jm_up_ne (by decide)]) (by rw [jm_up_ne (by decide), jm_up_ne (by decide)])
    have o9 : jm_up (jm_up ν 20 (T.1 3) (sTok τ n lim p).2.2.2) 12 11 (T.1 3 + 1) 12 0 = ν 12 0 := by rw [jm_up_i (by decide), jm_up_lj (by decide)]
    have x1 := h0.nx (by omega)
    generalize jm_up (jm_up ν 20 (T.1 3) (sTok τ n lim p).2.2.2) 12 11 (T.1 3 + 1) = m at hC9 f9 a9 o9 ⊢
    refine c_K_adv a9 (by omega) (fun m10 b1 b2 _ => ?_)
    refine g_readComb f (i + 1) _ _ m10 (by omega) (by omega) (by omega) (by rw [← g4]; dsimp only; exact sUp_at) b2 (hC9.kf b1) (fun e he ξ fe => h1 e he ξ ((f9.trans (kFo.of b1)).fe fe)) (fun x hx xp ξ fo xo xa xt => h2 x hx (by omega) ξ ((f9.trans (kFo.of b1)).trans fo) (by rw [xo, b1.1 12 (by decide), o9]) xa xt)
theorem c_K_readComb (h0 : kAt μ τ n lim p) (hs : 2 ≤ (sTok τ n lim p).1) (hT : kTb μ T) (h1 : ∀ e, (if 0 < T.1 3 then zE (sTok τ n lim) p 3 else zRc (sTok τ n lim) 7 T (zNx (sTok τ n lim) p)) = .error e → ∀ ν, kFe kW μ ν e → Q (some (jm_I 0)) ν) (h2 : ∀ x, (if 0 < T.1 3 then zE (sTok τ n lim) p 3 else zRc (sTok τ n lim) 7 T (zNx (sTok τ n lim) p)) = .ok x → p < x.2 → ∀ ν, kFo kW μ ν → ν 12 0 = μ 12 0 → kAt ν τ n lim x.2 → kTb ν x.1 → Q (some (jm_I 1)) ν) : jc E m_X5_readComb (d + 4) [jm_R 12, jm_R 1] μ Q := by
  have w0 := hT.2.2.1.2.2.2.2.2.2.1
  have e13 := hT.2.1
  refine e_X5_readComb (d := d + 3) (fun _ => ⟨is_12, fun z => ?_, fun z => ?_⟩)
  · have c3 : T.1 3 = 0 := by
      by_cases c : T.1 3 = 0
      · exact c
      · rw [if_neg c] at e13; omega
    rw [if_neg (by omega)] at h1 h2
    have hC := kCb_0 hT c3
    have f0 : kFo kW μ (jm_up (jm_up μ 12 13 1) 12 11 0) := (kFo.up (by decide) (by decide)).trans (kFo.up (by decide) (by decide))
    have a0 : kAt (jm_up (jm_up μ 12 13 1) 12 11 0) τ n lim p := h0.kf (by rw [jm_up_ne (by decide), jm_up_ne (by decide)]) (by rw [jm_up_ne (by decide), jm_up_ne (by decide)])
    have o0 : jm_up (jm_up μ 12 13 1) 12 11 0 12 0 = μ 12 0 := by rw [jm_up_i (by decide), jm_up_i (by decide)]
    have x1 := h0.nx hs
    generalize jm_up (jm_up μ 12 13 1) 12 11 0 = m at hC f0 a0 o0 ⊢
    refine c_K_adv a0 hs (fun m10 b1 b2 _ => g_readComb 7 0 _ T m10 (by decide) (by decide) (by decide) c3 b2 (hC.kf b1) (fun e he ξ fe => h1 e he ξ ((f0.trans (kFo.of b1)).fe fe)) (fun x hx xp ξ fo xo xa xt => h2 x hx (by omega) ξ ((f0.trans (kFo.of b1)).trans fo) (by rw [xo, b1.1 12 (by decide), o0]) xa xt))
  · have c3 : ¬ T.1 3 = 0 := fun q => by rw [if_pos q] at e13; exact z e13
    rw [if_pos (by omega)] at h1
    rw [h0.val.1]
    exact c_K_fails (fun ν er => jq_Z (h1 (3, _) rfl ν (kFo.rfl.er er)))
end KL
