-- X3_init: by hand (objinit)
/-! ('CombTable$Search', 'tooMany', '(II)Z') -/
theorem d_X3_tooMany_0 : decode m_X3_tooMany.2.1 0 = .ok (.lconst 1, 1) := by decide +kernel
theorem d_X3_tooMany_1 : decode m_X3_tooMany.2.1 1 = .ok (.lstore_n 2, 1) := by decide +kernel
theorem d_X3_tooMany_2 : decode m_X3_tooMany.2.1 2 = .ok (.iconst 0, 1) := by decide +kernel
theorem d_X3_tooMany_3 : decode m_X3_tooMany.2.1 3 = .ok (.istore 4, 2) := by decide +kernel
theorem d_X3_tooMany_5 : decode m_X3_tooMany.2.1 5 = .ok (.iload 4, 2) := by decide +kernel
theorem d_X3_tooMany_7 : decode m_X3_tooMany.2.1 7 = .ok (.iload_n 1, 1) := by decide +kernel
theorem d_X3_tooMany_8 : decode m_X3_tooMany.2.1 8 = .ok (.if_icmp .ge 24, 3) := by decide +kernel
theorem d_X3_tooMany_11 : decode m_X3_tooMany.2.1 11 = .ok (.lload_n 2, 1) := by decide +kernel
theorem d_X3_tooMany_12 : decode m_X3_tooMany.2.1 12 = .ok (.iload_n 0, 1) := by decide +kernel
theorem d_X3_tooMany_13 : decode m_X3_tooMany.2.1 13 = .ok (.i2l, 1) := by decide +kernel
theorem d_X3_tooMany_14 : decode m_X3_tooMany.2.1 14 = .ok (.lmul, 1) := by decide +kernel
theorem d_X3_tooMany_15 : decode m_X3_tooMany.2.1 15 = .ok (.lstore_n 2, 1) := by decide +kernel
theorem d_X3_tooMany_16 : decode m_X3_tooMany.2.1 16 = .ok (.lload_n 2, 1) := by decide +kernel
theorem d_X3_tooMany_17 : decode m_X3_tooMany.2.1 17 = .ok (.ldc2_w 18, 3) := by decide +kernel
theorem d_X3_tooMany_20 : decode m_X3_tooMany.2.1 20 = .ok (.lcmp, 1) := by decide +kernel
theorem d_X3_tooMany_21 : decode m_X3_tooMany.2.1 21 = .ok (.ifCond .le 5, 3) := by decide +kernel
theorem d_X3_tooMany_24 : decode m_X3_tooMany.2.1 24 = .ok (.iconst 1, 1) := by decide +kernel
theorem d_X3_tooMany_25 : decode m_X3_tooMany.2.1 25 = .ok (.ireturn, 1) := by decide +kernel
theorem d_X3_tooMany_26 : decode m_X3_tooMany.2.1 26 = .ok (.iinc 4 1, 3) := by decide +kernel
theorem d_X3_tooMany_29 : decode m_X3_tooMany.2.1 29 = .ok (.goto (-24), 3) := by decide +kernel
theorem d_X3_tooMany_32 : decode m_X3_tooMany.2.1 32 = .ok (.iconst 0, 1) := by decide +kernel
theorem d_X3_tooMany_33 : decode m_X3_tooMany.2.1 33 = .ok (.ireturn, 1) := by decide +kernel
set_option maxRecDepth 20000 in
theorem e_X3_tooMany {E : jm_E} {d : Nat} {μ : jm_M} {Q : Option jm_V → jm_M → Prop} {v0 v1 : Int} (h : (∀ v ∈ ([jm_I v0, jm_I v1] : List jm_V), jm_ok v) →
  jg E m_X3_tooMany d 5 [some (jm_I v0), some (jm_I v1), some (jm_L 1), none, some (jm_I 0)] [] μ Q) : jc E m_X3_tooMany (d + 1) [jm_I v0, jm_I v1] μ Q := by
  refine jm_Cl.of2 (by decide +kernel) (L0 := [some (jm_I v0), some (jm_I v1), none, none, none]) rfl (Nat.le_of_ble_eq_true rfl) (fun hok => ?_)
  have h := h hok
  refine jm_lconst (v := 1) d_X3_tooMany_0 rfl (jm_okL (by decide) (by decide)) ?_
  refine jm_lstoren (L' := [some (jm_I _), some (jm_I _), some (jm_L _), none, none]) d_X3_tooMany_1 (Nat.le_of_ble_eq_true rfl) rfl ?_
  refine jm_iconst (v := 0) d_X3_tooMany_2 rfl (jm_okI (by decide) (by decide)) ?_
  refine jm_istore (L' := [some (jm_I _), some (jm_I _), some (jm_L _), none, some (jm_I _)]) d_X3_tooMany_3 (Nat.le_of_ble_eq_true rfl) rfl ?_
  exact h
set_option maxRecDepth 20000 in
theorem r_X3_tooMany_5 {E : jm_E} {d : Nat} {μ : jm_M} {Q : Option jm_V → jm_M → Prop} {v0 v1 v2 v4 : Int} (h :
  ((v1 ≤ v4 →
    Q (some (jm_I 0)) μ) ∧
   (¬ (v1 ≤ v4) →
    ∀ x2 : Int, x2 = jm_wl (v2 * v0) →
    ((jm_cmp x2 300000 ≤ 0 →
      jg E m_X3_tooMany d 5 [some (jm_I v0), some (jm_I v1), some (jm_L x2), none, some (jm_I (jm_wr (v4 + 1)))] [] μ Q) ∧
     (¬ (jm_cmp x2 300000 ≤ 0) →
      Q (some (jm_I 1)) μ))))) : jg E m_X3_tooMany d 5 [some (jm_I v0), some (jm_I v1), some (jm_L v2), none, some (jm_I v4)] [] μ Q := by
  refine jm_iload d_X3_tooMany_5 rfl ?_
  refine jm_iloadn d_X3_tooMany_7 rfl ?_
  refine jm_icmp_ge (tgt := 32) d_X3_tooMany_8 (by decide) (fun c1 => ?_) (fun c1 => ?_)
  · have h := h.1 c1
    refine jm_iconst (v := 0) d_X3_tooMany_32 rfl (jm_okI (by decide) (by decide)) ?_
    exact jm_ret (o := some (jm_I _)) d_X3_tooMany_33 rfl ⟨Nat.le_refl _, Nat.le_refl _⟩ (jm_r_Z (by decide)) h rfl
  · have h := h.2 c1
    refine jm_lloadn d_X3_tooMany_11 rfl ?_
    refine jm_iloadn d_X3_tooMany_12 rfl ?_
    refine jm_i2l d_X3_tooMany_13 ?_
    refine jm_lmul d_X3_tooMany_14 ?_
    have h := h _ rfl
    refine jm_lstoren (L' := [some (jm_I _), some (jm_I _), some (jm_L _), none, some (jm_I _)]) d_X3_tooMany_15 (Nat.le_of_ble_eq_true rfl) rfl ?_
    refine jm_lloadn d_X3_tooMany_16 rfl ?_
    refine jm_ldc2 (v := 300000) d_X3_tooMany_17 k_X3_18 (jm_okL (by decide) (by decide)) ?_
    refine jm_lcmp d_X3_tooMany_20 ?_
    refine jm_if_le (tgt := 26) d_X3_tooMany_21 (by decide) (fun c3 => ?_) (fun c3 => ?_)
    · have h := h.1 c3
      refine jm_iinc (L' := [some (jm_I _), some (jm_I _), some (jm_L _), none, some (jm_I _)]) d_X3_tooMany_26 rfl rfl (Nat.le_of_ble_eq_true rfl) rfl ?_
      refine jm_goto (tgt := 5) d_X3_tooMany_29 (by decide) ?_
      exact h
    · have h := h.2 c3
      refine jm_iconst (v := 1) d_X3_tooMany_24 rfl (jm_okI (by decide) (by decide)) ?_
      exact jm_ret (o := some (jm_I _)) d_X3_tooMany_25 rfl ⟨Nat.le_refl _, Nat.le_refl _⟩ (jm_r_Z (by decide)) h rfl
/-! ('CombTable$Search', 'keepFound', '(I)V') -/
theorem d_X3_keepFound_0 : decode m_X3_keepFound.2.1 0 = .ok (.aload_n 0, 1) := by decide +kernel
theorem d_X3_keepFound_1 : decode m_X3_keepFound.2.1 1 = .ok (.getfield 9, 3) := by decide +kernel
theorem d_X3_keepFound_4 : decode m_X3_keepFound.2.1 4 = .ok (.iconst 0, 1) := by decide +kernel
theorem d_X3_keepFound_5 : decode m_X3_keepFound.2.1 5 = .ok (.aload_n 0, 1) := by decide +kernel
theorem d_X3_keepFound_6 : decode m_X3_keepFound.2.1 6 = .ok (.getfield 15, 3) := by decide +kernel
theorem d_X3_keepFound_9 : decode m_X3_keepFound.2.1 9 = .ok (.iconst 0, 1) := by decide +kernel
theorem d_X3_keepFound_10 : decode m_X3_keepFound.2.1 10 = .ok (.bipush 8, 2) := by decide +kernel
theorem d_X3_keepFound_12 : decode m_X3_keepFound.2.1 12 = .ok (.invokestatic 20, 3) := by decide +kernel
theorem d_X3_keepFound_15 : decode m_X3_keepFound.2.1 15 = .ok (.aload_n 0, 1) := by decide +kernel
theorem d_X3_keepFound_16 : decode m_X3_keepFound.2.1 16 = .ok (.iload_n 1, 1) := by decide +kernel
theorem d_X3_keepFound_17 : decode m_X3_keepFound.2.1 17 = .ok (.putfield 26, 3) := by decide +kernel
theorem d_X3_keepFound_20 : decode m_X3_keepFound.2.1 20 = .ok (.return_, 1) := by decide +kernel
set_option maxRecDepth 20000 in
theorem e_X3_keepFound {E : jm_E} {d : Nat} {μ : jm_M} {Q : Option jm_V → jm_M → Prop} {v1 : Int} (h : (∀ v ∈ ([jm_R 121, jm_I v1] : List jm_V), jm_ok v) →
  ∀ m1 : jm_M, m1 = jm_cpy μ 122 0 123 0 8 →
  Q none (jm_up m1 121 6 v1)) : jc E m_X3_keepFound (d + 1) [jm_R 121, jm_I v1] μ Q := by
  refine jm_Cl.of2 (by decide +kernel) (L0 := [some (jm_R 121), some (jm_I v1)]) rfl (Nat.le_of_ble_eq_true rfl) (fun hok => ?_)
  have h := h hok
  refine jm_aloadn d_X3_keepFound_0 rfl ?_
  refine jm_getF (k := 4) (ki := 4) rfl cf_X3 (Nat.le_of_ble_eq_true rfl) f_X3_9 d_X3_keepFound_1 rfl rfl is_121 fr_121_4 ?_
  refine jm_iconst (v := 0) d_X3_keepFound_4 rfl (jm_okI (by decide) (by decide)) ?_
  refine jm_aloadn d_X3_keepFound_5 rfl ?_
  refine jm_getF (k := 5) (ki := 5) rfl cf_X3 (Nat.le_of_ble_eq_true rfl) f_X3_15 d_X3_keepFound_6 rfl rfl is_121 fr_121_5 ?_
  refine jm_iconst (v := 0) d_X3_keepFound_9 rfl (jm_okI (by decide) (by decide)) ?_
  refine jm_bipush (v := 8) d_X3_keepFound_10 rfl (jm_okI (by decide) (by decide)) ?_
  refine jm_acp ⟨by decide, ial_122, by rw [snl_122]; decide, ial_123, by rw [snl_123]; decide⟩ l_X3_20 d_X3_keepFound_12 ?_
  have h := h _ rfl
  refine jm_aloadn d_X3_keepFound_15 rfl ?_
  refine jm_iloadn d_X3_keepFound_16 rfl ?_
  refine jm_putI (k := 6) (ki := 6) cf_X3 (Nat.le_of_ble_eq_true rfl) f_X3_26 d_X3_keepFound_17 (fun z => absurd z (by decide)) rfl rfl rfl (fun _ => rfl) is_121 ?_
  exact jm_ret (o := none) d_X3_keepFound_20 rfl ⟨Nat.le_refl _, Nat.le_refl _⟩ jm_r_V h rfl
/-! ('CombTable$Search', 'foundAt', '(I)I') -/
theorem d_X3_foundAt_0 : decode m_X3_foundAt.2.1 0 = .ok (.iload_n 1, 1) := by decide +kernel
theorem d_X3_foundAt_1 : decode m_X3_foundAt.2.1 1 = .ok (.ifCond .lt 26, 3) := by decide +kernel
theorem d_X3_foundAt_4 : decode m_X3_foundAt.2.1 4 = .ok (.iload_n 1, 1) := by decide +kernel
theorem d_X3_foundAt_5 : decode m_X3_foundAt.2.1 5 = .ok (.aload_n 0, 1) := by decide +kernel
theorem d_X3_foundAt_6 : decode m_X3_foundAt.2.1 6 = .ok (.getfield 26, 3) := by decide +kernel
theorem d_X3_foundAt_9 : decode m_X3_foundAt.2.1 9 = .ok (.if_icmp .ge 18, 3) := by decide +kernel
theorem d_X3_foundAt_12 : decode m_X3_foundAt.2.1 12 = .ok (.iload_n 1, 1) := by decide +kernel
theorem d_X3_foundAt_13 : decode m_X3_foundAt.2.1 13 = .ok (.bipush 8, 2) := by decide +kernel
theorem d_X3_foundAt_15 : decode m_X3_foundAt.2.1 15 = .ok (.if_icmp .ge 12, 3) := by decide +kernel
theorem d_X3_foundAt_18 : decode m_X3_foundAt.2.1 18 = .ok (.aload_n 0, 1) := by decide +kernel
theorem d_X3_foundAt_19 : decode m_X3_foundAt.2.1 19 = .ok (.getfield 15, 3) := by decide +kernel
theorem d_X3_foundAt_22 : decode m_X3_foundAt.2.1 22 = .ok (.iload_n 1, 1) := by decide +kernel
theorem d_X3_foundAt_23 : decode m_X3_foundAt.2.1 23 = .ok (.iaload, 1) := by decide +kernel
theorem d_X3_foundAt_24 : decode m_X3_foundAt.2.1 24 = .ok (.goto 4, 3) := by decide +kernel
theorem d_X3_foundAt_27 : decode m_X3_foundAt.2.1 27 = .ok (.iconst (-1), 1) := by decide +kernel
theorem d_X3_foundAt_28 : decode m_X3_foundAt.2.1 28 = .ok (.ireturn, 1) := by decide +kernel
set_option maxRecDepth 20000 in
theorem e_X3_foundAt {E : jm_E} {d : Nat} {μ : jm_M} {Q : Option jm_V → jm_M → Prop} {v1 : Int} (h : (∀ v ∈ ([jm_R 121, jm_I v1] : List jm_V), jm_ok v) →
  ((v1 < 0 →
    Q (some (jm_I ((-1)))) μ) ∧
   (¬ (v1 < 0) →
    ((μ 121 6 ≤ v1 →
      Q (some (jm_I ((-1)))) μ) ∧
     (¬ (μ 121 6 ≤ v1) →
      ((8 ≤ v1 →
        Q (some (jm_I ((-1)))) μ) ∧
       (¬ (8 ≤ v1) →
        (0 ≤ v1 ∧ v1 < 8) ∧
        Q (some (jm_I (μ 123 v1))) μ))))))) : jc E m_X3_foundAt (d + 1) [jm_R 121, jm_I v1] μ Q := by
  refine jm_Cl.of2 (by decide +kernel) (L0 := [some (jm_R 121), some (jm_I v1)]) rfl (Nat.le_of_ble_eq_true rfl) (fun hok => ?_)
  have h := h hok
  refine jm_iloadn d_X3_foundAt_0 rfl ?_
  refine jm_if_lt (tgt := 27) d_X3_foundAt_1 (by decide) (fun c1 => ?_) (fun c1 => ?_)
  · have h := h.1 c1
    refine jm_iconst (v := (-1)) d_X3_foundAt_27 rfl (jm_okI (by decide) (by decide)) ?_
    exact jm_ret (o := some (jm_I _)) d_X3_foundAt_28 rfl ⟨Nat.le_refl _, Nat.le_refl _⟩ jm_r_I h rfl
  · have h := h.2 c1
    refine jm_iloadn d_X3_foundAt_4 rfl ?_
    refine jm_aloadn d_X3_foundAt_5 rfl ?_
    refine jm_getI (k := 6) (ki := 6) cf_X3 (Nat.le_of_ble_eq_true rfl) f_X3_26 d_X3_foundAt_6 rfl rfl is_121 rfl ?_
    refine jm_icmp_ge (tgt := 27) d_X3_foundAt_9 (by decide) (fun c2 => ?_) (fun c2 => ?_)
    · have h := h.1 c2
      refine jm_iconst (v := (-1)) d_X3_foundAt_27 rfl (jm_okI (by decide) (by decide)) ?_
      exact jm_ret (o := some (jm_I _)) d_X3_foundAt_28 rfl ⟨Nat.le_refl _, Nat.le_refl _⟩ jm_r_I h rfl
    · have h := h.2 c2
      refine jm_iloadn d_X3_foundAt_12 rfl ?_
      refine jm_bipush (v := 8) d_X3_foundAt_13 rfl (jm_okI (by decide) (by decide)) ?_
      refine jm_icmp_ge (tgt := 27) d_X3_foundAt_15 (by decide) (fun c3 => ?_) (fun c3 => ?_)
      · have h := h.1 c3
        refine jm_iconst (v := (-1)) d_X3_foundAt_27 rfl (jm_okI (by decide) (by decide)) ?_
        exact jm_ret (o := some (jm_I _)) d_X3_foundAt_28 rfl ⟨Nat.le_refl _, Nat.le_refl _⟩ jm_r_I h rfl
      · have h := h.2 c3
        refine jm_aloadn d_X3_foundAt_18 rfl ?_
        refine jm_getF (k := 5) (ki := 5) rfl cf_X3 (Nat.le_of_ble_eq_true rfl) f_X3_15 d_X3_foundAt_19 rfl rfl is_121 fr_121_5 ?_
        refine jm_iloadn d_X3_foundAt_22 rfl ?_
        obtain ⟨f4, h⟩ := h
        refine jm_iaload d_X3_foundAt_23 (ixl_123 f4.1 f4.2) ?_
        refine jm_goto (tgt := 28) d_X3_foundAt_24 (by decide) ?_
        exact jm_ret (o := some (jm_I _)) d_X3_foundAt_28 rfl ⟨Nat.le_refl _, Nat.le_refl _⟩ jm_r_I h rfl
/-! ('CombTable$Search', 'aim', '(II)V') -/
theorem d_X3_aim_0 : decode m_X3_aim.2.1 0 = .ok (.aload_n 0, 1) := by decide +kernel
theorem d_X3_aim_1 : decode m_X3_aim.2.1 1 = .ok (.iload_n 1, 1) := by decide +kernel
theorem d_X3_aim_2 : decode m_X3_aim.2.1 2 = .ok (.putfield 30, 3) := by decide +kernel
theorem d_X3_aim_5 : decode m_X3_aim.2.1 5 = .ok (.aload_n 0, 1) := by decide +kernel
theorem d_X3_aim_6 : decode m_X3_aim.2.1 6 = .ok (.iload_n 2, 1) := by decide +kernel
theorem d_X3_aim_7 : decode m_X3_aim.2.1 7 = .ok (.putfield 33, 3) := by decide +kernel
theorem d_X3_aim_10 : decode m_X3_aim.2.1 10 = .ok (.return_, 1) := by decide +kernel
set_option maxRecDepth 20000 in
theorem e_X3_aim {E : jm_E} {d : Nat} {μ : jm_M} {Q : Option jm_V → jm_M → Prop} {v1 v2 : Int} (h : (∀ v ∈ ([jm_R 121, jm_I v1, jm_I v2] : List jm_V), jm_ok v) →
  Q none (jm_up (jm_up μ 121 0 v1) 121 1 v2)) : jc E m_X3_aim (d + 1) [jm_R 121, jm_I v1, jm_I v2] μ Q := by
  refine jm_Cl.of2 (by decide +kernel) (L0 := [some (jm_R 121), some (jm_I v1), some (jm_I v2)]) rfl (Nat.le_of_ble_eq_true rfl) (fun hok => ?_)
  have h := h hok
  refine jm_aloadn d_X3_aim_0 rfl ?_
  refine jm_iloadn d_X3_aim_1 rfl ?_
  refine jm_putI (k := 0) (ki := 0) cf_X3 (Nat.le_of_ble_eq_true rfl) f_X3_30 d_X3_aim_2 (fun z => absurd z (by decide)) rfl rfl rfl (fun _ => rfl) is_121 ?_
  refine jm_aloadn d_X3_aim_5 rfl ?_
  refine jm_iloadn d_X3_aim_6 rfl ?_
  refine jm_putI (k := 1) (ki := 1) cf_X3 (Nat.le_of_ble_eq_true rfl) f_X3_33 d_X3_aim_7 (fun z => absurd z (by decide)) rfl rfl rfl (fun _ => rfl) is_121 ?_
  exact jm_ret (o := none) d_X3_aim_10 rfl ⟨Nat.le_refl _, Nat.le_refl _⟩ jm_r_V h rfl
/-! ('CombTable$Search', 'roadWithout', '(LCombTable$Talk;II)I') -/
theorem d_X3_roadWithout_0 : decode m_X3_roadWithout.2.1 0 = .ok (.aload_n 0, 1) := by decide +kernel
theorem d_X3_roadWithout_1 : decode m_X3_roadWithout.2.1 1 = .ok (.iload_n 2, 1) := by decide +kernel
theorem d_X3_roadWithout_2 : decode m_X3_roadWithout.2.1 2 = .ok (.putfield 36, 3) := by decide +kernel
theorem d_X3_roadWithout_5 : decode m_X3_roadWithout.2.1 5 = .ok (.iconst 0, 1) := by decide +kernel
theorem d_X3_roadWithout_6 : decode m_X3_roadWithout.2.1 6 = .ok (.istore 4, 2) := by decide +kernel
theorem d_X3_roadWithout_8 : decode m_X3_roadWithout.2.1 8 = .ok (.iload 4, 2) := by decide +kernel
theorem d_X3_roadWithout_10 : decode m_X3_roadWithout.2.1 10 = .ok (.iload_n 3, 1) := by decide +kernel
theorem d_X3_roadWithout_11 : decode m_X3_roadWithout.2.1 11 = .ok (.if_icmp .gt 23, 3) := by decide +kernel
theorem d_X3_roadWithout_14 : decode m_X3_roadWithout.2.1 14 = .ok (.aload_n 0, 1) := by decide +kernel
theorem d_X3_roadWithout_15 : decode m_X3_roadWithout.2.1 15 = .ok (.aload_n 1, 1) := by decide +kernel
theorem d_X3_roadWithout_16 : decode m_X3_roadWithout.2.1 16 = .ok (.iconst 0, 1) := by decide +kernel
theorem d_X3_roadWithout_17 : decode m_X3_roadWithout.2.1 17 = .ok (.iload 4, 2) := by decide +kernel
theorem d_X3_roadWithout_19 : decode m_X3_roadWithout.2.1 19 = .ok (.invokevirtual 39, 3) := by decide +kernel
theorem d_X3_roadWithout_22 : decode m_X3_roadWithout.2.1 22 = .ok (.ifCond .eq 6, 3) := by decide +kernel
theorem d_X3_roadWithout_25 : decode m_X3_roadWithout.2.1 25 = .ok (.iload 4, 2) := by decide +kernel
theorem d_X3_roadWithout_27 : decode m_X3_roadWithout.2.1 27 = .ok (.ireturn, 1) := by decide +kernel
theorem d_X3_roadWithout_28 : decode m_X3_roadWithout.2.1 28 = .ok (.iinc 4 1, 3) := by decide +kernel
theorem d_X3_roadWithout_31 : decode m_X3_roadWithout.2.1 31 = .ok (.goto (-23), 3) := by decide +kernel
theorem d_X3_roadWithout_34 : decode m_X3_roadWithout.2.1 34 = .ok (.iconst (-1), 1) := by decide +kernel
theorem d_X3_roadWithout_35 : decode m_X3_roadWithout.2.1 35 = .ok (.ireturn, 1) := by decide +kernel
set_option maxRecDepth 20000 in
theorem e_X3_roadWithout {E : jm_E} {d : Nat} {μ : jm_M} {Q : Option jm_V → jm_M → Prop} {v1 v2 v3 : Int} (h : (∀ v ∈ ([jm_R 121, jm_R v1, jm_I v2, jm_I v3] : List jm_V), jm_ok v) →
  jg E m_X3_roadWithout d 8 [some (jm_R 121), some (jm_R v1), none, some (jm_I v3), some (jm_I 0)] [] (jm_up μ 121 2 v2) Q) : jc E m_X3_roadWithout (d + 1) [jm_R 121, jm_R v1, jm_I v2, jm_I v3] μ Q := by
  refine jm_Cl.of2 (by decide +kernel) (L0 := [some (jm_R 121), some (jm_R v1), some (jm_I v2), some (jm_I v3), none]) rfl (Nat.le_of_ble_eq_true rfl) (fun hok => ?_)
  have h := h hok
  refine jm_aloadn d_X3_roadWithout_0 rfl ?_
  refine jm_iloadn d_X3_roadWithout_1 rfl ?_
  refine jm_putI (k := 2) (ki := 2) cf_X3 (Nat.le_of_ble_eq_true rfl) f_X3_36 d_X3_roadWithout_2 (fun z => absurd z (by decide)) rfl rfl rfl (fun _ => rfl) is_121 ?_
  refine jm_iconst (v := 0) d_X3_roadWithout_5 rfl (jm_okI (by decide) (by decide)) ?_
  refine jm_istore (L' := [some (jm_R _), some (jm_R _), some (jm_I _), some (jm_I _), some (jm_I _)]) d_X3_roadWithout_6 (Nat.le_of_ble_eq_true rfl) rfl ?_
  exact jm_weak2 h (And.intro rfl (And.intro rfl (And.intro rfl (And.intro rfl trivial))))
set_option maxRecDepth 20000 in
theorem r_X3_roadWithout_8 {E : jm_E} {d : Nat} {μ : jm_M} {Q : Option jm_V → jm_M → Prop} {v1 v3 v4 : Int} (h :
  ((v3 < v4 →
    Q (some (jm_I ((-1)))) μ) ∧
   (¬ (v3 < v4) →
    jc E m_X3_leads d [jm_R 121, jm_R v1, jm_I 0, jm_I v4] μ (fun (o : Option jm_V) (m2 : jm_M) => ∀ r3 : Int, o = some (jm_I r3) → (r3 = 0 ∨ r3 = 1) →
    ((r3 = 0 →
      jg E m_X3_roadWithout d 8 [some (jm_R 121), some (jm_R v1), none, some (jm_I v3), some (jm_I (jm_wr (v4 + 1)))] [] m2 Q) ∧
     (¬ (r3 = 0) →
      Q (some (jm_I v4)) m2)))))) : jg E m_X3_roadWithout d 8 [some (jm_R 121), some (jm_R v1), none, some (jm_I v3), some (jm_I v4)] [] μ Q := by
  refine jm_iload d_X3_roadWithout_8 rfl ?_
  refine jm_iloadn d_X3_roadWithout_10 rfl ?_
  refine jm_icmp_gt (tgt := 34) d_X3_roadWithout_11 (by decide) (fun c1 => ?_) (fun c1 => ?_)
  · have h := h.1 c1
    refine jm_iconst (v := (-1)) d_X3_roadWithout_34 rfl (jm_okI (by decide) (by decide)) ?_
    exact jm_ret (o := some (jm_I _)) d_X3_roadWithout_35 rfl ⟨Nat.le_refl _, Nat.le_refl _⟩ jm_r_I h rfl
  · have h := h.2 c1
    refine jm_aloadn d_X3_roadWithout_14 rfl ?_
    refine jm_aloadn d_X3_roadWithout_15 rfl ?_
    refine jm_iconst (v := 0) d_X3_roadWithout_16 rfl (jm_okI (by decide) (by decide)) ?_
    refine jm_iload d_X3_roadWithout_17 rfl ?_
    refine jm_invV (n1 := jm_N) (mc := 0) (ms := 0) (av := [jm_R _, jm_I _, jm_I _]) w_X3_leads l_X3_39 d_X3_roadWithout_19 rfl is_121 ⟨_, _, rfl⟩ ⟨Nat.le_refl _, Nat.le_refl _⟩ (Nat.le_of_ble_eq_true rfl) rfl ?_
    refine jm_Cl.mono h (fun o m2 h hr _ => ?_)
    obtain ⟨r3, rfl, z4⟩ := jm_rokZ hr
    have h := h _ rfl z4
    refine jm_if_eq (tgt := 28) d_X3_roadWithout_22 (by decide) (fun c5 => ?_) (fun c5 => ?_)
    · have h := h.1 c5
      refine jm_iinc (L' := [some (jm_R _), some (jm_R _), none, some (jm_I _), some (jm_I _)]) d_X3_roadWithout_28 rfl rfl (Nat.le_of_ble_eq_true rfl) rfl ?_
      refine jm_goto (tgt := 8) d_X3_roadWithout_31 (by decide) ?_
      exact h
    · have h := h.2 c5
      refine jm_iload d_X3_roadWithout_25 rfl ?_
      exact jm_ret (o := some (jm_I _)) d_X3_roadWithout_27 rfl ⟨Nat.le_refl _, Nat.le_refl _⟩ jm_r_I h rfl
/-! ('CombTable$Search', 'leads', '(LCombTable$Talk;II)Z') -/
theorem d_X3_leads_0 : decode m_X3_leads.2.1 0 = .ok (.iload_n 3, 1) := by decide +kernel
theorem d_X3_leads_1 : decode m_X3_leads.2.1 1 = .ok (.ifCond .le 9, 3) := by decide +kernel
theorem d_X3_leads_4 : decode m_X3_leads.2.1 4 = .ok (.iload_n 2, 1) := by decide +kernel
theorem d_X3_leads_5 : decode m_X3_leads.2.1 5 = .ok (.bipush 8, 2) := by decide +kernel
theorem d_X3_leads_7 : decode m_X3_leads.2.1 7 = .ok (.if_icmp .lt 16, 3) := by decide +kernel
theorem d_X3_leads_10 : decode m_X3_leads.2.1 10 = .ok (.aload_n 1, 1) := by decide +kernel
theorem d_X3_leads_11 : decode m_X3_leads.2.1 11 = .ok (.aload_n 0, 1) := by decide +kernel
theorem d_X3_leads_12 : decode m_X3_leads.2.1 12 = .ok (.getfield 30, 3) := by decide +kernel
theorem d_X3_leads_15 : decode m_X3_leads.2.1 15 = .ok (.aload_n 0, 1) := by decide +kernel
theorem d_X3_leads_16 : decode m_X3_leads.2.1 16 = .ok (.getfield 33, 3) := by decide +kernel
theorem d_X3_leads_19 : decode m_X3_leads.2.1 19 = .ok (.invokevirtual 43, 3) := by decide +kernel
theorem d_X3_leads_22 : decode m_X3_leads.2.1 22 = .ok (.ireturn, 1) := by decide +kernel
theorem d_X3_leads_23 : decode m_X3_leads.2.1 23 = .ok (.aload_n 1, 1) := by decide +kernel
theorem d_X3_leads_24 : decode m_X3_leads.2.1 24 = .ok (.aload_n 0, 1) := by decide +kernel
theorem d_X3_leads_25 : decode m_X3_leads.2.1 25 = .ok (.getfield 30, 3) := by decide +kernel
theorem d_X3_leads_28 : decode m_X3_leads.2.1 28 = .ok (.aload_n 0, 1) := by decide +kernel
theorem d_X3_leads_29 : decode m_X3_leads.2.1 29 = .ok (.getfield 33, 3) := by decide +kernel
theorem d_X3_leads_32 : decode m_X3_leads.2.1 32 = .ok (.iload_n 3, 1) := by decide +kernel
theorem d_X3_leads_33 : decode m_X3_leads.2.1 33 = .ok (.invokevirtual 49, 3) := by decide +kernel
theorem d_X3_leads_36 : decode m_X3_leads.2.1 36 = .ok (.ifCond .ne 5, 3) := by decide +kernel
theorem d_X3_leads_39 : decode m_X3_leads.2.1 39 = .ok (.iconst 0, 1) := by decide +kernel
theorem d_X3_leads_40 : decode m_X3_leads.2.1 40 = .ok (.ireturn, 1) := by decide +kernel
theorem d_X3_leads_41 : decode m_X3_leads.2.1 41 = .ok (.iconst 0, 1) := by decide +kernel
theorem d_X3_leads_42 : decode m_X3_leads.2.1 42 = .ok (.istore 4, 2) := by decide +kernel
theorem d_X3_leads_44 : decode m_X3_leads.2.1 44 = .ok (.iload 4, 2) := by decide +kernel
theorem d_X3_leads_46 : decode m_X3_leads.2.1 46 = .ok (.aload_n 1, 1) := by decide +kernel
theorem d_X3_leads_47 : decode m_X3_leads.2.1 47 = .ok (.getfield 53, 3) := by decide +kernel
theorem d_X3_leads_50 : decode m_X3_leads.2.1 50 = .ok (.getfield 57, 3) := by decide +kernel
theorem d_X3_leads_53 : decode m_X3_leads.2.1 53 = .ok (.if_icmp .ge 107, 3) := by decide +kernel
theorem d_X3_leads_56 : decode m_X3_leads.2.1 56 = .ok (.iload 4, 2) := by decide +kernel
theorem d_X3_leads_58 : decode m_X3_leads.2.1 58 = .ok (.aload_n 0, 1) := by decide +kernel
theorem d_X3_leads_59 : decode m_X3_leads.2.1 59 = .ok (.getfield 36, 3) := by decide +kernel
theorem d_X3_leads_62 : decode m_X3_leads.2.1 62 = .ok (.if_icmp .ne 7, 3) := by decide +kernel
theorem d_X3_leads_65 : decode m_X3_leads.2.1 65 = .ok (.iconst 0, 1) := by decide +kernel
theorem d_X3_leads_66 : decode m_X3_leads.2.1 66 = .ok (.goto 9, 3) := by decide +kernel
theorem d_X3_leads_69 : decode m_X3_leads.2.1 69 = .ok (.aload_n 1, 1) := by decide +kernel
theorem d_X3_leads_70 : decode m_X3_leads.2.1 70 = .ok (.iload 4, 2) := by decide +kernel
theorem d_X3_leads_72 : decode m_X3_leads.2.1 72 = .ok (.invokevirtual 62, 3) := by decide +kernel
theorem d_X3_leads_75 : decode m_X3_leads.2.1 75 = .ok (.istore 5, 2) := by decide +kernel
theorem d_X3_leads_77 : decode m_X3_leads.2.1 77 = .ok (.iconst 0, 1) := by decide +kernel
theorem d_X3_leads_78 : decode m_X3_leads.2.1 78 = .ok (.istore 6, 2) := by decide +kernel
theorem d_X3_leads_80 : decode m_X3_leads.2.1 80 = .ok (.iload 6, 2) := by decide +kernel
theorem d_X3_leads_82 : decode m_X3_leads.2.1 82 = .ok (.aload_n 1, 1) := by decide +kernel
theorem d_X3_leads_83 : decode m_X3_leads.2.1 83 = .ok (.getfield 53, 3) := by decide +kernel
theorem d_X3_leads_86 : decode m_X3_leads.2.1 86 = .ok (.getfield 66, 3) := by decide +kernel
theorem d_X3_leads_89 : decode m_X3_leads.2.1 89 = .ok (.if_icmp .ge 65, 3) := by decide +kernel
theorem d_X3_leads_92 : decode m_X3_leads.2.1 92 = .ok (.iload 5, 2) := by decide +kernel
theorem d_X3_leads_94 : decode m_X3_leads.2.1 94 = .ok (.iload 6, 2) := by decide +kernel
theorem d_X3_leads_96 : decode m_X3_leads.2.1 96 = .ok (.ishr, 1) := by decide +kernel
theorem d_X3_leads_97 : decode m_X3_leads.2.1 97 = .ok (.iconst 1, 1) := by decide +kernel
theorem d_X3_leads_98 : decode m_X3_leads.2.1 98 = .ok (.iand, 1) := by decide +kernel
theorem d_X3_leads_99 : decode m_X3_leads.2.1 99 = .ok (.ifCond .eq 49, 3) := by decide +kernel
theorem d_X3_leads_102 : decode m_X3_leads.2.1 102 = .ok (.aload_n 0, 1) := by decide +kernel
theorem d_X3_leads_103 : decode m_X3_leads.2.1 103 = .ok (.getfield 9, 3) := by decide +kernel
theorem d_X3_leads_106 : decode m_X3_leads.2.1 106 = .ok (.iload_n 2, 1) := by decide +kernel
theorem d_X3_leads_107 : decode m_X3_leads.2.1 107 = .ok (.bipush 16, 2) := by decide +kernel
theorem d_X3_leads_109 : decode m_X3_leads.2.1 109 = .ok (.iload 4, 2) := by decide +kernel
theorem d_X3_leads_111 : decode m_X3_leads.2.1 111 = .ok (.imul, 1) := by decide +kernel
theorem d_X3_leads_112 : decode m_X3_leads.2.1 112 = .ok (.iload 6, 2) := by decide +kernel
theorem d_X3_leads_114 : decode m_X3_leads.2.1 114 = .ok (.iadd, 1) := by decide +kernel
theorem d_X3_leads_115 : decode m_X3_leads.2.1 115 = .ok (.iastore, 1) := by decide +kernel
theorem d_X3_leads_116 : decode m_X3_leads.2.1 116 = .ok (.aload_n 1, 1) := by decide +kernel
theorem d_X3_leads_117 : decode m_X3_leads.2.1 117 = .ok (.iload 4, 2) := by decide +kernel
theorem d_X3_leads_119 : decode m_X3_leads.2.1 119 = .ok (.iload 6, 2) := by decide +kernel
theorem d_X3_leads_121 : decode m_X3_leads.2.1 121 = .ok (.invokevirtual 69, 3) := by decide +kernel
theorem d_X3_leads_124 : decode m_X3_leads.2.1 124 = .ok (.aload_n 0, 1) := by decide +kernel
theorem d_X3_leads_125 : decode m_X3_leads.2.1 125 = .ok (.aload_n 1, 1) := by decide +kernel
theorem d_X3_leads_126 : decode m_X3_leads.2.1 126 = .ok (.iload_n 2, 1) := by decide +kernel
theorem d_X3_leads_127 : decode m_X3_leads.2.1 127 = .ok (.iconst 1, 1) := by decide +kernel
theorem d_X3_leads_128 : decode m_X3_leads.2.1 128 = .ok (.iadd, 1) := by decide +kernel
theorem d_X3_leads_129 : decode m_X3_leads.2.1 129 = .ok (.iload_n 3, 1) := by decide +kernel
theorem d_X3_leads_130 : decode m_X3_leads.2.1 130 = .ok (.iconst 1, 1) := by decide +kernel
theorem d_X3_leads_131 : decode m_X3_leads.2.1 131 = .ok (.isub, 1) := by decide +kernel
theorem d_X3_leads_132 : decode m_X3_leads.2.1 132 = .ok (.invokevirtual 39, 3) := by decide +kernel
theorem d_X3_leads_135 : decode m_X3_leads.2.1 135 = .ok (.istore 7, 2) := by decide +kernel
theorem d_X3_leads_137 : decode m_X3_leads.2.1 137 = .ok (.aload_n 1, 1) := by decide +kernel
theorem d_X3_leads_138 : decode m_X3_leads.2.1 138 = .ok (.invokevirtual 73, 3) := by decide +kernel
theorem d_X3_leads_141 : decode m_X3_leads.2.1 141 = .ok (.iload 7, 2) := by decide +kernel
theorem d_X3_leads_143 : decode m_X3_leads.2.1 143 = .ok (.ifCond .eq 5, 3) := by decide +kernel
theorem d_X3_leads_146 : decode m_X3_leads.2.1 146 = .ok (.iconst 1, 1) := by decide +kernel
theorem d_X3_leads_147 : decode m_X3_leads.2.1 147 = .ok (.ireturn, 1) := by decide +kernel
theorem d_X3_leads_148 : decode m_X3_leads.2.1 148 = .ok (.iinc 6 1, 3) := by decide +kernel
theorem d_X3_leads_151 : decode m_X3_leads.2.1 151 = .ok (.goto (-71), 3) := by decide +kernel
theorem d_X3_leads_154 : decode m_X3_leads.2.1 154 = .ok (.iinc 4 1, 3) := by decide +kernel
theorem d_X3_leads_157 : decode m_X3_leads.2.1 157 = .ok (.goto (-113), 3) := by decide +kernel
theorem d_X3_leads_160 : decode m_X3_leads.2.1 160 = .ok (.iconst 0, 1) := by decide +kernel
theorem d_X3_leads_161 : decode m_X3_leads.2.1 161 = .ok (.ireturn, 1) := by decide +kernel
set_option maxRecDepth 20000 in
theorem e_X3_leads {E : jm_E} {d : Nat} {μ : jm_M} {Q : Option jm_V → jm_M → Prop} {v1 v2 v3 : Int} (h : (∀ v ∈ ([jm_R 121, jm_R v1, jm_I v2, jm_I v3] : List jm_V), jm_ok v) →
  ((v3 ≤ 0 →
    (jm_is jm_N v1 1 6) ∧
    jc E m_X6_isSo d [jm_R v1, jm_I (μ 121 0), jm_I (μ 121 1)] μ (fun (o : Option jm_V) (m2 : jm_M) => ∀ r4 : Int, o = some (jm_I r4) → (r4 = 0 ∨ r4 = 1) →
    Q (some (jm_I r4)) m2)) ∧
   (¬ (v3 ≤ 0) →
    ((v2 < 8 →
      (jm_is jm_N v1 1 6) ∧
      jc E m_X6_mayCome d [jm_R v1, jm_I (μ 121 0), jm_I (μ 121 1), jm_I v3] μ (fun (o : Option jm_V) (m7 : jm_M) => ∀ r9 : Int, o = some (jm_I r9) → (r9 = 0 ∨ r9 = 1) →
      ((r9 ≠ 0 →
        jg E m_X3_leads d 44 [some (jm_R 121), some (jm_R v1), some (jm_I v2), some (jm_I v3), some (jm_I 0), none, none, none] [] m7 Q) ∧
       (¬ (r9 ≠ 0) →
        Q (some (jm_I 0)) m7)))) ∧
     (¬ (v2 < 8) →
      (jm_is jm_N v1 1 6) ∧
      jc E m_X6_isSo d [jm_R v1, jm_I (μ 121 0), jm_I (μ 121 1)] μ (fun (o : Option jm_V) (m12 : jm_M) => ∀ r14 : Int, o = some (jm_I r14) → (r14 = 0 ∨ r14 = 1) →
      Q (some (jm_I r14)) m12)))))) : jc E m_X3_leads (d + 1) [jm_R 121, jm_R v1, jm_I v2, jm_I v3] μ Q := by
  refine jm_Cl.of2 (by decide +kernel) (L0 := [some (jm_R 121), some (jm_R v1), some (jm_I v2), some (jm_I v3), none, none, none, none]) rfl (Nat.le_of_ble_eq_true rfl) (fun hok => ?_)
  have h := h hok
  refine jm_iloadn d_X3_leads_0 rfl ?_
  refine jm_if_le (tgt := 10) d_X3_leads_1 (by decide) (fun c1 => ?_) (fun c1 => ?_)
  · have h := h.1 c1
    refine jm_aloadn d_X3_leads_10 rfl ?_
    refine jm_aloadn d_X3_leads_11 rfl ?_
    refine jm_getI (k := 0) (ki := 0) cf_X3 (Nat.le_of_ble_eq_true rfl) f_X3_30 d_X3_leads_12 rfl rfl is_121 rfl ?_
    refine jm_aloadn d_X3_leads_15 rfl ?_
    refine jm_getI (k := 1) (ki := 1) cf_X3 (Nat.le_of_ble_eq_true rfl) f_X3_33 d_X3_leads_16 rfl rfl is_121 rfl ?_
    obtain ⟨f3, h⟩ := h
    refine jm_invV (n1 := jm_N) (mc := 0) (ms := 0) (av := [jm_I _, jm_I _]) w_X6_isSo l_X3_43 d_X3_leads_19 rfl f3 ⟨_, _, rfl⟩ ⟨Nat.le_refl _, Nat.le_refl _⟩ (Nat.le_of_ble_eq_true rfl) rfl ?_
    refine jm_Cl.mono h (fun o m2 h hr _ => ?_)
    obtain ⟨r4, rfl, z5⟩ := jm_rokZ hr
    have h := h _ rfl z5
    exact jm_ret (o := some (jm_I _)) d_X3_leads_22 rfl ⟨Nat.le_refl _, Nat.le_refl _⟩ (jm_r_Z z5) h rfl
  · have h := h.2 c1
    refine jm_iloadn d_X3_leads_4 rfl ?_
    refine jm_bipush (v := 8) d_X3_leads_5 rfl (jm_okI (by decide) (by decide)) ?_
    refine jm_icmp_lt (tgt := 23) d_X3_leads_7 (by decide) (fun c6 => ?_) (fun c6 => ?_)
    · have h := h.1 c6
      refine jm_aloadn d_X3_leads_23 rfl ?_
      refine jm_aloadn d_X3_leads_24 rfl ?_
      refine jm_getI (k := 0) (ki := 0) cf_X3 (Nat.le_of_ble_eq_true rfl) f_X3_30 d_X3_leads_25 rfl rfl is_121 rfl ?_
      refine jm_aloadn d_X3_leads_28 rfl ?_
      refine jm_getI (k := 1) (ki := 1) cf_X3 (Nat.le_of_ble_eq_true rfl) f_X3_33 d_X3_leads_29 rfl rfl is_121 rfl ?_
      refine jm_iloadn d_X3_leads_32 rfl ?_
      obtain ⟨f8, h⟩ := h
      refine jm_invV (n1 := jm_N) (mc := 0) (ms := 0) (av := [jm_I _, jm_I _, jm_I _]) w_X6_mayCome l_X3_49 d_X3_leads_33 rfl f8 ⟨_, _, rfl⟩ ⟨Nat.le_refl _, Nat.le_refl _⟩ (Nat.le_of_ble_eq_true rfl) rfl ?_
      refine jm_Cl.mono h (fun o m7 h hr _ => ?_)
      obtain ⟨r9, rfl, z10⟩ := jm_rokZ hr
      have h := h _ rfl z10
      refine jm_if_ne (tgt := 41) d_X3_leads_36 (by decide) (fun c11 => ?_) (fun c11 => ?_)
      · have h := h.1 c11
        refine jm_iconst (v := 0) d_X3_leads_41 rfl (jm_okI (by decide) (by decide)) ?_
        refine jm_istore (L' := [some (jm_R _), some (jm_R _), some (jm_I _), some (jm_I _), some (jm_I _), none, none, none]) d_X3_leads_42 (Nat.le_of_ble_eq_true rfl) rfl ?_
        exact h
      · have h := h.2 c11
        refine jm_iconst (v := 0) d_X3_leads_39 rfl (jm_okI (by decide) (by decide)) ?_
        exact jm_ret (o := some (jm_I _)) d_X3_leads_40 rfl ⟨Nat.le_refl _, Nat.le_refl _⟩ (jm_r_Z (by decide)) h rfl
    · have h := h.2 c6
      refine jm_aloadn d_X3_leads_10 rfl ?_
      refine jm_aloadn d_X3_leads_11 rfl ?_
      refine jm_getI (k := 0) (ki := 0) cf_X3 (Nat.le_of_ble_eq_true rfl) f_X3_30 d_X3_leads_12 rfl rfl is_121 rfl ?_
      refine jm_aloadn d_X3_leads_15 rfl ?_
      refine jm_getI (k := 1) (ki := 1) cf_X3 (Nat.le_of_ble_eq_true rfl) f_X3_33 d_X3_leads_16 rfl rfl is_121 rfl ?_
      obtain ⟨f13, h⟩ := h
      refine jm_invV (n1 := jm_N) (mc := 0) (ms := 0) (av := [jm_I _, jm_I _]) w_X6_isSo l_X3_43 d_X3_leads_19 rfl f13 ⟨_, _, rfl⟩ ⟨Nat.le_refl _, Nat.le_refl _⟩ (Nat.le_of_ble_eq_true rfl) rfl ?_
      refine jm_Cl.mono h (fun o m12 h hr _ => ?_)
      obtain ⟨r14, rfl, z15⟩ := jm_rokZ hr
      have h := h _ rfl z15
      exact jm_ret (o := some (jm_I _)) d_X3_leads_22 rfl ⟨Nat.le_refl _, Nat.le_refl _⟩ (jm_r_Z z15) h rfl
set_option maxRecDepth 20000 in
theorem r_X3_leads_44 {E : jm_E} {d : Nat} {μ : jm_M} {Q : Option jm_V → jm_M → Prop} {v1 v2 v3 v4 : Int} (h :
  (jm_is jm_N v1 1 6) ∧
  (jm_is jm_N (μ v1 0) 1 5) ∧
  (((μ (μ v1 0) 1) ≤ v4 →
    Q (some (jm_I 0)) μ) ∧
   (¬ ((μ (μ v1 0) 1) ≤ v4) →
    ((v4 ≠ μ 121 2 →
      jc E m_X6_choices d [jm_R v1, jm_I v4] μ (fun (o : Option jm_V) (m5 : jm_M) => ∀ r6 : Int, o = some (jm_I r6) →
      jg E m_X3_leads d 80 [some (jm_R 121), some (jm_R v1), some (jm_I v2), some (jm_I v3), some (jm_I v4), some (jm_I r6), some (jm_I 0), none] [] m5 Q)) ∧
     (¬ (v4 ≠ μ 121 2) →
      jg E m_X3_leads d 80 [some (jm_R 121), some (jm_R v1), some (jm_I v2), some (jm_I v3), some (jm_I v4), some (jm_I 0), some (jm_I 0), none] [] μ Q))))) : jg E m_X3_leads d 44 [some (jm_R 121), some (jm_R v1), some (jm_I v2), some (jm_I v3), some (jm_I v4), none, none, none] [] μ Q := by
  refine jm_iload d_X3_leads_44 rfl ?_
  refine jm_aloadn d_X3_leads_46 rfl ?_
  obtain ⟨f1, h⟩ := h
  refine jm_getR (k := 0) (ki := 0) cf_X6 (Nat.le_of_ble_eq_true rfl) f_X3_53 d_X3_leads_47 rfl rfl f1 rfl ?_
  obtain ⟨f2, h⟩ := h
  refine jm_getI (k := 1) (ki := 1) cf_X5 (Nat.le_of_ble_eq_true rfl) f_X3_57 d_X3_leads_50 rfl rfl f2 rfl ?_
  refine jm_icmp_ge (tgt := 160) d_X3_leads_53 (by decide) (fun c3 => ?_) (fun c3 => ?_)
  · have h := h.1 c3
    refine jm_iconst (v := 0) d_X3_leads_160 rfl (jm_okI (by decide) (by decide)) ?_
    exact jm_ret (o := some (jm_I _)) d_X3_leads_161 rfl ⟨Nat.le_refl _, Nat.le_refl _⟩ (jm_r_Z (by decide)) h rfl
  · have h := h.2 c3
    refine jm_iload d_X3_leads_56 rfl ?_
    refine jm_aloadn d_X3_leads_58 rfl ?_
    refine jm_getI (k := 2) (ki := 2) cf_X3 (Nat.le_of_ble_eq_true rfl) f_X3_36 d_X3_leads_59 rfl rfl is_121 rfl ?_
    refine jm_icmp_ne (tgt := 69) d_X3_leads_62 (by decide) (fun c4 => ?_) (fun c4 => ?_)
    · have h := h.1 c4
      refine jm_aloadn d_X3_leads_69 rfl ?_
      refine jm_iload d_X3_leads_70 rfl ?_
      refine jm_invV (n1 := jm_N) (mc := 0) (ms := 0) (av := [jm_I _]) w_X6_choices l_X3_62 d_X3_leads_72 rfl f1 ⟨_, _, rfl⟩ ⟨Nat.le_refl _, Nat.le_refl _⟩ (Nat.le_of_ble_eq_true rfl) rfl ?_
      refine jm_Cl.mono h (fun o m5 h hr _ => ?_)
      obtain ⟨r6, rfl⟩ := jm_rokI hr
      have h := h _ rfl
      refine jm_istore (L' := [some (jm_R _), some (jm_R _), some (jm_I _), some (jm_I _), some (jm_I _), some (jm_I _), none, none]) d_X3_leads_75 (Nat.le_of_ble_eq_true rfl) rfl ?_
      refine jm_iconst (v := 0) d_X3_leads_77 rfl (jm_okI (by decide) (by decide)) ?_
      refine jm_istore (L' := [some (jm_R _), some (jm_R _), some (jm_I _), some (jm_I _), some (jm_I _), some (jm_I _), some (jm_I _), none]) d_X3_leads_78 (Nat.le_of_ble_eq_true rfl) rfl ?_
      exact h
    · have h := h.2 c4
      refine jm_iconst (v := 0) d_X3_leads_65 rfl (jm_okI (by decide) (by decide)) ?_
      refine jm_goto (tgt := 75) d_X3_leads_66 (by decide) ?_
      refine jm_istore (L' := [some (jm_R _), some (jm_R _), some (jm_I _), some (jm_I _), some (jm_I _), some (jm_I _), none, none]) d_X3_leads_75 (Nat.le_of_ble_eq_true rfl) rfl ?_
      refine jm_iconst (v := 0) d_X3_leads_77 rfl (jm_okI (by decide) (by decide)) ?_
      refine jm_istore (L' := [some (jm_R _), some (jm_R _), some (jm_I _), some (jm_I _), some (jm_I _), some (jm_I _), some (jm_I _), none]) d_X3_leads_78 (Nat.le_of_ble_eq_true rfl) rfl ?_
      exact h
set_option maxRecDepth 20000 in
theorem r_X3_leads_80 {E : jm_E} {d : Nat} {μ : jm_M} {Q : Option jm_V → jm_M → Prop} {v1 v2 v3 v4 v5 v6 : Int} (h :
  (jm_is jm_N v1 1 6) ∧
  (jm_is jm_N (μ v1 0) 1 5) ∧
  (((μ (μ v1 0) 4) ≤ v6 →
    jg E m_X3_leads d 44 [some (jm_R 121), some (jm_R v1), some (jm_I v2), some (jm_I v3), some (jm_I (jm_wr (v4 + 1))), none, none, none] [] μ Q) ∧
   (¬ ((μ (μ v1 0) 4) ≤ v6) →
    (((jm_and (jm_shr v5 v6) 1) = 0 →
      jg E m_X3_leads d 80 [some (jm_R 121), some (jm_R v1), some (jm_I v2), some (jm_I v3), some (jm_I v4), some (jm_I v5), some (jm_I (jm_wr (v6 + 1))), none] [] μ Q) ∧
     (¬ ((jm_and (jm_shr v5 v6) 1) = 0) →
      (0 ≤ v2 ∧ v2 < 8) ∧
      ∀ m6 : jm_M, m6 = (jm_up μ 122 v2 (jm_wr ((jm_wr (16 * v4)) + v6))) →
      jc E m_X6_add d [jm_R v1, jm_I v4, jm_I v6] m6 (fun (o : Option jm_V) (m7 : jm_M) => o = none →
      jc E m_X3_leads d [jm_R 121, jm_R v1, jm_I (jm_wr (v2 + 1)), jm_I (jm_wr (v3 - 1))] m7 (fun (o : Option jm_V) (m8 : jm_M) => ∀ r9 : Int, o = some (jm_I r9) → (r9 = 0 ∨ r9 = 1) →
      jc E m_X6_takeBack d [jm_R v1] m8 (fun (o : Option jm_V) (m11 : jm_M) => o = none →
      ((r9 = 0 →
        jg E m_X3_leads d 80 [some (jm_R 121), some (jm_R v1), some (jm_I v2), some (jm_I v3), some (jm_I v4), some (jm_I v5), some (jm_I (jm_wr (v6 + 1))), none] [] m11 Q) ∧
       (¬ (r9 = 0) →
        Q (some (jm_I 1)) m11)))))))))) : jg E m_X3_leads d 80 [some (jm_R 121), some (jm_R v1), some (jm_I v2), some (jm_I v3), some (jm_I v4), some (jm_I v5), some (jm_I v6), none] [] μ Q := by
  refine jm_iload d_X3_leads_80 rfl ?_
  refine jm_aloadn d_X3_leads_82 rfl ?_
  obtain ⟨f1, h⟩ := h
  refine jm_getR (k := 0) (ki := 0) cf_X6 (Nat.le_of_ble_eq_true rfl) f_X3_53 d_X3_leads_83 rfl rfl f1 rfl ?_
  obtain ⟨f2, h⟩ := h
  refine jm_getI (k := 4) (ki := 4) cf_X5 (Nat.le_of_ble_eq_true rfl) f_X3_66 d_X3_leads_86 rfl rfl f2 rfl ?_
  refine jm_icmp_ge (tgt := 154) d_X3_leads_89 (by decide) (fun c3 => ?_) (fun c3 => ?_)
  · have h := h.1 c3
    refine jm_iinc (L' := [some (jm_R _), some (jm_R _), some (jm_I _), some (jm_I _), some (jm_I _), some (jm_I _), some (jm_I _), none]) d_X3_leads_154 rfl rfl (Nat.le_of_ble_eq_true rfl) rfl ?_
    refine jm_goto (tgt := 44) d_X3_leads_157 (by decide) ?_
    exact jm_weak2 h (And.intro rfl (And.intro rfl (And.intro rfl (And.intro rfl (And.intro rfl trivial)))))
  · have h := h.2 c3
    refine jm_iload d_X3_leads_92 rfl ?_
    refine jm_iload d_X3_leads_94 rfl ?_
    refine jm_ishr d_X3_leads_96 ?_
    refine jm_iconst (v := 1) d_X3_leads_97 rfl (jm_okI (by decide) (by decide)) ?_
    refine jm_iand d_X3_leads_98 ?_
    refine jm_if_eq (tgt := 148) d_X3_leads_99 (by decide) (fun c4 => ?_) (fun c4 => ?_)
    · have h := h.1 c4
      refine jm_iinc (L' := [some (jm_R _), some (jm_R _), some (jm_I _), some (jm_I _), some (jm_I _), some (jm_I _), some (jm_I _), none]) d_X3_leads_148 rfl rfl (Nat.le_of_ble_eq_true rfl) rfl ?_
      refine jm_goto (tgt := 80) d_X3_leads_151 (by decide) ?_
      exact h
    · have h := h.2 c4
      refine jm_aloadn d_X3_leads_102 rfl ?_
      refine jm_getF (k := 4) (ki := 4) rfl cf_X3 (Nat.le_of_ble_eq_true rfl) f_X3_9 d_X3_leads_103 rfl rfl is_121 fr_121_4 ?_
      refine jm_iloadn d_X3_leads_106 rfl ?_
      refine jm_bipush (v := 16) d_X3_leads_107 rfl (jm_okI (by decide) (by decide)) ?_
      refine jm_iload d_X3_leads_109 rfl ?_
      refine jm_imul d_X3_leads_111 ?_
      refine jm_iload d_X3_leads_112 rfl ?_
      refine jm_iadd d_X3_leads_114 ?_
      obtain ⟨f5, h⟩ := h
      refine jm_iastore d_X3_leads_115 (ixl_122 f5.1 f5.2) ?_
      have h := h _ rfl
      refine jm_aloadn d_X3_leads_116 rfl ?_
      refine jm_iload d_X3_leads_117 rfl ?_
      refine jm_iload d_X3_leads_119 rfl ?_
      refine jm_invV (n1 := jm_N) (mc := 0) (ms := 0) (av := [jm_I _, jm_I _]) w_X6_add l_X3_69 d_X3_leads_121 rfl f1 ⟨_, _, rfl⟩ ⟨Nat.le_refl _, Nat.le_refl _⟩ (Nat.le_of_ble_eq_true rfl) rfl ?_
      refine jm_Cl.mono h (fun o m7 h hr _ => ?_)
      obtain rfl := jm_rokV hr
      have h := h rfl
      refine jm_aloadn d_X3_leads_124 rfl ?_
      refine jm_aloadn d_X3_leads_125 rfl ?_
      refine jm_iloadn d_X3_leads_126 rfl ?_
      refine jm_iconst (v := 1) d_X3_leads_127 rfl (jm_okI (by decide) (by decide)) ?_
      refine jm_iadd d_X3_leads_128 ?_
      refine jm_iloadn d_X3_leads_129 rfl ?_
      refine jm_iconst (v := 1) d_X3_leads_130 rfl (jm_okI (by decide) (by decide)) ?_
      refine jm_isub d_X3_leads_131 ?_
      refine jm_invV (n1 := jm_N) (mc := 0) (ms := 0) (av := [jm_R _, jm_I _, jm_I _]) w_X3_leads l_X3_39 d_X3_leads_132 rfl is_121 ⟨_, _, rfl⟩ ⟨Nat.le_refl _, Nat.le_refl _⟩ (Nat.le_of_ble_eq_true rfl) rfl ?_
      refine jm_Cl.mono h (fun o m8 h hr _ => ?_)
      obtain ⟨r9, rfl, z10⟩ := jm_rokZ hr
      have h := h _ rfl z10
      refine jm_istore (L' := [some (jm_R _), some (jm_R _), some (jm_I _), some (jm_I _), some (jm_I _), some (jm_I _), some (jm_I _), some (jm_I _)]) d_X3_leads_135 (Nat.le_of_ble_eq_true rfl) rfl ?_
      refine jm_aloadn d_X3_leads_137 rfl ?_
      refine jm_invV (n1 := jm_N) (mc := 0) (ms := 0) (av := []) w_X6_takeBack l_X3_73 d_X3_leads_138 rfl f1 ⟨_, _, rfl⟩ ⟨Nat.le_refl _, Nat.le_refl _⟩ (Nat.le_of_ble_eq_true rfl) rfl ?_
      refine jm_Cl.mono h (fun o m11 h hr _ => ?_)
      obtain rfl := jm_rokV hr
      have h := h rfl
      refine jm_iload d_X3_leads_141 rfl ?_
      refine jm_if_eq (tgt := 148) d_X3_leads_143 (by decide) (fun c12 => ?_) (fun c12 => ?_)
      · have h := h.1 c12
        refine jm_iinc (L' := [some (jm_R _), some (jm_R _), some (jm_I _), some (jm_I _), some (jm_I _), some (jm_I _), some (jm_I _), some (jm_I _)]) d_X3_leads_148 rfl rfl (Nat.le_of_ble_eq_true rfl) rfl ?_
        refine jm_goto (tgt := 80) d_X3_leads_151 (by decide) ?_
        exact jm_weak2 h (And.intro rfl (And.intro rfl (And.intro rfl (And.intro rfl (And.intro rfl (And.intro rfl (And.intro rfl trivial)))))))
      · have h := h.2 c12
        refine jm_iconst (v := 1) d_X3_leads_146 rfl (jm_okI (by decide) (by decide)) ?_
        exact jm_ret (o := some (jm_I _)) d_X3_leads_147 rfl ⟨Nat.le_refl _, Nat.le_refl _⟩ (jm_r_Z (by decide)) h rfl
/-! ('CombTable$Search', 'forcedBy', '(LCombTable$Talk;II)I') -/
theorem d_X3_forcedBy_0 : decode m_X3_forcedBy.2.1 0 = .ok (.aload_n 0, 1) := by decide +kernel
theorem d_X3_forcedBy_1 : decode m_X3_forcedBy.2.1 1 = .ok (.iload_n 2, 1) := by decide +kernel
theorem d_X3_forcedBy_2 : decode m_X3_forcedBy.2.1 2 = .ok (.putfield 76, 3) := by decide +kernel
theorem d_X3_forcedBy_5 : decode m_X3_forcedBy.2.1 5 = .ok (.iconst 0, 1) := by decide +kernel
theorem d_X3_forcedBy_6 : decode m_X3_forcedBy.2.1 6 = .ok (.istore 4, 2) := by decide +kernel
theorem d_X3_forcedBy_8 : decode m_X3_forcedBy.2.1 8 = .ok (.iload 4, 2) := by decide +kernel
theorem d_X3_forcedBy_10 : decode m_X3_forcedBy.2.1 10 = .ok (.iload_n 3, 1) := by decide +kernel
theorem d_X3_forcedBy_11 : decode m_X3_forcedBy.2.1 11 = .ok (.if_icmp .gt 23, 3) := by decide +kernel
theorem d_X3_forcedBy_14 : decode m_X3_forcedBy.2.1 14 = .ok (.aload_n 0, 1) := by decide +kernel
theorem d_X3_forcedBy_15 : decode m_X3_forcedBy.2.1 15 = .ok (.aload_n 1, 1) := by decide +kernel
theorem d_X3_forcedBy_16 : decode m_X3_forcedBy.2.1 16 = .ok (.iload 4, 2) := by decide +kernel
theorem d_X3_forcedBy_18 : decode m_X3_forcedBy.2.1 18 = .ok (.iconst 1, 1) := by decide +kernel
theorem d_X3_forcedBy_19 : decode m_X3_forcedBy.2.1 19 = .ok (.invokevirtual 79, 3) := by decide +kernel
theorem d_X3_forcedBy_22 : decode m_X3_forcedBy.2.1 22 = .ok (.ifCond .eq 6, 3) := by decide +kernel
theorem d_X3_forcedBy_25 : decode m_X3_forcedBy.2.1 25 = .ok (.iload 4, 2) := by decide +kernel
theorem d_X3_forcedBy_27 : decode m_X3_forcedBy.2.1 27 = .ok (.ireturn, 1) := by decide +kernel
theorem d_X3_forcedBy_28 : decode m_X3_forcedBy.2.1 28 = .ok (.iinc 4 1, 3) := by decide +kernel
theorem d_X3_forcedBy_31 : decode m_X3_forcedBy.2.1 31 = .ok (.goto (-23), 3) := by decide +kernel
theorem d_X3_forcedBy_34 : decode m_X3_forcedBy.2.1 34 = .ok (.iconst (-1), 1) := by decide +kernel
theorem d_X3_forcedBy_35 : decode m_X3_forcedBy.2.1 35 = .ok (.ireturn, 1) := by decide +kernel
set_option maxRecDepth 20000 in
theorem e_X3_forcedBy {E : jm_E} {d : Nat} {μ : jm_M} {Q : Option jm_V → jm_M → Prop} {v1 v2 v3 : Int} (h : (∀ v ∈ ([jm_R 121, jm_R v1, jm_I v2, jm_I v3] : List jm_V), jm_ok v) →
  jg E m_X3_forcedBy d 8 [some (jm_R 121), some (jm_R v1), none, some (jm_I v3), some (jm_I 0)] [] (jm_up μ 121 3 v2) Q) : jc E m_X3_forcedBy (d + 1) [jm_R 121, jm_R v1, jm_I v2, jm_I v3] μ Q := by
  refine jm_Cl.of2 (by decide +kernel) (L0 := [some (jm_R 121), some (jm_R v1), some (jm_I v2), some (jm_I v3), none]) rfl (Nat.le_of_ble_eq_true rfl) (fun hok => ?_)
  have h := h hok
  refine jm_aloadn d_X3_forcedBy_0 rfl ?_
  refine jm_iloadn d_X3_forcedBy_1 rfl ?_
  refine jm_putI (k := 3) (ki := 3) cf_X3 (Nat.le_of_ble_eq_true rfl) f_X3_76 d_X3_forcedBy_2 (fun z => absurd z (by decide)) rfl rfl rfl (fun _ => rfl) is_121 ?_
  refine jm_iconst (v := 0) d_X3_forcedBy_5 rfl (jm_okI (by decide) (by decide)) ?_
  refine jm_istore (L' := [some (jm_R _), some (jm_R _), some (jm_I _), some (jm_I _), some (jm_I _)]) d_X3_forcedBy_6 (Nat.le_of_ble_eq_true rfl) rfl ?_
  exact jm_weak2 h (And.intro rfl (And.intro rfl (And.intro rfl (And.intro rfl trivial))))
set_option maxRecDepth 20000 in
theorem r_X3_forcedBy_8 {E : jm_E} {d : Nat} {μ : jm_M} {Q : Option jm_V → jm_M → Prop} {v1 v3 v4 : Int} (h :
  ((v3 < v4 →
    Q (some (jm_I ((-1)))) μ) ∧
   (¬ (v3 < v4) →
    jc E m_X3_forces d [jm_R 121, jm_R v1, jm_I v4, jm_I 1] μ (fun (o : Option jm_V) (m2 : jm_M) => ∀ r3 : Int, o = some (jm_I r3) → (r3 = 0 ∨ r3 = 1) →
    ((r3 = 0 →
      jg E m_X3_forcedBy d 8 [some (jm_R 121), some (jm_R v1), none, some (jm_I v3), some (jm_I (jm_wr (v4 + 1)))] [] m2 Q) ∧
     (¬ (r3 = 0) →
      Q (some (jm_I v4)) m2)))))) : jg E m_X3_forcedBy d 8 [some (jm_R 121), some (jm_R v1), none, some (jm_I v3), some (jm_I v4)] [] μ Q := by
  refine jm_iload d_X3_forcedBy_8 rfl ?_
  refine jm_iloadn d_X3_forcedBy_10 rfl ?_
  refine jm_icmp_gt (tgt := 34) d_X3_forcedBy_11 (by decide) (fun c1 => ?_) (fun c1 => ?_)
  · have h := h.1 c1
    refine jm_iconst (v := (-1)) d_X3_forcedBy_34 rfl (jm_okI (by decide) (by decide)) ?_
    exact jm_ret (o := some (jm_I _)) d_X3_forcedBy_35 rfl ⟨Nat.le_refl _, Nat.le_refl _⟩ jm_r_I h rfl
  · have h := h.2 c1
    refine jm_aloadn d_X3_forcedBy_14 rfl ?_
    refine jm_aloadn d_X3_forcedBy_15 rfl ?_
    refine jm_iload d_X3_forcedBy_16 rfl ?_
    refine jm_iconst (v := 1) d_X3_forcedBy_18 rfl (jm_okI (by decide) (by decide)) ?_
    refine jm_invV (n1 := jm_N) (mc := 0) (ms := 0) (av := [jm_R _, jm_I _, jm_I _]) w_X3_forces l_X3_79 d_X3_forcedBy_19 rfl is_121 ⟨_, _, rfl⟩ ⟨Nat.le_refl _, Nat.le_refl _⟩ (Nat.le_of_ble_eq_true rfl) rfl ?_
    refine jm_Cl.mono h (fun o m2 h hr _ => ?_)
    obtain ⟨r3, rfl, z4⟩ := jm_rokZ hr
    have h := h _ rfl z4
    refine jm_if_eq (tgt := 28) d_X3_forcedBy_22 (by decide) (fun c5 => ?_) (fun c5 => ?_)
    · have h := h.1 c5
      refine jm_iinc (L' := [some (jm_R _), some (jm_R _), none, some (jm_I _), some (jm_I _)]) d_X3_forcedBy_28 rfl rfl (Nat.le_of_ble_eq_true rfl) rfl ?_
      refine jm_goto (tgt := 8) d_X3_forcedBy_31 (by decide) ?_
      exact h
    · have h := h.2 c5
      refine jm_iload d_X3_forcedBy_25 rfl ?_
      exact jm_ret (o := some (jm_I _)) d_X3_forcedBy_27 rfl ⟨Nat.le_refl _, Nat.le_refl _⟩ jm_r_I h rfl
/-! ('CombTable$Search', 'forces', '(LCombTable$Talk;IZ)Z') -/
theorem d_X3_forces_0 : decode m_X3_forces.2.1 0 = .ok (.aload_n 1, 1) := by decide +kernel
theorem d_X3_forces_1 : decode m_X3_forces.2.1 1 = .ok (.aload_n 0, 1) := by decide +kernel
theorem d_X3_forces_2 : decode m_X3_forces.2.1 2 = .ok (.getfield 30, 3) := by decide +kernel
theorem d_X3_forces_5 : decode m_X3_forces.2.1 5 = .ok (.aload_n 0, 1) := by decide +kernel
theorem d_X3_forces_6 : decode m_X3_forces.2.1 6 = .ok (.getfield 33, 3) := by decide +kernel
theorem d_X3_forces_9 : decode m_X3_forces.2.1 9 = .ok (.invokevirtual 43, 3) := by decide +kernel
theorem d_X3_forces_12 : decode m_X3_forces.2.1 12 = .ok (.ifCond .eq 5, 3) := by decide +kernel
theorem d_X3_forces_15 : decode m_X3_forces.2.1 15 = .ok (.iconst 1, 1) := by decide +kernel
theorem d_X3_forces_16 : decode m_X3_forces.2.1 16 = .ok (.ireturn, 1) := by decide +kernel
theorem d_X3_forces_17 : decode m_X3_forces.2.1 17 = .ok (.iload_n 2, 1) := by decide +kernel
theorem d_X3_forces_18 : decode m_X3_forces.2.1 18 = .ok (.ifCond .le 19, 3) := by decide +kernel
theorem d_X3_forces_21 : decode m_X3_forces.2.1 21 = .ok (.aload_n 1, 1) := by decide +kernel
theorem d_X3_forces_22 : decode m_X3_forces.2.1 22 = .ok (.aload_n 0, 1) := by decide +kernel
theorem d_X3_forces_23 : decode m_X3_forces.2.1 23 = .ok (.getfield 30, 3) := by decide +kernel
theorem d_X3_forces_26 : decode m_X3_forces.2.1 26 = .ok (.aload_n 0, 1) := by decide +kernel
theorem d_X3_forces_27 : decode m_X3_forces.2.1 27 = .ok (.getfield 33, 3) := by decide +kernel
theorem d_X3_forces_30 : decode m_X3_forces.2.1 30 = .ok (.iload_n 2, 1) := by decide +kernel
theorem d_X3_forces_31 : decode m_X3_forces.2.1 31 = .ok (.invokevirtual 49, 3) := by decide +kernel
theorem d_X3_forces_34 : decode m_X3_forces.2.1 34 = .ok (.ifCond .ne 5, 3) := by decide +kernel
theorem d_X3_forces_37 : decode m_X3_forces.2.1 37 = .ok (.iconst 0, 1) := by decide +kernel
theorem d_X3_forces_38 : decode m_X3_forces.2.1 38 = .ok (.ireturn, 1) := by decide +kernel
theorem d_X3_forces_39 : decode m_X3_forces.2.1 39 = .ok (.iconst 0, 1) := by decide +kernel
theorem d_X3_forces_40 : decode m_X3_forces.2.1 40 = .ok (.istore 4, 2) := by decide +kernel
theorem d_X3_forces_42 : decode m_X3_forces.2.1 42 = .ok (.iconst 0, 1) := by decide +kernel
theorem d_X3_forces_43 : decode m_X3_forces.2.1 43 = .ok (.istore 5, 2) := by decide +kernel
theorem d_X3_forces_45 : decode m_X3_forces.2.1 45 = .ok (.iload 5, 2) := by decide +kernel
theorem d_X3_forces_47 : decode m_X3_forces.2.1 47 = .ok (.aload_n 1, 1) := by decide +kernel
theorem d_X3_forces_48 : decode m_X3_forces.2.1 48 = .ok (.getfield 53, 3) := by decide +kernel
theorem d_X3_forces_51 : decode m_X3_forces.2.1 51 = .ok (.getfield 57, 3) := by decide +kernel
theorem d_X3_forces_54 : decode m_X3_forces.2.1 54 = .ok (.if_icmp .ge 120, 3) := by decide +kernel
theorem d_X3_forces_57 : decode m_X3_forces.2.1 57 = .ok (.aload_n 0, 1) := by decide +kernel
theorem d_X3_forces_58 : decode m_X3_forces.2.1 58 = .ok (.getfield 76, 3) := by decide +kernel
theorem d_X3_forces_61 : decode m_X3_forces.2.1 61 = .ok (.iload 5, 2) := by decide +kernel
theorem d_X3_forces_63 : decode m_X3_forces.2.1 63 = .ok (.ishr, 1) := by decide +kernel
theorem d_X3_forces_64 : decode m_X3_forces.2.1 64 = .ok (.iconst 1, 1) := by decide +kernel
theorem d_X3_forces_65 : decode m_X3_forces.2.1 65 = .ok (.iand, 1) := by decide +kernel
theorem d_X3_forces_66 : decode m_X3_forces.2.1 66 = .ok (.ifCond .eq 7, 3) := by decide +kernel
theorem d_X3_forces_69 : decode m_X3_forces.2.1 69 = .ok (.iconst 1, 1) := by decide +kernel
theorem d_X3_forces_70 : decode m_X3_forces.2.1 70 = .ok (.goto 4, 3) := by decide +kernel
theorem d_X3_forces_73 : decode m_X3_forces.2.1 73 = .ok (.iconst 0, 1) := by decide +kernel
theorem d_X3_forces_74 : decode m_X3_forces.2.1 74 = .ok (.istore 6, 2) := by decide +kernel
theorem d_X3_forces_76 : decode m_X3_forces.2.1 76 = .ok (.iload 6, 2) := by decide +kernel
theorem d_X3_forces_78 : decode m_X3_forces.2.1 78 = .ok (.iload_n 3, 1) := by decide +kernel
theorem d_X3_forces_79 : decode m_X3_forces.2.1 79 = .ok (.if_icmp .ne 12, 3) := by decide +kernel
theorem d_X3_forces_82 : decode m_X3_forces.2.1 82 = .ok (.aload_n 1, 1) := by decide +kernel
theorem d_X3_forces_83 : decode m_X3_forces.2.1 83 = .ok (.iload 5, 2) := by decide +kernel
theorem d_X3_forces_85 : decode m_X3_forces.2.1 85 = .ok (.invokevirtual 62, 3) := by decide +kernel
theorem d_X3_forces_88 : decode m_X3_forces.2.1 88 = .ok (.goto 4, 3) := by decide +kernel
theorem d_X3_forces_91 : decode m_X3_forces.2.1 91 = .ok (.iconst 0, 1) := by decide +kernel
theorem d_X3_forces_92 : decode m_X3_forces.2.1 92 = .ok (.istore 7, 2) := by decide +kernel
theorem d_X3_forces_94 : decode m_X3_forces.2.1 94 = .ok (.iconst 0, 1) := by decide +kernel
theorem d_X3_forces_95 : decode m_X3_forces.2.1 95 = .ok (.istore 8, 2) := by decide +kernel
theorem d_X3_forces_97 : decode m_X3_forces.2.1 97 = .ok (.iload 8, 2) := by decide +kernel
theorem d_X3_forces_99 : decode m_X3_forces.2.1 99 = .ok (.aload_n 1, 1) := by decide +kernel
theorem d_X3_forces_100 : decode m_X3_forces.2.1 100 = .ok (.getfield 53, 3) := by decide +kernel
theorem d_X3_forces_103 : decode m_X3_forces.2.1 103 = .ok (.getfield 66, 3) := by decide +kernel
theorem d_X3_forces_106 : decode m_X3_forces.2.1 106 = .ok (.if_icmp .ge 62, 3) := by decide +kernel
theorem d_X3_forces_109 : decode m_X3_forces.2.1 109 = .ok (.iload 7, 2) := by decide +kernel
theorem d_X3_forces_111 : decode m_X3_forces.2.1 111 = .ok (.iload 8, 2) := by decide +kernel
theorem d_X3_forces_113 : decode m_X3_forces.2.1 113 = .ok (.ishr, 1) := by decide +kernel
theorem d_X3_forces_114 : decode m_X3_forces.2.1 114 = .ok (.iconst 1, 1) := by decide +kernel
theorem d_X3_forces_115 : decode m_X3_forces.2.1 115 = .ok (.iand, 1) := by decide +kernel
theorem d_X3_forces_116 : decode m_X3_forces.2.1 116 = .ok (.ifCond .eq 46, 3) := by decide +kernel
theorem d_X3_forces_119 : decode m_X3_forces.2.1 119 = .ok (.iconst 1, 1) := by decide +kernel
theorem d_X3_forces_120 : decode m_X3_forces.2.1 120 = .ok (.istore 4, 2) := by decide +kernel
theorem d_X3_forces_122 : decode m_X3_forces.2.1 122 = .ok (.aload_n 1, 1) := by decide +kernel
theorem d_X3_forces_123 : decode m_X3_forces.2.1 123 = .ok (.iload 5, 2) := by decide +kernel
theorem d_X3_forces_125 : decode m_X3_forces.2.1 125 = .ok (.iload 8, 2) := by decide +kernel
theorem d_X3_forces_127 : decode m_X3_forces.2.1 127 = .ok (.invokevirtual 69, 3) := by decide +kernel
theorem d_X3_forces_130 : decode m_X3_forces.2.1 130 = .ok (.aload_n 0, 1) := by decide +kernel
theorem d_X3_forces_131 : decode m_X3_forces.2.1 131 = .ok (.aload_n 1, 1) := by decide +kernel
theorem d_X3_forces_132 : decode m_X3_forces.2.1 132 = .ok (.iload_n 2, 1) := by decide +kernel
theorem d_X3_forces_133 : decode m_X3_forces.2.1 133 = .ok (.iconst 1, 1) := by decide +kernel
theorem d_X3_forces_134 : decode m_X3_forces.2.1 134 = .ok (.isub, 1) := by decide +kernel
theorem d_X3_forces_135 : decode m_X3_forces.2.1 135 = .ok (.iload_n 3, 1) := by decide +kernel
theorem d_X3_forces_136 : decode m_X3_forces.2.1 136 = .ok (.ifCond .ne 7, 3) := by decide +kernel
theorem d_X3_forces_139 : decode m_X3_forces.2.1 139 = .ok (.iconst 1, 1) := by decide +kernel
theorem d_X3_forces_140 : decode m_X3_forces.2.1 140 = .ok (.goto 4, 3) := by decide +kernel
theorem d_X3_forces_143 : decode m_X3_forces.2.1 143 = .ok (.iconst 0, 1) := by decide +kernel
theorem d_X3_forces_144 : decode m_X3_forces.2.1 144 = .ok (.invokevirtual 79, 3) := by decide +kernel
theorem d_X3_forces_147 : decode m_X3_forces.2.1 147 = .ok (.istore 9, 2) := by decide +kernel
theorem d_X3_forces_149 : decode m_X3_forces.2.1 149 = .ok (.aload_n 1, 1) := by decide +kernel
theorem d_X3_forces_150 : decode m_X3_forces.2.1 150 = .ok (.invokevirtual 73, 3) := by decide +kernel
theorem d_X3_forces_153 : decode m_X3_forces.2.1 153 = .ok (.iload 9, 2) := by decide +kernel
theorem d_X3_forces_155 : decode m_X3_forces.2.1 155 = .ok (.iload_n 3, 1) := by decide +kernel
theorem d_X3_forces_156 : decode m_X3_forces.2.1 156 = .ok (.if_icmp .ne 6, 3) := by decide +kernel
theorem d_X3_forces_159 : decode m_X3_forces.2.1 159 = .ok (.iload 9, 2) := by decide +kernel
theorem d_X3_forces_161 : decode m_X3_forces.2.1 161 = .ok (.ireturn, 1) := by decide +kernel
theorem d_X3_forces_162 : decode m_X3_forces.2.1 162 = .ok (.iinc 8 1, 3) := by decide +kernel
theorem d_X3_forces_165 : decode m_X3_forces.2.1 165 = .ok (.goto (-68), 3) := by decide +kernel
theorem d_X3_forces_168 : decode m_X3_forces.2.1 168 = .ok (.iinc 5 1, 3) := by decide +kernel
theorem d_X3_forces_171 : decode m_X3_forces.2.1 171 = .ok (.goto (-126), 3) := by decide +kernel
theorem d_X3_forces_174 : decode m_X3_forces.2.1 174 = .ok (.iload 4, 2) := by decide +kernel
theorem d_X3_forces_176 : decode m_X3_forces.2.1 176 = .ok (.ifCond .eq 11, 3) := by decide +kernel
theorem d_X3_forces_179 : decode m_X3_forces.2.1 179 = .ok (.iload_n 3, 1) := by decide +kernel
theorem d_X3_forces_180 : decode m_X3_forces.2.1 180 = .ok (.ifCond .ne 7, 3) := by decide +kernel
theorem d_X3_forces_183 : decode m_X3_forces.2.1 183 = .ok (.iconst 1, 1) := by decide +kernel
theorem d_X3_forces_184 : decode m_X3_forces.2.1 184 = .ok (.goto 4, 3) := by decide +kernel
theorem d_X3_forces_187 : decode m_X3_forces.2.1 187 = .ok (.iconst 0, 1) := by decide +kernel
theorem d_X3_forces_188 : decode m_X3_forces.2.1 188 = .ok (.ireturn, 1) := by decide +kernel
set_option maxRecDepth 20000 in
theorem e_X3_forces {E : jm_E} {d : Nat} {μ : jm_M} {Q : Option jm_V → jm_M → Prop} {v1 v2 v3 : Int} (h : (∀ v ∈ ([jm_R 121, jm_R v1, jm_I v2, jm_I v3] : List jm_V), jm_ok v) →
  (jm_is jm_N v1 1 6) ∧
  jc E m_X6_isSo d [jm_R v1, jm_I (μ 121 0), jm_I (μ 121 1)] μ (fun (o : Option jm_V) (m1 : jm_M) => ∀ r3 : Int, o = some (jm_I r3) → (r3 = 0 ∨ r3 = 1) →
  ((r3 = 0 →
    ((v2 ≤ 0 →
      Q (some (jm_I 0)) m1) ∧
     (¬ (v2 ≤ 0) →
      jc E m_X6_mayCome d [jm_R v1, jm_I (m1 121 0), jm_I (m1 121 1), jm_I v2] m1 (fun (o : Option jm_V) (m7 : jm_M) => ∀ r8 : Int, o = some (jm_I r8) → (r8 = 0 ∨ r8 = 1) →
      ((r8 ≠ 0 →
        jg E m_X3_forces d 45 [some (jm_R 121), some (jm_R v1), some (jm_I v2), some (jm_I v3), some (jm_I 0), some (jm_I 0), none, none, none, none] [] m7 Q) ∧
       (¬ (r8 ≠ 0) →
        Q (some (jm_I 0)) m7)))))) ∧
   (¬ (r3 = 0) →
    Q (some (jm_I 1)) m1)))) : jc E m_X3_forces (d + 1) [jm_R 121, jm_R v1, jm_I v2, jm_I v3] μ Q := by
  refine jm_Cl.of2 (by decide +kernel) (L0 := [some (jm_R 121), some (jm_R v1), some (jm_I v2), some (jm_I v3), none, none, none, none, none, none]) rfl (Nat.le_of_ble_eq_true rfl) (fun hok => ?_)
  have h := h hok
  refine jm_aloadn d_X3_forces_0 rfl ?_
  refine jm_aloadn d_X3_forces_1 rfl ?_
  refine jm_getI (k := 0) (ki := 0) cf_X3 (Nat.le_of_ble_eq_true rfl) f_X3_30 d_X3_forces_2 rfl rfl is_121 rfl ?_
  refine jm_aloadn d_X3_forces_5 rfl ?_
  refine jm_getI (k := 1) (ki := 1) cf_X3 (Nat.le_of_ble_eq_true rfl) f_X3_33 d_X3_forces_6 rfl rfl is_121 rfl ?_
  obtain ⟨f2, h⟩ := h
  refine jm_invV (n1 := jm_N) (mc := 0) (ms := 0) (av := [jm_I _, jm_I _]) w_X6_isSo l_X3_43 d_X3_forces_9 rfl f2 ⟨_, _, rfl⟩ ⟨Nat.le_refl _, Nat.le_refl _⟩ (Nat.le_of_ble_eq_true rfl) rfl ?_
  refine jm_Cl.mono h (fun o m1 h hr _ => ?_)
  obtain ⟨r3, rfl, z4⟩ := jm_rokZ hr
  have h := h _ rfl z4
  refine jm_if_eq (tgt := 17) d_X3_forces_12 (by decide) (fun c5 => ?_) (fun c5 => ?_)
  · have h := h.1 c5
    refine jm_iloadn d_X3_forces_17 rfl ?_
    refine jm_if_le (tgt := 37) d_X3_forces_18 (by decide) (fun c6 => ?_) (fun c6 => ?_)
    · have h := h.1 c6
      refine jm_iconst (v := 0) d_X3_forces_37 rfl (jm_okI (by decide) (by decide)) ?_
      exact jm_ret (o := some (jm_I _)) d_X3_forces_38 rfl ⟨Nat.le_refl _, Nat.le_refl _⟩ (jm_r_Z (by decide)) h rfl
    · have h := h.2 c6
      refine jm_aloadn d_X3_forces_21 rfl ?_
      refine jm_aloadn d_X3_forces_22 rfl ?_
      refine jm_getI (k := 0) (ki := 0) cf_X3 (Nat.le_of_ble_eq_true rfl) f_X3_30 d_X3_forces_23 rfl rfl is_121 rfl ?_
      refine jm_aloadn d_X3_forces_26 rfl ?_
      refine jm_getI (k := 1) (ki := 1) cf_X3 (Nat.le_of_ble_eq_true rfl) f_X3_33 d_X3_forces_27 rfl rfl is_121 rfl ?_
      refine jm_iloadn d_X3_forces_30 rfl ?_
      refine jm_invV (n1 := jm_N) (mc := 0) (ms := 0) (av := [jm_I _, jm_I _, jm_I _]) w_X6_mayCome l_X3_49 d_X3_forces_31 rfl f2 ⟨_, _, rfl⟩ ⟨Nat.le_refl _, Nat.le_refl _⟩ (Nat.le_of_ble_eq_true rfl) rfl ?_
      refine jm_Cl.mono h (fun o m7 h hr _ => ?_)
      obtain ⟨r8, rfl, z9⟩ := jm_rokZ hr
      have h := h _ rfl z9
      refine jm_if_ne (tgt := 39) d_X3_forces_34 (by decide) (fun c10 => ?_) (fun c10 => ?_)
      · have h := h.1 c10
        refine jm_iconst (v := 0) d_X3_forces_39 rfl (jm_okI (by decide) (by decide)) ?_
        refine jm_istore (L' := [some (jm_R _), some (jm_R _), some (jm_I _), some (jm_I _), some (jm_I _), none, none, none, none, none]) d_X3_forces_40 (Nat.le_of_ble_eq_true rfl) rfl ?_
        refine jm_iconst (v := 0) d_X3_forces_42 rfl (jm_okI (by decide) (by decide)) ?_
        refine jm_istore (L' := [some (jm_R _), some (jm_R _), some (jm_I _), some (jm_I _), some (jm_I _), some (jm_I _), none, none, none, none]) d_X3_forces_43 (Nat.le_of_ble_eq_true rfl) rfl ?_
        exact h
      · have h := h.2 c10
        refine jm_iconst (v := 0) d_X3_forces_37 rfl (jm_okI (by decide) (by decide)) ?_
        exact jm_ret (o := some (jm_I _)) d_X3_forces_38 rfl ⟨Nat.le_refl _, Nat.le_refl _⟩ (jm_r_Z (by decide)) h rfl
  · have h := h.2 c5
    refine jm_iconst (v := 1) d_X3_forces_15 rfl (jm_okI (by decide) (by decide)) ?_
    exact jm_ret (o := some (jm_I _)) d_X3_forces_16 rfl ⟨Nat.le_refl _, Nat.le_refl _⟩ (jm_r_Z (by decide)) h rfl
set_option maxRecDepth 20000 in
theorem r_X3_forces_45 {E : jm_E} {d : Nat} {μ : jm_M} {Q : Option jm_V → jm_M → Prop} {v1 v2 v3 v4 v5 : Int} (h :
  (jm_is jm_N v1 1 6) ∧
  (jm_is jm_N (μ v1 0) 1 5) ∧
  (((μ (μ v1 0) 1) ≤ v5 →
    ((v4 = 0 →
      Q (some (jm_I 0)) μ) ∧
     (¬ (v4 = 0) →
      ((v3 ≠ 0 →
        Q (some (jm_I 0)) μ) ∧
       (¬ (v3 ≠ 0) →
        Q (some (jm_I 1)) μ))))) ∧
   (¬ ((μ (μ v1 0) 1) ≤ v5) →
    (((jm_and (jm_shr (μ 121 3) v5) 1) = 0 →
      ((0 ≠ v3 →
        jg E m_X3_forces d 97 [some (jm_R 121), some (jm_R v1), some (jm_I v2), some (jm_I v3), some (jm_I v4), some (jm_I v5), none, some (jm_I 0), some (jm_I 0), none] [] μ Q) ∧
       (¬ (0 ≠ v3) →
        jc E m_X6_choices d [jm_R v1, jm_I v5] μ (fun (o : Option jm_V) (m8 : jm_M) => ∀ r9 : Int, o = some (jm_I r9) →
        jg E m_X3_forces d 97 [some (jm_R 121), some (jm_R v1), some (jm_I v2), some (jm_I v3), some (jm_I v4), some (jm_I v5), none, some (jm_I r9), some (jm_I 0), none] [] m8 Q)))) ∧
     (¬ ((jm_and (jm_shr (μ 121 3) v5) 1) = 0) →
      ((1 ≠ v3 →
        jg E m_X3_forces d 97 [some (jm_R 121), some (jm_R v1), some (jm_I v2), some (jm_I v3), some (jm_I v4), some (jm_I v5), none, some (jm_I 0), some (jm_I 0), none] [] μ Q) ∧
       (¬ (1 ≠ v3) →
        jc E m_X6_choices d [jm_R v1, jm_I v5] μ (fun (o : Option jm_V) (m11 : jm_M) => ∀ r12 : Int, o = some (jm_I r12) →
        jg E m_X3_forces d 97 [some (jm_R 121), some (jm_R v1), some (jm_I v2), some (jm_I v3), some (jm_I v4), some (jm_I v5), none, some (jm_I r12), some (jm_I 0), none] [] m11 Q)))))))) : jg E m_X3_forces d 45 [some (jm_R 121), some (jm_R v1), some (jm_I v2), some (jm_I v3), some (jm_I v4), some (jm_I v5), none, none, none, none] [] μ Q := by
  refine jm_iload d_X3_forces_45 rfl ?_
  refine jm_aloadn d_X3_forces_47 rfl ?_
  obtain ⟨f1, h⟩ := h
  refine jm_getR (k := 0) (ki := 0) cf_X6 (Nat.le_of_ble_eq_true rfl) f_X3_53 d_X3_forces_48 rfl rfl f1 rfl ?_
  obtain ⟨f2, h⟩ := h
  refine jm_getI (k := 1) (ki := 1) cf_X5 (Nat.le_of_ble_eq_true rfl) f_X3_57 d_X3_forces_51 rfl rfl f2 rfl ?_
  refine jm_icmp_ge (tgt := 174) d_X3_forces_54 (by decide) (fun c3 => ?_) (fun c3 => ?_)
  · have h := h.1 c3
    refine jm_iload d_X3_forces_174 rfl ?_
    refine jm_if_eq (tgt := 187) d_X3_forces_176 (by decide) (fun c4 => ?_) (fun c4 => ?_)
    · have h := h.1 c4
      refine jm_iconst (v := 0) d_X3_forces_187 rfl (jm_okI (by decide) (by decide)) ?_
      exact jm_ret (o := some (jm_I _)) d_X3_forces_188 rfl ⟨Nat.le_refl _, Nat.le_refl _⟩ (jm_r_Z (by decide)) h rfl
    · have h := h.2 c4
      refine jm_iloadn d_X3_forces_179 rfl ?_
      refine jm_if_ne (tgt := 187) d_X3_forces_180 (by decide) (fun c5 => ?_) (fun c5 => ?_)
      · have h := h.1 c5
        refine jm_iconst (v := 0) d_X3_forces_187 rfl (jm_okI (by decide) (by decide)) ?_
        exact jm_ret (o := some (jm_I _)) d_X3_forces_188 rfl ⟨Nat.le_refl _, Nat.le_refl _⟩ (jm_r_Z (by decide)) h rfl
      · have h := h.2 c5
        refine jm_iconst (v := 1) d_X3_forces_183 rfl (jm_okI (by decide) (by decide)) ?_
        refine jm_goto (tgt := 188) d_X3_forces_184 (by decide) ?_
        exact jm_ret (o := some (jm_I _)) d_X3_forces_188 rfl ⟨Nat.le_refl _, Nat.le_refl _⟩ (jm_r_Z (by decide)) h rfl
  · have h := h.2 c3
    refine jm_aloadn d_X3_forces_57 rfl ?_
    refine jm_getI (k := 3) (ki := 3) cf_X3 (Nat.le_of_ble_eq_true rfl) f_X3_76 d_X3_forces_58 rfl rfl is_121 rfl ?_
    refine jm_iload d_X3_forces_61 rfl ?_
    refine jm_ishr d_X3_forces_63 ?_
    refine jm_iconst (v := 1) d_X3_forces_64 rfl (jm_okI (by decide) (by decide)) ?_
    refine jm_iand d_X3_forces_65 ?_
    refine jm_if_eq (tgt := 73) d_X3_forces_66 (by decide) (fun c6 => ?_) (fun c6 => ?_)
    · have h := h.1 c6
      refine jm_iconst (v := 0) d_X3_forces_73 rfl (jm_okI (by decide) (by decide)) ?_
      refine jm_istore (L' := [some (jm_R _), some (jm_R _), some (jm_I _), some (jm_I _), some (jm_I _), some (jm_I _), some (jm_I _), none, none, none]) d_X3_forces_74 (Nat.le_of_ble_eq_true rfl) rfl ?_
      refine jm_iload d_X3_forces_76 rfl ?_
      refine jm_iloadn d_X3_forces_78 rfl ?_
      refine jm_icmp_ne (tgt := 91) d_X3_forces_79 (by decide) (fun c7 => ?_) (fun c7 => ?_)
      · have h := h.1 c7
        refine jm_iconst (v := 0) d_X3_forces_91 rfl (jm_okI (by decide) (by decide)) ?_
        refine jm_istore (L' := [some (jm_R _), some (jm_R _), some (jm_I _), some (jm_I _), some (jm_I _), some (jm_I _), some (jm_I _), some (jm_I _), none, none]) d_X3_forces_92 (Nat.le_of_ble_eq_true rfl) rfl ?_
        refine jm_iconst (v := 0) d_X3_forces_94 rfl (jm_okI (by decide) (by decide)) ?_
        refine jm_istore (L' := [some (jm_R _), some (jm_R _), some (jm_I _), some (jm_I _), some (jm_I _), some (jm_I _), some (jm_I _), some (jm_I _), some (jm_I _), none]) d_X3_forces_95 (Nat.le_of_ble_eq_true rfl) rfl ?_
        exact jm_weak2 h (And.intro rfl (And.intro rfl (And.intro rfl (And.intro rfl (And.intro rfl (And.intro rfl (And.intro rfl (And.intro rfl trivial))))))))
      · have h := h.2 c7
        refine jm_aloadn d_X3_forces_82 rfl ?_
        refine jm_iload d_X3_forces_83 rfl ?_
        refine jm_invV (n1 := jm_N) (mc := 0) (ms := 0) (av := [jm_I _]) w_X6_choices l_X3_62 d_X3_forces_85 rfl f1 ⟨_, _, rfl⟩ ⟨Nat.le_refl _, Nat.le_refl _⟩ (Nat.le_of_ble_eq_true rfl) rfl ?_
        refine jm_Cl.mono h (fun o m8 h hr _ => ?_)
        obtain ⟨r9, rfl⟩ := jm_rokI hr
        have h := h _ rfl
        refine jm_goto (tgt := 92) d_X3_forces_88 (by decide) ?_
        refine jm_istore (L' := [some (jm_R _), some (jm_R _), some (jm_I _), some (jm_I _), some (jm_I _), some (jm_I _), some (jm_I _), some (jm_I _), none, none]) d_X3_forces_92 (Nat.le_of_ble_eq_true rfl) rfl ?_
        refine jm_iconst (v := 0) d_X3_forces_94 rfl (jm_okI (by decide) (by decide)) ?_
        refine jm_istore (L' := [some (jm_R _), some (jm_R _), some (jm_I _), some (jm_I _), some (jm_I _), some (jm_I _), some (jm_I _), some (jm_I _), some (jm_I _), none]) d_X3_forces_95 (Nat.le_of_ble_eq_true rfl) rfl ?_
        exact jm_weak2 h (And.intro rfl (And.intro rfl (And.intro rfl (And.intro rfl (And.intro rfl (And.intro rfl (And.intro rfl (And.intro rfl trivial))))))))
    · have h := h.2 c6
      refine jm_iconst (v := 1) d_X3_forces_69 rfl (jm_okI (by decide) (by decide)) ?_
      refine jm_goto (tgt := 74) d_X3_forces_70 (by decide) ?_
      refine jm_istore (L' := [some (jm_R _), some (jm_R _), some (jm_I _), some (jm_I _), some (jm_I _), some (jm_I _), some (jm_I _), none, none, none]) d_X3_forces_74 (Nat.le_of_ble_eq_true rfl) rfl ?_
      refine jm_iload d_X3_forces_76 rfl ?_
      refine jm_iloadn d_X3_forces_78 rfl ?_
      refine jm_icmp_ne (tgt := 91) d_X3_forces_79 (by decide) (fun c10 => ?_) (fun c10 => ?_)
      · have h := h.1 c10
        refine jm_iconst (v := 0) d_X3_forces_91 rfl (jm_okI (by decide) (by decide)) ?_
        refine jm_istore (L' := [some (jm_R _), some (jm_R _), some (jm_I _), some (jm_I _), some (jm_I _), some (jm_I _), some (jm_I _), some (jm_I _), none, none]) d_X3_forces_92 (Nat.le_of_ble_eq_true rfl) rfl ?_
        refine jm_iconst (v := 0) d_X3_forces_94 rfl (jm_okI (by decide) (by decide)) ?_
        refine jm_istore (L' := [some (jm_R _), some (jm_R _), some (jm_I _), some (jm_I _), some (jm_I _), some (jm_I _), some (jm_I _), some (jm_I _), some (jm_I _), none]) d_X3_forces_95 (Nat.le_of_ble_eq_true rfl) rfl ?_
        exact jm_weak2 h (And.intro rfl (And.intro rfl (And.intro rfl (And.intro rfl (And.intro rfl (And.intro rfl (And.intro rfl (And.intro rfl trivial))))))))
      · have h := h.2 c10
        refine jm_aloadn d_X3_forces_82 rfl ?_
        refine jm_iload d_X3_forces_83 rfl ?_
        refine jm_invV (n1 := jm_N) (mc := 0) (ms := 0) (av := [jm_I _]) w_X6_choices l_X3_62 d_X3_forces_85 rfl f1 ⟨_, _, rfl⟩ ⟨Nat.le_refl _, Nat.le_refl _⟩ (Nat.le_of_ble_eq_true rfl) rfl ?_
        refine jm_Cl.mono h (fun o m11 h hr _ => ?_)
        obtain ⟨r12, rfl⟩ := jm_rokI hr
        have h := h _ rfl
        refine jm_goto (tgt := 92) d_X3_forces_88 (by decide) ?_
        refine jm_istore (L' := [some (jm_R _), some (jm_R _), some (jm_I _), some (jm_I _), some (jm_I _), some (jm_I _), some (jm_I _), some (jm_I _), none, none]) d_X3_forces_92 (Nat.le_of_ble_eq_true rfl) rfl ?_
        refine jm_iconst (v := 0) d_X3_forces_94 rfl (jm_okI (by decide) (by decide)) ?_
        refine jm_istore (L' := [some (jm_R _), some (jm_R _), some (jm_I _), some (jm_I _), some (jm_I _), some (jm_I _), some (jm_I _), some (jm_I _), some (jm_I _), none]) d_X3_forces_95 (Nat.le_of_ble_eq_true rfl) rfl ?_
        exact jm_weak2 h (And.intro rfl (And.intro rfl (And.intro rfl (And.intro rfl (And.intro rfl (And.intro rfl (And.intro rfl (And.intro rfl trivial))))))))
set_option maxRecDepth 20000 in
theorem r_X3_forces_97 {E : jm_E} {d : Nat} {μ : jm_M} {Q : Option jm_V → jm_M → Prop} {v1 v2 v3 v4 v5 v7 v8 : Int} (h :
  (jm_is jm_N v1 1 6) ∧
  (jm_is jm_N (μ v1 0) 1 5) ∧
  (((μ (μ v1 0) 4) ≤ v8 →
    jg E m_X3_forces d 45 [some (jm_R 121), some (jm_R v1), some (jm_I v2), some (jm_I v3), some (jm_I v4), some (jm_I (jm_wr (v5 + 1))), none, none, none, none] [] μ Q) ∧
   (¬ ((μ (μ v1 0) 4) ≤ v8) →
    (((jm_and (jm_shr v7 v8) 1) = 0 →
      jg E m_X3_forces d 97 [some (jm_R 121), some (jm_R v1), some (jm_I v2), some (jm_I v3), some (jm_I v4), some (jm_I v5), none, some (jm_I v7), some (jm_I (jm_wr (v8 + 1))), none] [] μ Q) ∧
     (¬ ((jm_and (jm_shr v7 v8) 1) = 0) →
      jc E m_X6_add d [jm_R v1, jm_I v5, jm_I v8] μ (fun (o : Option jm_V) (m5 : jm_M) => o = none →
      ((v3 ≠ 0 →
        jc E m_X3_forces d [jm_R 121, jm_R v1, jm_I (jm_wr (v2 - 1)), jm_I 0] m5 (fun (o : Option jm_V) (m7 : jm_M) => ∀ r8 : Int, o = some (jm_I r8) → (r8 = 0 ∨ r8 = 1) →
        jc E m_X6_takeBack d [jm_R v1] m7 (fun (o : Option jm_V) (m10 : jm_M) => o = none →
        ((r8 ≠ v3 →
          jg E m_X3_forces d 97 [some (jm_R 121), some (jm_R v1), some (jm_I v2), some (jm_I v3), some (jm_I 1), some (jm_I v5), none, some (jm_I v7), some (jm_I (jm_wr (v8 + 1))), none] [] m10 Q) ∧
         (¬ (r8 ≠ v3) →
          Q (some (jm_I r8)) m10))))) ∧
       (¬ (v3 ≠ 0) →
        jc E m_X3_forces d [jm_R 121, jm_R v1, jm_I (jm_wr (v2 - 1)), jm_I 1] m5 (fun (o : Option jm_V) (m12 : jm_M) => ∀ r13 : Int, o = some (jm_I r13) → (r13 = 0 ∨ r13 = 1) →
        jc E m_X6_takeBack d [jm_R v1] m12 (fun (o : Option jm_V) (m15 : jm_M) => o = none →
        ((r13 ≠ v3 →
          jg E m_X3_forces d 97 [some (jm_R 121), some (jm_R v1), some (jm_I v2), some (jm_I v3), some (jm_I 1), some (jm_I v5), none, some (jm_I v7), some (jm_I (jm_wr (v8 + 1))), none] [] m15 Q) ∧
         (¬ (r13 ≠ v3) →
          Q (some (jm_I r13)) m15)))))))))))) : jg E m_X3_forces d 97 [some (jm_R 121), some (jm_R v1), some (jm_I v2), some (jm_I v3), some (jm_I v4), some (jm_I v5), none, some (jm_I v7), some (jm_I v8), none] [] μ Q := by
  refine jm_iload d_X3_forces_97 rfl ?_
  refine jm_aloadn d_X3_forces_99 rfl ?_
  obtain ⟨f1, h⟩ := h
  refine jm_getR (k := 0) (ki := 0) cf_X6 (Nat.le_of_ble_eq_true rfl) f_X3_53 d_X3_forces_100 rfl rfl f1 rfl ?_
  obtain ⟨f2, h⟩ := h
  refine jm_getI (k := 4) (ki := 4) cf_X5 (Nat.le_of_ble_eq_true rfl) f_X3_66 d_X3_forces_103 rfl rfl f2 rfl ?_
  refine jm_icmp_ge (tgt := 168) d_X3_forces_106 (by decide) (fun c3 => ?_) (fun c3 => ?_)
  · have h := h.1 c3
    refine jm_iinc (L' := [some (jm_R _), some (jm_R _), some (jm_I _), some (jm_I _), some (jm_I _), some (jm_I _), none, some (jm_I _), some (jm_I _), none]) d_X3_forces_168 rfl rfl (Nat.le_of_ble_eq_true rfl) rfl ?_
    refine jm_goto (tgt := 45) d_X3_forces_171 (by decide) ?_
    exact jm_weak2 h (And.intro rfl (And.intro rfl (And.intro rfl (And.intro rfl (And.intro rfl (And.intro rfl trivial))))))
  · have h := h.2 c3
    refine jm_iload d_X3_forces_109 rfl ?_
    refine jm_iload d_X3_forces_111 rfl ?_
    refine jm_ishr d_X3_forces_113 ?_
    refine jm_iconst (v := 1) d_X3_forces_114 rfl (jm_okI (by decide) (by decide)) ?_
    refine jm_iand d_X3_forces_115 ?_
    refine jm_if_eq (tgt := 162) d_X3_forces_116 (by decide) (fun c4 => ?_) (fun c4 => ?_)
    · have h := h.1 c4
      refine jm_iinc (L' := [some (jm_R _), some (jm_R _), some (jm_I _), some (jm_I _), some (jm_I _), some (jm_I _), none, some (jm_I _), some (jm_I _), none]) d_X3_forces_162 rfl rfl (Nat.le_of_ble_eq_true rfl) rfl ?_
      refine jm_goto (tgt := 97) d_X3_forces_165 (by decide) ?_
      exact h
    · have h := h.2 c4
      refine jm_iconst (v := 1) d_X3_forces_119 rfl (jm_okI (by decide) (by decide)) ?_
      refine jm_istore (L' := [some (jm_R _), some (jm_R _), some (jm_I _), some (jm_I _), some (jm_I _), some (jm_I _), none, some (jm_I _), some (jm_I _), none]) d_X3_forces_120 (Nat.le_of_ble_eq_true rfl) rfl ?_
      refine jm_aloadn d_X3_forces_122 rfl ?_
      refine jm_iload d_X3_forces_123 rfl ?_
      refine jm_iload d_X3_forces_125 rfl ?_
      refine jm_invV (n1 := jm_N) (mc := 0) (ms := 0) (av := [jm_I _, jm_I _]) w_X6_add l_X3_69 d_X3_forces_127 rfl f1 ⟨_, _, rfl⟩ ⟨Nat.le_refl _, Nat.le_refl _⟩ (Nat.le_of_ble_eq_true rfl) rfl ?_
      refine jm_Cl.mono h (fun o m5 h hr _ => ?_)
      obtain rfl := jm_rokV hr
      have h := h rfl
      refine jm_aloadn d_X3_forces_130 rfl ?_
      refine jm_aloadn d_X3_forces_131 rfl ?_
      refine jm_iloadn d_X3_forces_132 rfl ?_
      refine jm_iconst (v := 1) d_X3_forces_133 rfl (jm_okI (by decide) (by decide)) ?_
      refine jm_isub d_X3_forces_134 ?_
      refine jm_iloadn d_X3_forces_135 rfl ?_
      refine jm_if_ne (tgt := 143) d_X3_forces_136 (by decide) (fun c6 => ?_) (fun c6 => ?_)
      · have h := h.1 c6
        refine jm_iconst (v := 0) d_X3_forces_143 rfl (jm_okI (by decide) (by decide)) ?_
        refine jm_invV (n1 := jm_N) (mc := 0) (ms := 0) (av := [jm_R _, jm_I _, jm_I _]) w_X3_forces l_X3_79 d_X3_forces_144 rfl is_121 ⟨_, _, rfl⟩ ⟨Nat.le_refl _, Nat.le_refl _⟩ (Nat.le_of_ble_eq_true rfl) rfl ?_
        refine jm_Cl.mono h (fun o m7 h hr _ => ?_)
        obtain ⟨r8, rfl, z9⟩ := jm_rokZ hr
        have h := h _ rfl z9
        refine jm_istore (L' := [some (jm_R _), some (jm_R _), some (jm_I _), some (jm_I _), some (jm_I _), some (jm_I _), none, some (jm_I _), some (jm_I _), some (jm_I _)]) d_X3_forces_147 (Nat.le_of_ble_eq_true rfl) rfl ?_
        refine jm_aloadn d_X3_forces_149 rfl ?_
        refine jm_invV (n1 := jm_N) (mc := 0) (ms := 0) (av := []) w_X6_takeBack l_X3_73 d_X3_forces_150 rfl f1 ⟨_, _, rfl⟩ ⟨Nat.le_refl _, Nat.le_refl _⟩ (Nat.le_of_ble_eq_true rfl) rfl ?_
        refine jm_Cl.mono h (fun o m10 h hr _ => ?_)
        obtain rfl := jm_rokV hr
        have h := h rfl
        refine jm_iload d_X3_forces_153 rfl ?_
        refine jm_iloadn d_X3_forces_155 rfl ?_
        refine jm_icmp_ne (tgt := 162) d_X3_forces_156 (by decide) (fun c11 => ?_) (fun c11 => ?_)
        · have h := h.1 c11
          refine jm_iinc (L' := [some (jm_R _), some (jm_R _), some (jm_I _), some (jm_I _), some (jm_I _), some (jm_I _), none, some (jm_I _), some (jm_I _), some (jm_I _)]) d_X3_forces_162 rfl rfl (Nat.le_of_ble_eq_true rfl) rfl ?_
          refine jm_goto (tgt := 97) d_X3_forces_165 (by decide) ?_
          exact jm_weak2 h (And.intro rfl (And.intro rfl (And.intro rfl (And.intro rfl (And.intro rfl (And.intro rfl (And.intro rfl (And.intro rfl trivial))))))))
        · have h := h.2 c11
          refine jm_iload d_X3_forces_159 rfl ?_
          exact jm_ret (o := some (jm_I _)) d_X3_forces_161 rfl ⟨Nat.le_refl _, Nat.le_refl _⟩ (jm_r_Z z9) h rfl
      · have h := h.2 c6
        refine jm_iconst (v := 1) d_X3_forces_139 rfl (jm_okI (by decide) (by decide)) ?_
        refine jm_goto (tgt := 144) d_X3_forces_140 (by decide) ?_
        refine jm_invV (n1 := jm_N) (mc := 0) (ms := 0) (av := [jm_R _, jm_I _, jm_I _]) w_X3_forces l_X3_79 d_X3_forces_144 rfl is_121 ⟨_, _, rfl⟩ ⟨Nat.le_refl _, Nat.le_refl _⟩ (Nat.le_of_ble_eq_true rfl) rfl ?_
        refine jm_Cl.mono h (fun o m12 h hr _ => ?_)
        obtain ⟨r13, rfl, z14⟩ := jm_rokZ hr
        have h := h _ rfl z14
        refine jm_istore (L' := [some (jm_R _), some (jm_R _), some (jm_I _), some (jm_I _), some (jm_I _), some (jm_I _), none, some (jm_I _), some (jm_I _), some (jm_I _)]) d_X3_forces_147 (Nat.le_of_ble_eq_true rfl) rfl ?_
        refine jm_aloadn d_X3_forces_149 rfl ?_
        refine jm_invV (n1 := jm_N) (mc := 0) (ms := 0) (av := []) w_X6_takeBack l_X3_73 d_X3_forces_150 rfl f1 ⟨_, _, rfl⟩ ⟨Nat.le_refl _, Nat.le_refl _⟩ (Nat.le_of_ble_eq_true rfl) rfl ?_
        refine jm_Cl.mono h (fun o m15 h hr _ => ?_)
        obtain rfl := jm_rokV hr
        have h := h rfl
        refine jm_iload d_X3_forces_153 rfl ?_
        refine jm_iloadn d_X3_forces_155 rfl ?_
        refine jm_icmp_ne (tgt := 162) d_X3_forces_156 (by decide) (fun c16 => ?_) (fun c16 => ?_)
        · have h := h.1 c16
          refine jm_iinc (L' := [some (jm_R _), some (jm_R _), some (jm_I _), some (jm_I _), some (jm_I _), some (jm_I _), none, some (jm_I _), some (jm_I _), some (jm_I _)]) d_X3_forces_162 rfl rfl (Nat.le_of_ble_eq_true rfl) rfl ?_
          refine jm_goto (tgt := 97) d_X3_forces_165 (by decide) ?_
          exact jm_weak2 h (And.intro rfl (And.intro rfl (And.intro rfl (And.intro rfl (And.intro rfl (And.intro rfl (And.intro rfl (And.intro rfl trivial))))))))
        · have h := h.2 c16
          refine jm_iload d_X3_forces_159 rfl ?_
          exact jm_ret (o := some (jm_I _)) d_X3_forces_161 rfl ⟨Nat.le_refl _, Nat.le_refl _⟩ (jm_r_Z z14) h rfl
/-! ('CombTable$Search', 'difference', '(LCombTable$Talk;LCombTable$Talk;I)I') -/
theorem d_X3_difference_0 : decode m_X3_difference.2.1 0 = .ok (.iconst 1, 1) := by decide +kernel
theorem d_X3_difference_1 : decode m_X3_difference.2.1 1 = .ok (.istore 4, 2) := by decide +kernel
theorem d_X3_difference_3 : decode m_X3_difference.2.1 3 = .ok (.iload 4, 2) := by decide +kernel
theorem d_X3_difference_5 : decode m_X3_difference.2.1 5 = .ok (.iload_n 3, 1) := by decide +kernel
theorem d_X3_difference_6 : decode m_X3_difference.2.1 6 = .ok (.if_icmp .gt 24, 3) := by decide +kernel
theorem d_X3_difference_9 : decode m_X3_difference.2.1 9 = .ok (.aload_n 0, 1) := by decide +kernel
theorem d_X3_difference_10 : decode m_X3_difference.2.1 10 = .ok (.aload_n 1, 1) := by decide +kernel
theorem d_X3_difference_11 : decode m_X3_difference.2.1 11 = .ok (.aload_n 2, 1) := by decide +kernel
theorem d_X3_difference_12 : decode m_X3_difference.2.1 12 = .ok (.iconst 0, 1) := by decide +kernel
theorem d_X3_difference_13 : decode m_X3_difference.2.1 13 = .ok (.iload 4, 2) := by decide +kernel
theorem d_X3_difference_15 : decode m_X3_difference.2.1 15 = .ok (.invokevirtual 83, 3) := by decide +kernel
theorem d_X3_difference_18 : decode m_X3_difference.2.1 18 = .ok (.ifCond .eq 6, 3) := by decide +kernel
theorem d_X3_difference_21 : decode m_X3_difference.2.1 21 = .ok (.iload 4, 2) := by decide +kernel
theorem d_X3_difference_23 : decode m_X3_difference.2.1 23 = .ok (.ireturn, 1) := by decide +kernel
theorem d_X3_difference_24 : decode m_X3_difference.2.1 24 = .ok (.iinc 4 1, 3) := by decide +kernel
theorem d_X3_difference_27 : decode m_X3_difference.2.1 27 = .ok (.goto (-24), 3) := by decide +kernel
theorem d_X3_difference_30 : decode m_X3_difference.2.1 30 = .ok (.iconst 0, 1) := by decide +kernel
theorem d_X3_difference_31 : decode m_X3_difference.2.1 31 = .ok (.ireturn, 1) := by decide +kernel
set_option maxRecDepth 20000 in
theorem e_X3_difference {E : jm_E} {d : Nat} {μ : jm_M} {Q : Option jm_V → jm_M → Prop} {v1 v2 v3 : Int} (h : (∀ v ∈ ([jm_R 121, jm_R v1, jm_R v2, jm_I v3] : List jm_V), jm_ok v) →
  jg E m_X3_difference d 3 [some (jm_R 121), some (jm_R v1), some (jm_R v2), some (jm_I v3), some (jm_I 1)] [] μ Q) : jc E m_X3_difference (d + 1) [jm_R 121, jm_R v1, jm_R v2, jm_I v3] μ Q := by
  refine jm_Cl.of2 (by decide +kernel) (L0 := [some (jm_R 121), some (jm_R v1), some (jm_R v2), some (jm_I v3), none]) rfl (Nat.le_of_ble_eq_true rfl) (fun hok => ?_)
  have h := h hok
  refine jm_iconst (v := 1) d_X3_difference_0 rfl (jm_okI (by decide) (by decide)) ?_
  refine jm_istore (L' := [some (jm_R _), some (jm_R _), some (jm_R _), some (jm_I _), some (jm_I _)]) d_X3_difference_1 (Nat.le_of_ble_eq_true rfl) rfl ?_
  exact h
set_option maxRecDepth 20000 in
theorem r_X3_difference_3 {E : jm_E} {d : Nat} {μ : jm_M} {Q : Option jm_V → jm_M → Prop} {v1 v2 v3 v4 : Int} (h :
  ((v3 < v4 →
    Q (some (jm_I 0)) μ) ∧
   (¬ (v3 < v4) →
    jc E m_X3_differs d [jm_R 121, jm_R v1, jm_R v2, jm_I 0, jm_I v4] μ (fun (o : Option jm_V) (m2 : jm_M) => ∀ r3 : Int, o = some (jm_I r3) → (r3 = 0 ∨ r3 = 1) →
    ((r3 = 0 →
      jg E m_X3_difference d 3 [some (jm_R 121), some (jm_R v1), some (jm_R v2), some (jm_I v3), some (jm_I (jm_wr (v4 + 1)))] [] m2 Q) ∧
     (¬ (r3 = 0) →
      Q (some (jm_I v4)) m2)))))) : jg E m_X3_difference d 3 [some (jm_R 121), some (jm_R v1), some (jm_R v2), some (jm_I v3), some (jm_I v4)] [] μ Q := by
  refine jm_iload d_X3_difference_3 rfl ?_
  refine jm_iloadn d_X3_difference_5 rfl ?_
  refine jm_icmp_gt (tgt := 30) d_X3_difference_6 (by decide) (fun c1 => ?_) (fun c1 => ?_)
  · have h := h.1 c1
    refine jm_iconst (v := 0) d_X3_difference_30 rfl (jm_okI (by decide) (by decide)) ?_
    exact jm_ret (o := some (jm_I _)) d_X3_difference_31 rfl ⟨Nat.le_refl _, Nat.le_refl _⟩ jm_r_I h rfl
  · have h := h.2 c1
    refine jm_aloadn d_X3_difference_9 rfl ?_
    refine jm_aloadn d_X3_difference_10 rfl ?_
    refine jm_aloadn d_X3_difference_11 rfl ?_
    refine jm_iconst (v := 0) d_X3_difference_12 rfl (jm_okI (by decide) (by decide)) ?_
    refine jm_iload d_X3_difference_13 rfl ?_
    refine jm_invV (n1 := jm_N) (mc := 0) (ms := 0) (av := [jm_R _, jm_R _, jm_I _, jm_I _]) w_X3_differs l_X3_83 d_X3_difference_15 rfl is_121 ⟨_, _, rfl⟩ ⟨Nat.le_refl _, Nat.le_refl _⟩ (Nat.le_of_ble_eq_true rfl) rfl ?_
    refine jm_Cl.mono h (fun o m2 h hr _ => ?_)
    obtain ⟨r3, rfl, z4⟩ := jm_rokZ hr
    have h := h _ rfl z4
    refine jm_if_eq (tgt := 24) d_X3_difference_18 (by decide) (fun c5 => ?_) (fun c5 => ?_)
    · have h := h.1 c5
      refine jm_iinc (L' := [some (jm_R _), some (jm_R _), some (jm_R _), some (jm_I _), some (jm_I _)]) d_X3_difference_24 rfl rfl (Nat.le_of_ble_eq_true rfl) rfl ?_
      refine jm_goto (tgt := 3) d_X3_difference_27 (by decide) ?_
      exact h
    · have h := h.2 c5
      refine jm_iload d_X3_difference_21 rfl ?_
      exact jm_ret (o := some (jm_I _)) d_X3_difference_23 rfl ⟨Nat.le_refl _, Nat.le_refl _⟩ jm_r_I h rfl
/-! ('CombTable$Search', 'differs', '(LCombTable$Talk;LCombTable$Talk;II)Z') -/
theorem d_X3_differs_0 : decode m_X3_differs.2.1 0 = .ok (.iload_n 3, 1) := by decide +kernel
theorem d_X3_differs_1 : decode m_X3_differs.2.1 1 = .ok (.bipush 8, 2) := by decide +kernel
theorem d_X3_differs_3 : decode m_X3_differs.2.1 3 = .ok (.if_icmp .lt 5, 3) := by decide +kernel
theorem d_X3_differs_6 : decode m_X3_differs.2.1 6 = .ok (.iconst 0, 1) := by decide +kernel
theorem d_X3_differs_7 : decode m_X3_differs.2.1 7 = .ok (.ireturn, 1) := by decide +kernel
theorem d_X3_differs_8 : decode m_X3_differs.2.1 8 = .ok (.aload_n 1, 1) := by decide +kernel
theorem d_X3_differs_9 : decode m_X3_differs.2.1 9 = .ok (.getfield 53, 3) := by decide +kernel
theorem d_X3_differs_12 : decode m_X3_differs.2.1 12 = .ok (.getfield 57, 3) := by decide +kernel
theorem d_X3_differs_15 : decode m_X3_differs.2.1 15 = .ok (.aload_n 2, 1) := by decide +kernel
theorem d_X3_differs_16 : decode m_X3_differs.2.1 16 = .ok (.getfield 53, 3) := by decide +kernel
theorem d_X3_differs_19 : decode m_X3_differs.2.1 19 = .ok (.getfield 57, 3) := by decide +kernel
theorem d_X3_differs_22 : decode m_X3_differs.2.1 22 = .ok (.invokestatic 87, 3) := by decide +kernel
theorem d_X3_differs_25 : decode m_X3_differs.2.1 25 = .ok (.istore 5, 2) := by decide +kernel
theorem d_X3_differs_27 : decode m_X3_differs.2.1 27 = .ok (.aload_n 1, 1) := by decide +kernel
theorem d_X3_differs_28 : decode m_X3_differs.2.1 28 = .ok (.getfield 53, 3) := by decide +kernel
theorem d_X3_differs_31 : decode m_X3_differs.2.1 31 = .ok (.getfield 66, 3) := by decide +kernel
theorem d_X3_differs_34 : decode m_X3_differs.2.1 34 = .ok (.aload_n 2, 1) := by decide +kernel
theorem d_X3_differs_35 : decode m_X3_differs.2.1 35 = .ok (.getfield 53, 3) := by decide +kernel
theorem d_X3_differs_38 : decode m_X3_differs.2.1 38 = .ok (.getfield 66, 3) := by decide +kernel
theorem d_X3_differs_41 : decode m_X3_differs.2.1 41 = .ok (.invokestatic 87, 3) := by decide +kernel
theorem d_X3_differs_44 : decode m_X3_differs.2.1 44 = .ok (.istore 6, 2) := by decide +kernel
theorem d_X3_differs_46 : decode m_X3_differs.2.1 46 = .ok (.iconst 0, 1) := by decide +kernel
theorem d_X3_differs_47 : decode m_X3_differs.2.1 47 = .ok (.istore 7, 2) := by decide +kernel
theorem d_X3_differs_49 : decode m_X3_differs.2.1 49 = .ok (.iload 7, 2) := by decide +kernel
theorem d_X3_differs_51 : decode m_X3_differs.2.1 51 = .ok (.iload 5, 2) := by decide +kernel
theorem d_X3_differs_53 : decode m_X3_differs.2.1 53 = .ok (.if_icmp .ge 137, 3) := by decide +kernel
theorem d_X3_differs_56 : decode m_X3_differs.2.1 56 = .ok (.iconst 0, 1) := by decide +kernel
theorem d_X3_differs_57 : decode m_X3_differs.2.1 57 = .ok (.istore 8, 2) := by decide +kernel
theorem d_X3_differs_59 : decode m_X3_differs.2.1 59 = .ok (.iload 8, 2) := by decide +kernel
theorem d_X3_differs_61 : decode m_X3_differs.2.1 61 = .ok (.iload 6, 2) := by decide +kernel
theorem d_X3_differs_63 : decode m_X3_differs.2.1 63 = .ok (.if_icmp .ge 121, 3) := by decide +kernel
theorem d_X3_differs_66 : decode m_X3_differs.2.1 66 = .ok (.aload_n 1, 1) := by decide +kernel
theorem d_X3_differs_67 : decode m_X3_differs.2.1 67 = .ok (.iload 7, 2) := by decide +kernel
theorem d_X3_differs_69 : decode m_X3_differs.2.1 69 = .ok (.iload 8, 2) := by decide +kernel
theorem d_X3_differs_71 : decode m_X3_differs.2.1 71 = .ok (.invokevirtual 93, 3) := by decide +kernel
theorem d_X3_differs_74 : decode m_X3_differs.2.1 74 = .ok (.ifCond .ne 7, 3) := by decide +kernel
theorem d_X3_differs_77 : decode m_X3_differs.2.1 77 = .ok (.iconst 1, 1) := by decide +kernel
theorem d_X3_differs_78 : decode m_X3_differs.2.1 78 = .ok (.goto 4, 3) := by decide +kernel
theorem d_X3_differs_81 : decode m_X3_differs.2.1 81 = .ok (.iconst 0, 1) := by decide +kernel
theorem d_X3_differs_82 : decode m_X3_differs.2.1 82 = .ok (.istore 9, 2) := by decide +kernel
theorem d_X3_differs_84 : decode m_X3_differs.2.1 84 = .ok (.aload_n 0, 1) := by decide +kernel
theorem d_X3_differs_85 : decode m_X3_differs.2.1 85 = .ok (.getfield 9, 3) := by decide +kernel
theorem d_X3_differs_88 : decode m_X3_differs.2.1 88 = .ok (.iload_n 3, 1) := by decide +kernel
theorem d_X3_differs_89 : decode m_X3_differs.2.1 89 = .ok (.bipush 16, 2) := by decide +kernel
theorem d_X3_differs_91 : decode m_X3_differs.2.1 91 = .ok (.iload 7, 2) := by decide +kernel
theorem d_X3_differs_93 : decode m_X3_differs.2.1 93 = .ok (.imul, 1) := by decide +kernel
theorem d_X3_differs_94 : decode m_X3_differs.2.1 94 = .ok (.iload 8, 2) := by decide +kernel
theorem d_X3_differs_96 : decode m_X3_differs.2.1 96 = .ok (.iadd, 1) := by decide +kernel
theorem d_X3_differs_97 : decode m_X3_differs.2.1 97 = .ok (.iastore, 1) := by decide +kernel
theorem d_X3_differs_98 : decode m_X3_differs.2.1 98 = .ok (.iload 4, 2) := by decide +kernel
theorem d_X3_differs_100 : decode m_X3_differs.2.1 100 = .ok (.iconst 1, 1) := by decide +kernel
theorem d_X3_differs_101 : decode m_X3_differs.2.1 101 = .ok (.if_icmp .gt 26, 3) := by decide +kernel
theorem d_X3_differs_104 : decode m_X3_differs.2.1 104 = .ok (.iload 9, 2) := by decide +kernel
theorem d_X3_differs_106 : decode m_X3_differs.2.1 106 = .ok (.aload_n 2, 1) := by decide +kernel
theorem d_X3_differs_107 : decode m_X3_differs.2.1 107 = .ok (.iload 7, 2) := by decide +kernel
theorem d_X3_differs_109 : decode m_X3_differs.2.1 109 = .ok (.iload 8, 2) := by decide +kernel
theorem d_X3_differs_111 : decode m_X3_differs.2.1 111 = .ok (.invokevirtual 93, 3) := by decide +kernel
theorem d_X3_differs_114 : decode m_X3_differs.2.1 114 = .ok (.ifCond .ne 7, 3) := by decide +kernel
theorem d_X3_differs_117 : decode m_X3_differs.2.1 117 = .ok (.iconst 1, 1) := by decide +kernel
theorem d_X3_differs_118 : decode m_X3_differs.2.1 118 = .ok (.goto 4, 3) := by decide +kernel
theorem d_X3_differs_121 : decode m_X3_differs.2.1 121 = .ok (.iconst 0, 1) := by decide +kernel
theorem d_X3_differs_122 : decode m_X3_differs.2.1 122 = .ok (.if_icmp .eq 56, 3) := by decide +kernel
theorem d_X3_differs_125 : decode m_X3_differs.2.1 125 = .ok (.iconst 1, 1) := by decide +kernel
theorem d_X3_differs_126 : decode m_X3_differs.2.1 126 = .ok (.ireturn, 1) := by decide +kernel
theorem d_X3_differs_127 : decode m_X3_differs.2.1 127 = .ok (.iload 9, 2) := by decide +kernel
theorem d_X3_differs_129 : decode m_X3_differs.2.1 129 = .ok (.ifCond .eq 49, 3) := by decide +kernel
theorem d_X3_differs_132 : decode m_X3_differs.2.1 132 = .ok (.aload_n 1, 1) := by decide +kernel
theorem d_X3_differs_133 : decode m_X3_differs.2.1 133 = .ok (.iload 7, 2) := by decide +kernel
theorem d_X3_differs_135 : decode m_X3_differs.2.1 135 = .ok (.iload 8, 2) := by decide +kernel
theorem d_X3_differs_137 : decode m_X3_differs.2.1 137 = .ok (.invokevirtual 69, 3) := by decide +kernel
theorem d_X3_differs_140 : decode m_X3_differs.2.1 140 = .ok (.aload_n 2, 1) := by decide +kernel
theorem d_X3_differs_141 : decode m_X3_differs.2.1 141 = .ok (.iload 7, 2) := by decide +kernel
theorem d_X3_differs_143 : decode m_X3_differs.2.1 143 = .ok (.iload 8, 2) := by decide +kernel
theorem d_X3_differs_145 : decode m_X3_differs.2.1 145 = .ok (.invokevirtual 69, 3) := by decide +kernel
theorem d_X3_differs_148 : decode m_X3_differs.2.1 148 = .ok (.aload_n 0, 1) := by decide +kernel
theorem d_X3_differs_149 : decode m_X3_differs.2.1 149 = .ok (.aload_n 1, 1) := by decide +kernel
theorem d_X3_differs_150 : decode m_X3_differs.2.1 150 = .ok (.aload_n 2, 1) := by decide +kernel
theorem d_X3_differs_151 : decode m_X3_differs.2.1 151 = .ok (.iload_n 3, 1) := by decide +kernel
theorem d_X3_differs_152 : decode m_X3_differs.2.1 152 = .ok (.iconst 1, 1) := by decide +kernel
theorem d_X3_differs_153 : decode m_X3_differs.2.1 153 = .ok (.iadd, 1) := by decide +kernel
theorem d_X3_differs_154 : decode m_X3_differs.2.1 154 = .ok (.iload 4, 2) := by decide +kernel
theorem d_X3_differs_156 : decode m_X3_differs.2.1 156 = .ok (.iconst 1, 1) := by decide +kernel
theorem d_X3_differs_157 : decode m_X3_differs.2.1 157 = .ok (.isub, 1) := by decide +kernel
theorem d_X3_differs_158 : decode m_X3_differs.2.1 158 = .ok (.invokevirtual 83, 3) := by decide +kernel
theorem d_X3_differs_161 : decode m_X3_differs.2.1 161 = .ok (.istore 10, 2) := by decide +kernel
theorem d_X3_differs_163 : decode m_X3_differs.2.1 163 = .ok (.aload_n 1, 1) := by decide +kernel
theorem d_X3_differs_164 : decode m_X3_differs.2.1 164 = .ok (.invokevirtual 73, 3) := by decide +kernel
theorem d_X3_differs_167 : decode m_X3_differs.2.1 167 = .ok (.aload_n 2, 1) := by decide +kernel
theorem d_X3_differs_168 : decode m_X3_differs.2.1 168 = .ok (.invokevirtual 73, 3) := by decide +kernel
theorem d_X3_differs_171 : decode m_X3_differs.2.1 171 = .ok (.iload 10, 2) := by decide +kernel
theorem d_X3_differs_173 : decode m_X3_differs.2.1 173 = .ok (.ifCond .eq 5, 3) := by decide +kernel
theorem d_X3_differs_176 : decode m_X3_differs.2.1 176 = .ok (.iconst 1, 1) := by decide +kernel
theorem d_X3_differs_177 : decode m_X3_differs.2.1 177 = .ok (.ireturn, 1) := by decide +kernel
theorem d_X3_differs_178 : decode m_X3_differs.2.1 178 = .ok (.iinc 8 1, 3) := by decide +kernel
theorem d_X3_differs_181 : decode m_X3_differs.2.1 181 = .ok (.goto (-122), 3) := by decide +kernel
theorem d_X3_differs_184 : decode m_X3_differs.2.1 184 = .ok (.iinc 7 1, 3) := by decide +kernel
theorem d_X3_differs_187 : decode m_X3_differs.2.1 187 = .ok (.goto (-138), 3) := by decide +kernel
theorem d_X3_differs_190 : decode m_X3_differs.2.1 190 = .ok (.iconst 0, 1) := by decide +kernel
theorem d_X3_differs_191 : decode m_X3_differs.2.1 191 = .ok (.ireturn, 1) := by decide +kernel
set_option maxRecDepth 20000 in
theorem e_X3_differs {E : jm_E} {d : Nat} {μ : jm_M} {Q : Option jm_V → jm_M → Prop} {v1 v2 v3 v4 : Int} (h : (∀ v ∈ ([jm_R 121, jm_R v1, jm_R v2, jm_I v3, jm_I v4] : List jm_V), jm_ok v) →
  ((v3 < 8 →
    (jm_is jm_N v1 1 6) ∧
    (jm_is jm_N (μ v1 0) 1 5) ∧
    (jm_is jm_N v2 1 6) ∧
    (jm_is jm_N (μ v2 0) 1 5) ∧
    ∀ x6 : Int, x6 = jm_mx (μ (μ v1 0) 1) (μ (μ v2 0) 1) →
    ∀ x7 : Int, x7 = jm_mx (μ (μ v1 0) 4) (μ (μ v2 0) 4) →
    jg E m_X3_differs d 49 [some (jm_R 121), some (jm_R v1), some (jm_R v2), some (jm_I v3), some (jm_I v4), some (jm_I x6), some (jm_I x7), some (jm_I 0), none, none, none] [] μ Q) ∧
   (¬ (v3 < 8) →
    Q (some (jm_I 0)) μ))) : jc E m_X3_differs (d + 1) [jm_R 121, jm_R v1, jm_R v2, jm_I v3, jm_I v4] μ Q := by
  refine jm_Cl.of2 (by decide +kernel) (L0 := [some (jm_R 121), some (jm_R v1), some (jm_R v2), some (jm_I v3), some (jm_I v4), none, none, none, none, none, none]) rfl (Nat.le_of_ble_eq_true rfl) (fun hok => ?_)
  have h := h hok
  refine jm_iloadn d_X3_differs_0 rfl ?_
  refine jm_bipush (v := 8) d_X3_differs_1 rfl (jm_okI (by decide) (by decide)) ?_
  refine jm_icmp_lt (tgt := 8) d_X3_differs_3 (by decide) (fun c1 => ?_) (fun c1 => ?_)
  · have h := h.1 c1
    refine jm_aloadn d_X3_differs_8 rfl ?_
    obtain ⟨f2, h⟩ := h
    refine jm_getR (k := 0) (ki := 0) cf_X6 (Nat.le_of_ble_eq_true rfl) f_X3_53 d_X3_differs_9 rfl rfl f2 rfl ?_
    obtain ⟨f3, h⟩ := h
    refine jm_getI (k := 1) (ki := 1) cf_X5 (Nat.le_of_ble_eq_true rfl) f_X3_57 d_X3_differs_12 rfl rfl f3 rfl ?_
    refine jm_aloadn d_X3_differs_15 rfl ?_
    obtain ⟨f4, h⟩ := h
    refine jm_getR (k := 0) (ki := 0) cf_X6 (Nat.le_of_ble_eq_true rfl) f_X3_53 d_X3_differs_16 rfl rfl f4 rfl ?_
    obtain ⟨f5, h⟩ := h
    refine jm_getI (k := 1) (ki := 1) cf_X5 (Nat.le_of_ble_eq_true rfl) f_X3_57 d_X3_differs_19 rfl rfl f5 rfl ?_
    refine jm_mmax l_X3_87 d_X3_differs_22 ⟨Nat.le_refl _, Nat.le_refl _⟩ (Nat.le_of_ble_eq_true rfl) ?_
    have h := h _ rfl
    refine jm_istore (L' := [some (jm_R _), some (jm_R _), some (jm_R _), some (jm_I _), some (jm_I _), some (jm_I _), none, none, none, none, none]) d_X3_differs_25 (Nat.le_of_ble_eq_true rfl) rfl ?_
    refine jm_aloadn d_X3_differs_27 rfl ?_
    refine jm_getR (k := 0) (ki := 0) cf_X6 (Nat.le_of_ble_eq_true rfl) f_X3_53 d_X3_differs_28 rfl rfl f2 rfl ?_
    refine jm_getI (k := 4) (ki := 4) cf_X5 (Nat.le_of_ble_eq_true rfl) f_X3_66 d_X3_differs_31 rfl rfl f3 rfl ?_
    refine jm_aloadn d_X3_differs_34 rfl ?_
    refine jm_getR (k := 0) (ki := 0) cf_X6 (Nat.le_of_ble_eq_true rfl) f_X3_53 d_X3_differs_35 rfl rfl f4 rfl ?_
    refine jm_getI (k := 4) (ki := 4) cf_X5 (Nat.le_of_ble_eq_true rfl) f_X3_66 d_X3_differs_38 rfl rfl f5 rfl ?_
    refine jm_mmax l_X3_87 d_X3_differs_41 ⟨Nat.le_refl _, Nat.le_refl _⟩ (Nat.le_of_ble_eq_true rfl) ?_
    have h := h _ rfl
    refine jm_istore (L' := [some (jm_R _), some (jm_R _), some (jm_R _), some (jm_I _), some (jm_I _), some (jm_I _), some (jm_I _), none, none, none, none]) d_X3_differs_44 (Nat.le_of_ble_eq_true rfl) rfl ?_
    refine jm_iconst (v := 0) d_X3_differs_46 rfl (jm_okI (by decide) (by decide)) ?_
    refine jm_istore (L' := [some (jm_R _), some (jm_R _), some (jm_R _), some (jm_I _), some (jm_I _), some (jm_I _), some (jm_I _), some (jm_I _), none, none, none]) d_X3_differs_47 (Nat.le_of_ble_eq_true rfl) rfl ?_
    exact h
  · have h := h.2 c1
    refine jm_iconst (v := 0) d_X3_differs_6 rfl (jm_okI (by decide) (by decide)) ?_
    exact jm_ret (o := some (jm_I _)) d_X3_differs_7 rfl ⟨Nat.le_refl _, Nat.le_refl _⟩ (jm_r_Z (by decide)) h rfl
set_option maxRecDepth 20000 in
theorem r_X3_differs_49 {E : jm_E} {d : Nat} {μ : jm_M} {Q : Option jm_V → jm_M → Prop} {v1 v2 v3 v4 v5 v6 v7 : Int} (h :
  ((v5 ≤ v7 →
    Q (some (jm_I 0)) μ) ∧
   (¬ (v5 ≤ v7) →
    jg E m_X3_differs d 59 [some (jm_R 121), some (jm_R v1), some (jm_R v2), some (jm_I v3), some (jm_I v4), some (jm_I v5), some (jm_I v6), some (jm_I v7), some (jm_I 0), none, none] [] μ Q))) : jg E m_X3_differs d 49 [some (jm_R 121), some (jm_R v1), some (jm_R v2), some (jm_I v3), some (jm_I v4), some (jm_I v5), some (jm_I v6), some (jm_I v7), none, none, none] [] μ Q := by
  refine jm_iload d_X3_differs_49 rfl ?_
  refine jm_iload d_X3_differs_51 rfl ?_
  refine jm_icmp_ge (tgt := 190) d_X3_differs_53 (by decide) (fun c1 => ?_) (fun c1 => ?_)
  · have h := h.1 c1
    refine jm_iconst (v := 0) d_X3_differs_190 rfl (jm_okI (by decide) (by decide)) ?_
    exact jm_ret (o := some (jm_I _)) d_X3_differs_191 rfl ⟨Nat.le_refl _, Nat.le_refl _⟩ (jm_r_Z (by decide)) h rfl
  · have h := h.2 c1
    refine jm_iconst (v := 0) d_X3_differs_56 rfl (jm_okI (by decide) (by decide)) ?_
    refine jm_istore (L' := [some (jm_R _), some (jm_R _), some (jm_R _), some (jm_I _), some (jm_I _), some (jm_I _), some (jm_I _), some (jm_I _), some (jm_I _), none, none]) d_X3_differs_57 (Nat.le_of_ble_eq_true rfl) rfl ?_
    exact h
set_option maxRecDepth 20000 in
theorem r_X3_differs_59 {E : jm_E} {d : Nat} {μ : jm_M} {Q : Option jm_V → jm_M → Prop} {v1 v2 v3 v4 v5 v6 v7 v8 : Int} (h :
  ((v6 ≤ v8 →
    jg E m_X3_differs d 49 [some (jm_R 121), some (jm_R v1), some (jm_R v2), some (jm_I v3), some (jm_I v4), some (jm_I v5), some (jm_I v6), some (jm_I (jm_wr (v7 + 1))), none, none, none] [] μ Q) ∧
   (¬ (v6 ≤ v8) →
    (jm_is jm_N v1 1 6) ∧
    jc E m_X6_flaw d [jm_R v1, jm_I v7, jm_I v8] μ (fun (o : Option jm_V) (m2 : jm_M) => ∀ r4 : Int, o = some (jm_I r4) →
    ((r4 ≠ 0 →
      (0 ≤ v3 ∧ v3 < 8) ∧
      ∀ m7 : jm_M, m7 = (jm_up m2 122 v3 (jm_wr ((jm_wr (16 * v7)) + v8))) →
      ((1 < v4 →
        jg E m_X3_differs d 59 [some (jm_R 121), some (jm_R v1), some (jm_R v2), some (jm_I v3), some (jm_I v4), some (jm_I v5), some (jm_I v6), some (jm_I v7), some (jm_I (jm_wr (v8 + 1))), none, none] [] m7 Q) ∧
       (¬ (1 < v4) →
        (jm_is jm_N v2 1 6) ∧
        jc E m_X6_flaw d [jm_R v2, jm_I v7, jm_I v8] m7 (fun (o : Option jm_V) (m10 : jm_M) => ∀ r12 : Int, o = some (jm_I r12) →
        ((r12 ≠ 0 →
          jg E m_X3_differs d 59 [some (jm_R 121), some (jm_R v1), some (jm_R v2), some (jm_I v3), some (jm_I v4), some (jm_I v5), some (jm_I v6), some (jm_I v7), some (jm_I (jm_wr (v8 + 1))), none, none] [] m10 Q) ∧
         (¬ (r12 ≠ 0) →
          Q (some (jm_I 1)) m10)))))) ∧
     (¬ (r4 ≠ 0) →
      (0 ≤ v3 ∧ v3 < 8) ∧
      ∀ m17 : jm_M, m17 = (jm_up m2 122 v3 (jm_wr ((jm_wr (16 * v7)) + v8))) →
      ((1 < v4 →
        jc E m_X6_add d [jm_R v1, jm_I v7, jm_I v8] m17 (fun (o : Option jm_V) (m20 : jm_M) => o = none →
        (jm_is jm_N v2 1 6) ∧
        jc E m_X6_add d [jm_R v2, jm_I v7, jm_I v8] m20 (fun (o : Option jm_V) (m21 : jm_M) => o = none →
        jc E m_X3_differs d [jm_R 121, jm_R v1, jm_R v2, jm_I (jm_wr (v3 + 1)), jm_I (jm_wr (v4 - 1))] m21 (fun (o : Option jm_V) (m23 : jm_M) => ∀ r24 : Int, o = some (jm_I r24) → (r24 = 0 ∨ r24 = 1) →
        jc E m_X6_takeBack d [jm_R v1] m23 (fun (o : Option jm_V) (m26 : jm_M) => o = none →
        jc E m_X6_takeBack d [jm_R v2] m26 (fun (o : Option jm_V) (m27 : jm_M) => o = none →
        ((r24 = 0 →
          jg E m_X3_differs d 59 [some (jm_R 121), some (jm_R v1), some (jm_R v2), some (jm_I v3), some (jm_I v4), some (jm_I v5), some (jm_I v6), some (jm_I v7), some (jm_I (jm_wr (v8 + 1))), none, none] [] m27 Q) ∧
         (¬ (r24 = 0) →
          Q (some (jm_I 1)) m27)))))))) ∧
       (¬ (1 < v4) →
        (jm_is jm_N v2 1 6) ∧
        jc E m_X6_flaw d [jm_R v2, jm_I v7, jm_I v8] m17 (fun (o : Option jm_V) (m29 : jm_M) => ∀ r31 : Int, o = some (jm_I r31) →
        ((r31 ≠ 0 →
          Q (some (jm_I 1)) m29) ∧
         (¬ (r31 ≠ 0) →
          jg E m_X3_differs d 59 [some (jm_R 121), some (jm_R v1), some (jm_R v2), some (jm_I v3), some (jm_I v4), some (jm_I v5), some (jm_I v6), some (jm_I v7), some (jm_I (jm_wr (v8 + 1))), none, none] [] m29 Q))))))))))) : jg E m_X3_differs d 59 [some (jm_R 121), some (jm_R v1), some (jm_R v2), some (jm_I v3), some (jm_I v4), some (jm_I v5), some (jm_I v6), some (jm_I v7), some (jm_I v8), none, none] [] μ Q := by
  refine jm_iload d_X3_differs_59 rfl ?_
  refine jm_iload d_X3_differs_61 rfl ?_
  refine jm_icmp_ge (tgt := 184) d_X3_differs_63 (by decide) (fun c1 => ?_) (fun c1 => ?_)
  · have h := h.1 c1
    refine jm_iinc (L' := [some (jm_R _), some (jm_R _), some (jm_R _), some (jm_I _), some (jm_I _), some (jm_I _), some (jm_I _), some (jm_I _), some (jm_I _), none, none]) d_X3_differs_184 rfl rfl (Nat.le_of_ble_eq_true rfl) rfl ?_
    refine jm_goto (tgt := 49) d_X3_differs_187 (by decide) ?_
    exact jm_weak2 h (And.intro rfl (And.intro rfl (And.intro rfl (And.intro rfl (And.intro rfl (And.intro rfl (And.intro rfl (And.intro rfl trivial))))))))
  · have h := h.2 c1
    refine jm_aloadn d_X3_differs_66 rfl ?_
    refine jm_iload d_X3_differs_67 rfl ?_
    refine jm_iload d_X3_differs_69 rfl ?_
    obtain ⟨f3, h⟩ := h
    refine jm_invV (n1 := jm_N) (mc := 0) (ms := 0) (av := [jm_I _, jm_I _]) w_X6_flaw l_X3_93 d_X3_differs_71 rfl f3 ⟨_, _, rfl⟩ ⟨Nat.le_refl _, Nat.le_refl _⟩ (Nat.le_of_ble_eq_true rfl) rfl ?_
    refine jm_Cl.mono h (fun o m2 h hr _ => ?_)
    obtain ⟨r4, rfl⟩ := jm_rokI hr
    have h := h _ rfl
    refine jm_if_ne (tgt := 81) d_X3_differs_74 (by decide) (fun c5 => ?_) (fun c5 => ?_)
    · have h := h.1 c5
      refine jm_iconst (v := 0) d_X3_differs_81 rfl (jm_okI (by decide) (by decide)) ?_
      refine jm_istore (L' := [some (jm_R _), some (jm_R _), some (jm_R _), some (jm_I _), some (jm_I _), some (jm_I _), some (jm_I _), some (jm_I _), some (jm_I _), some (jm_I _), none]) d_X3_differs_82 (Nat.le_of_ble_eq_true rfl) rfl ?_
      refine jm_aloadn d_X3_differs_84 rfl ?_
      refine jm_getF (k := 4) (ki := 4) rfl cf_X3 (Nat.le_of_ble_eq_true rfl) f_X3_9 d_X3_differs_85 rfl rfl is_121 fr_121_4 ?_
      refine jm_iloadn d_X3_differs_88 rfl ?_
      refine jm_bipush (v := 16) d_X3_differs_89 rfl (jm_okI (by decide) (by decide)) ?_
      refine jm_iload d_X3_differs_91 rfl ?_
      refine jm_imul d_X3_differs_93 ?_
      refine jm_iload d_X3_differs_94 rfl ?_
      refine jm_iadd d_X3_differs_96 ?_
      obtain ⟨f6, h⟩ := h
      refine jm_iastore d_X3_differs_97 (ixl_122 f6.1 f6.2) ?_
      have h := h _ rfl
      refine jm_iload d_X3_differs_98 rfl ?_
      refine jm_iconst (v := 1) d_X3_differs_100 rfl (jm_okI (by decide) (by decide)) ?_
      refine jm_icmp_gt (tgt := 127) d_X3_differs_101 (by decide) (fun c8 => ?_) (fun c8 => ?_)
      · have h := h.1 c8
        refine jm_iload d_X3_differs_127 rfl ?_
        refine jm_if_eq (tgt := 178) d_X3_differs_129 (by decide) (fun _ => ?_) (fun c9 => absurd (by decide) c9)
        refine jm_iinc (L' := [some (jm_R _), some (jm_R _), some (jm_R _), some (jm_I _), some (jm_I _), some (jm_I _), some (jm_I _), some (jm_I _), some (jm_I _), some (jm_I _), none]) d_X3_differs_178 rfl rfl (Nat.le_of_ble_eq_true rfl) rfl ?_
        refine jm_goto (tgt := 59) d_X3_differs_181 (by decide) ?_
        exact jm_weak2 h (And.intro rfl (And.intro rfl (And.intro rfl (And.intro rfl (And.intro rfl (And.intro rfl (And.intro rfl (And.intro rfl (And.intro rfl trivial)))))))))
      · have h := h.2 c8
        refine jm_iload d_X3_differs_104 rfl ?_
        refine jm_aloadn d_X3_differs_106 rfl ?_
        refine jm_iload d_X3_differs_107 rfl ?_
        refine jm_iload d_X3_differs_109 rfl ?_
        obtain ⟨f11, h⟩ := h
        refine jm_invV (n1 := jm_N) (mc := 0) (ms := 0) (av := [jm_I _, jm_I _]) w_X6_flaw l_X3_93 d_X3_differs_111 rfl f11 ⟨_, _, rfl⟩ ⟨Nat.le_refl _, Nat.le_refl _⟩ (Nat.le_of_ble_eq_true rfl) rfl ?_
        refine jm_Cl.mono h (fun o m10 h hr _ => ?_)
        obtain ⟨r12, rfl⟩ := jm_rokI hr
        have h := h _ rfl
        refine jm_if_ne (tgt := 121) d_X3_differs_114 (by decide) (fun c13 => ?_) (fun c13 => ?_)
        · have h := h.1 c13
          refine jm_iconst (v := 0) d_X3_differs_121 rfl (jm_okI (by decide) (by decide)) ?_
          refine jm_icmp_eq (tgt := 178) d_X3_differs_122 (by decide) (fun _ => ?_) (fun c14 => absurd (by decide) c14)
          refine jm_iinc (L' := [some (jm_R _), some (jm_R _), some (jm_R _), some (jm_I _), some (jm_I _), some (jm_I _), some (jm_I _), some (jm_I _), some (jm_I _), some (jm_I _), none]) d_X3_differs_178 rfl rfl (Nat.le_of_ble_eq_true rfl) rfl ?_
          refine jm_goto (tgt := 59) d_X3_differs_181 (by decide) ?_
          exact jm_weak2 h (And.intro rfl (And.intro rfl (And.intro rfl (And.intro rfl (And.intro rfl (And.intro rfl (And.intro rfl (And.intro rfl (And.intro rfl trivial)))))))))
        · have h := h.2 c13
          refine jm_iconst (v := 1) d_X3_differs_117 rfl (jm_okI (by decide) (by decide)) ?_
          refine jm_goto (tgt := 122) d_X3_differs_118 (by decide) ?_
          refine jm_icmp_eq (tgt := 178) d_X3_differs_122 (by decide) (fun c15 => absurd c15 (by decide)) (fun _ => ?_)
          refine jm_iconst (v := 1) d_X3_differs_125 rfl (jm_okI (by decide) (by decide)) ?_
          exact jm_ret (o := some (jm_I _)) d_X3_differs_126 rfl ⟨Nat.le_refl _, Nat.le_refl _⟩ (jm_r_Z (by decide)) h rfl
    · have h := h.2 c5
      refine jm_iconst (v := 1) d_X3_differs_77 rfl (jm_okI (by decide) (by decide)) ?_
      refine jm_goto (tgt := 82) d_X3_differs_78 (by decide) ?_
      refine jm_istore (L' := [some (jm_R _), some (jm_R _), some (jm_R _), some (jm_I _), some (jm_I _), some (jm_I _), some (jm_I _), some (jm_I _), some (jm_I _), some (jm_I _), none]) d_X3_differs_82 (Nat.le_of_ble_eq_true rfl) rfl ?_
      refine jm_aloadn d_X3_differs_84 rfl ?_
      refine jm_getF (k := 4) (ki := 4) rfl cf_X3 (Nat.le_of_ble_eq_true rfl) f_X3_9 d_X3_differs_85 rfl rfl is_121 fr_121_4 ?_
      refine jm_iloadn d_X3_differs_88 rfl ?_
      refine jm_bipush (v := 16) d_X3_differs_89 rfl (jm_okI (by decide) (by decide)) ?_
      refine jm_iload d_X3_differs_91 rfl ?_
      refine jm_imul d_X3_differs_93 ?_
      refine jm_iload d_X3_differs_94 rfl ?_
      refine jm_iadd d_X3_differs_96 ?_
      obtain ⟨f16, h⟩ := h
      refine jm_iastore d_X3_differs_97 (ixl_122 f16.1 f16.2) ?_
      have h := h _ rfl
      refine jm_iload d_X3_differs_98 rfl ?_
      refine jm_iconst (v := 1) d_X3_differs_100 rfl (jm_okI (by decide) (by decide)) ?_
      refine jm_icmp_gt (tgt := 127) d_X3_differs_101 (by decide) (fun c18 => ?_) (fun c18 => ?_)
      · have h := h.1 c18
        refine jm_iload d_X3_differs_127 rfl ?_
        refine jm_if_eq (tgt := 178) d_X3_differs_129 (by decide) (fun c19 => absurd c19 (by decide)) (fun _ => ?_)
        refine jm_aloadn d_X3_differs_132 rfl ?_
        refine jm_iload d_X3_differs_133 rfl ?_
        refine jm_iload d_X3_differs_135 rfl ?_
        refine jm_invV (n1 := jm_N) (mc := 0) (ms := 0) (av := [jm_I _, jm_I _]) w_X6_add l_X3_69 d_X3_differs_137 rfl f3 ⟨_, _, rfl⟩ ⟨Nat.le_refl _, Nat.le_refl _⟩ (Nat.le_of_ble_eq_true rfl) rfl ?_
        refine jm_Cl.mono h (fun o m20 h hr _ => ?_)
        obtain rfl := jm_rokV hr
        have h := h rfl
        refine jm_aloadn d_X3_differs_140 rfl ?_
        refine jm_iload d_X3_differs_141 rfl ?_
        refine jm_iload d_X3_differs_143 rfl ?_
        obtain ⟨f22, h⟩ := h
        refine jm_invV (n1 := jm_N) (mc := 0) (ms := 0) (av := [jm_I _, jm_I _]) w_X6_add l_X3_69 d_X3_differs_145 rfl f22 ⟨_, _, rfl⟩ ⟨Nat.le_refl _, Nat.le_refl _⟩ (Nat.le_of_ble_eq_true rfl) rfl ?_
        refine jm_Cl.mono h (fun o m21 h hr _ => ?_)
        obtain rfl := jm_rokV hr
        have h := h rfl
        refine jm_aloadn d_X3_differs_148 rfl ?_
        refine jm_aloadn d_X3_differs_149 rfl ?_
        refine jm_aloadn d_X3_differs_150 rfl ?_
        refine jm_iloadn d_X3_differs_151 rfl ?_
        refine jm_iconst (v := 1) d_X3_differs_152 rfl (jm_okI (by decide) (by decide)) ?_
        refine jm_iadd d_X3_differs_153 ?_
        refine jm_iload d_X3_differs_154 rfl ?_
        refine jm_iconst (v := 1) d_X3_differs_156 rfl (jm_okI (by decide) (by decide)) ?_
        refine jm_isub d_X3_differs_157 ?_
        refine jm_invV (n1 := jm_N) (mc := 0) (ms := 0) (av := [jm_R _, jm_R _, jm_I _, jm_I _]) w_X3_differs l_X3_83 d_X3_differs_158 rfl is_121 ⟨_, _, rfl⟩ ⟨Nat.le_refl _, Nat.le_refl _⟩ (Nat.le_of_ble_eq_true rfl) rfl ?_
        refine jm_Cl.mono h (fun o m23 h hr _ => ?_)
        obtain ⟨r24, rfl, z25⟩ := jm_rokZ hr
        have h := h _ rfl z25
        refine jm_istore (L' := [some (jm_R _), some (jm_R _), some (jm_R _), some (jm_I _), some (jm_I _), some (jm_I _), some (jm_I _), some (jm_I _), some (jm_I _), some (jm_I _), some (jm_I _)]) d_X3_differs_161 (Nat.le_of_ble_eq_true rfl) rfl ?_
        refine jm_aloadn d_X3_differs_163 rfl ?_
        refine jm_invV (n1 := jm_N) (mc := 0) (ms := 0) (av := []) w_X6_takeBack l_X3_73 d_X3_differs_164 rfl f3 ⟨_, _, rfl⟩ ⟨Nat.le_refl _, Nat.le_refl _⟩ (Nat.le_of_ble_eq_true rfl) rfl ?_
        refine jm_Cl.mono h (fun o m26 h hr _ => ?_)
        obtain rfl := jm_rokV hr
        have h := h rfl
        refine jm_aloadn d_X3_differs_167 rfl ?_
        refine jm_invV (n1 := jm_N) (mc := 0) (ms := 0) (av := []) w_X6_takeBack l_X3_73 d_X3_differs_168 rfl f22 ⟨_, _, rfl⟩ ⟨Nat.le_refl _, Nat.le_refl _⟩ (Nat.le_of_ble_eq_true rfl) rfl ?_
        refine jm_Cl.mono h (fun o m27 h hr _ => ?_)
        obtain rfl := jm_rokV hr
        have h := h rfl
        refine jm_iload d_X3_differs_171 rfl ?_
        refine jm_if_eq (tgt := 178) d_X3_differs_173 (by decide) (fun c28 => ?_) (fun c28 => ?_)
        · have h := h.1 c28
          refine jm_iinc (L' := [some (jm_R _), some (jm_R _), some (jm_R _), some (jm_I _), some (jm_I _), some (jm_I _), some (jm_I _), some (jm_I _), some (jm_I _), some (jm_I _), some (jm_I _)]) d_X3_differs_178 rfl rfl (Nat.le_of_ble_eq_true rfl) rfl ?_
          refine jm_goto (tgt := 59) d_X3_differs_181 (by decide) ?_
          exact jm_weak2 h (And.intro rfl (And.intro rfl (And.intro rfl (And.intro rfl (And.intro rfl (And.intro rfl (And.intro rfl (And.intro rfl (And.intro rfl trivial)))))))))
        · have h := h.2 c28
          refine jm_iconst (v := 1) d_X3_differs_176 rfl (jm_okI (by decide) (by decide)) ?_
          exact jm_ret (o := some (jm_I _)) d_X3_differs_177 rfl ⟨Nat.le_refl _, Nat.le_refl _⟩ (jm_r_Z (by decide)) h rfl
      · have h := h.2 c18
        refine jm_iload d_X3_differs_104 rfl ?_
        refine jm_aloadn d_X3_differs_106 rfl ?_
        refine jm_iload d_X3_differs_107 rfl ?_
        refine jm_iload d_X3_differs_109 rfl ?_
        obtain ⟨f30, h⟩ := h
        refine jm_invV (n1 := jm_N) (mc := 0) (ms := 0) (av := [jm_I _, jm_I _]) w_X6_flaw l_X3_93 d_X3_differs_111 rfl f30 ⟨_, _, rfl⟩ ⟨Nat.le_refl _, Nat.le_refl _⟩ (Nat.le_of_ble_eq_true rfl) rfl ?_
        refine jm_Cl.mono h (fun o m29 h hr _ => ?_)
        obtain ⟨r31, rfl⟩ := jm_rokI hr
        have h := h _ rfl
        refine jm_if_ne (tgt := 121) d_X3_differs_114 (by decide) (fun c32 => ?_) (fun c32 => ?_)
        · have h := h.1 c32
          refine jm_iconst (v := 0) d_X3_differs_121 rfl (jm_okI (by decide) (by decide)) ?_
          refine jm_icmp_eq (tgt := 178) d_X3_differs_122 (by decide) (fun c33 => absurd c33 (by decide)) (fun _ => ?_)
          refine jm_iconst (v := 1) d_X3_differs_125 rfl (jm_okI (by decide) (by decide)) ?_
          exact jm_ret (o := some (jm_I _)) d_X3_differs_126 rfl ⟨Nat.le_refl _, Nat.le_refl _⟩ (jm_r_Z (by decide)) h rfl
        · have h := h.2 c32
          refine jm_iconst (v := 1) d_X3_differs_117 rfl (jm_okI (by decide) (by decide)) ?_
          refine jm_goto (tgt := 122) d_X3_differs_118 (by decide) ?_
          refine jm_icmp_eq (tgt := 178) d_X3_differs_122 (by decide) (fun _ => ?_) (fun c34 => absurd (by decide) c34)
          refine jm_iinc (L' := [some (jm_R _), some (jm_R _), some (jm_R _), some (jm_I _), some (jm_I _), some (jm_I _), some (jm_I _), some (jm_I _), some (jm_I _), some (jm_I _), none]) d_X3_differs_178 rfl rfl (Nat.le_of_ble_eq_true rfl) rfl ?_
          refine jm_goto (tgt := 59) d_X3_differs_181 (by decide) ?_
          exact jm_weak2 h (And.intro rfl (And.intro rfl (And.intro rfl (And.intro rfl (And.intro rfl (And.intro rfl (And.intro rfl (And.intro rfl (And.intro rfl trivial)))))))))
-- X9_init: by hand (objinit)
/-! ('CombTable$Wholes', 'all', '(LCombTable$Minutes;LCombTable$Talk;I)I') -/
theorem d_X9_all_0 : decode m_X9_all.2.1 0 = .ok (.aload_n 0, 1) := by decide +kernel
theorem d_X9_all_1 : decode m_X9_all.2.1 1 = .ok (.iconst 1, 1) := by decide +kernel
theorem d_X9_all_2 : decode m_X9_all.2.1 2 = .ok (.invokevirtual 29, 3) := by decide +kernel
theorem d_X9_all_5 : decode m_X9_all.2.1 5 = .ok (.iconst 0, 1) := by decide +kernel
theorem d_X9_all_6 : decode m_X9_all.2.1 6 = .ok (.istore 4, 2) := by decide +kernel
theorem d_X9_all_8 : decode m_X9_all.2.1 8 = .ok (.iload 4, 2) := by decide +kernel
theorem d_X9_all_10 : decode m_X9_all.2.1 10 = .ok (.bipush 24, 2) := by decide +kernel
theorem d_X9_all_12 : decode m_X9_all.2.1 12 = .ok (.if_icmp .ge 33, 3) := by decide +kernel
theorem d_X9_all_15 : decode m_X9_all.2.1 15 = .ok (.aload_n 0, 1) := by decide +kernel
theorem d_X9_all_16 : decode m_X9_all.2.1 16 = .ok (.getfield 20, 3) := by decide +kernel
theorem d_X9_all_19 : decode m_X9_all.2.1 19 = .ok (.iload 4, 2) := by decide +kernel
theorem d_X9_all_21 : decode m_X9_all.2.1 21 = .ok (.iconst 0, 1) := by decide +kernel
theorem d_X9_all_22 : decode m_X9_all.2.1 22 = .ok (.iastore, 1) := by decide +kernel
theorem d_X9_all_23 : decode m_X9_all.2.1 23 = .ok (.aload_n 0, 1) := by decide +kernel
theorem d_X9_all_24 : decode m_X9_all.2.1 24 = .ok (.getfield 23, 3) := by decide +kernel
theorem d_X9_all_27 : decode m_X9_all.2.1 27 = .ok (.iload 4, 2) := by decide +kernel
theorem d_X9_all_29 : decode m_X9_all.2.1 29 = .ok (.iconst 0, 1) := by decide +kernel
theorem d_X9_all_30 : decode m_X9_all.2.1 30 = .ok (.iastore, 1) := by decide +kernel
theorem d_X9_all_31 : decode m_X9_all.2.1 31 = .ok (.aload_n 0, 1) := by decide +kernel
theorem d_X9_all_32 : decode m_X9_all.2.1 32 = .ok (.getfield 26, 3) := by decide +kernel
theorem d_X9_all_35 : decode m_X9_all.2.1 35 = .ok (.iload 4, 2) := by decide +kernel
theorem d_X9_all_37 : decode m_X9_all.2.1 37 = .ok (.iconst 0, 1) := by decide +kernel
theorem d_X9_all_38 : decode m_X9_all.2.1 38 = .ok (.iastore, 1) := by decide +kernel
theorem d_X9_all_39 : decode m_X9_all.2.1 39 = .ok (.iinc 4 1, 3) := by decide +kernel
theorem d_X9_all_42 : decode m_X9_all.2.1 42 = .ok (.goto (-34), 3) := by decide +kernel
theorem d_X9_all_45 : decode m_X9_all.2.1 45 = .ok (.iload_n 3, 1) := by decide +kernel
theorem d_X9_all_46 : decode m_X9_all.2.1 46 = .ok (.ifCond .ne 7, 3) := by decide +kernel
theorem d_X9_all_49 : decode m_X9_all.2.1 49 = .ok (.iconst 1, 1) := by decide +kernel
theorem d_X9_all_50 : decode m_X9_all.2.1 50 = .ok (.goto 21, 3) := by decide +kernel
theorem d_X9_all_53 : decode m_X9_all.2.1 53 = .ok (.iload_n 3, 1) := by decide +kernel
theorem d_X9_all_54 : decode m_X9_all.2.1 54 = .ok (.iconst 1, 1) := by decide +kernel
theorem d_X9_all_55 : decode m_X9_all.2.1 55 = .ok (.if_icmp .ne 10, 3) := by decide +kernel
theorem d_X9_all_58 : decode m_X9_all.2.1 58 = .ok (.aload_n 1, 1) := by decide +kernel
theorem d_X9_all_59 : decode m_X9_all.2.1 59 = .ok (.getfield 33, 3) := by decide +kernel
theorem d_X9_all_62 : decode m_X9_all.2.1 62 = .ok (.goto 9, 3) := by decide +kernel
theorem d_X9_all_65 : decode m_X9_all.2.1 65 = .ok (.aload_n 1, 1) := by decide +kernel
theorem d_X9_all_66 : decode m_X9_all.2.1 66 = .ok (.getfield 33, 3) := by decide +kernel
theorem d_X9_all_69 : decode m_X9_all.2.1 69 = .ok (.iconst 1, 1) := by decide +kernel
theorem d_X9_all_70 : decode m_X9_all.2.1 70 = .ok (.isub, 1) := by decide +kernel
theorem d_X9_all_71 : decode m_X9_all.2.1 71 = .ok (.istore 4, 2) := by decide +kernel
theorem d_X9_all_73 : decode m_X9_all.2.1 73 = .ok (.iconst 0, 1) := by decide +kernel
theorem d_X9_all_74 : decode m_X9_all.2.1 74 = .ok (.istore 5, 2) := by decide +kernel
theorem d_X9_all_76 : decode m_X9_all.2.1 76 = .ok (.iload 5, 2) := by decide +kernel
theorem d_X9_all_78 : decode m_X9_all.2.1 78 = .ok (.iload 4, 2) := by decide +kernel
theorem d_X9_all_80 : decode m_X9_all.2.1 80 = .ok (.if_icmp .ge 42, 3) := by decide +kernel
theorem d_X9_all_83 : decode m_X9_all.2.1 83 = .ok (.aload_n 0, 1) := by decide +kernel
theorem d_X9_all_84 : decode m_X9_all.2.1 84 = .ok (.aload_n 1, 1) := by decide +kernel
theorem d_X9_all_85 : decode m_X9_all.2.1 85 = .ok (.iload_n 3, 1) := by decide +kernel
theorem d_X9_all_86 : decode m_X9_all.2.1 86 = .ok (.iconst 1, 1) := by decide +kernel
theorem d_X9_all_87 : decode m_X9_all.2.1 87 = .ok (.if_icmp .ne 8, 3) := by decide +kernel
theorem d_X9_all_90 : decode m_X9_all.2.1 90 = .ok (.iload 5, 2) := by decide +kernel
theorem d_X9_all_92 : decode m_X9_all.2.1 92 = .ok (.goto 4, 3) := by decide +kernel
theorem d_X9_all_95 : decode m_X9_all.2.1 95 = .ok (.iconst (-1), 1) := by decide +kernel
theorem d_X9_all_96 : decode m_X9_all.2.1 96 = .ok (.invokevirtual 37, 3) := by decide +kernel
theorem d_X9_all_99 : decode m_X9_all.2.1 99 = .ok (.iload_n 3, 1) := by decide +kernel
theorem d_X9_all_100 : decode m_X9_all.2.1 100 = .ok (.iconst 2, 1) := by decide +kernel
theorem d_X9_all_101 : decode m_X9_all.2.1 101 = .ok (.if_icmp .ne 9, 3) := by decide +kernel
theorem d_X9_all_104 : decode m_X9_all.2.1 104 = .ok (.aload_n 0, 1) := by decide +kernel
theorem d_X9_all_105 : decode m_X9_all.2.1 105 = .ok (.iload 5, 2) := by decide +kernel
theorem d_X9_all_107 : decode m_X9_all.2.1 107 = .ok (.invokevirtual 41, 3) := by decide +kernel
theorem d_X9_all_110 : decode m_X9_all.2.1 110 = .ok (.aload_n 0, 1) := by decide +kernel
theorem d_X9_all_111 : decode m_X9_all.2.1 111 = .ok (.aload_n 2, 1) := by decide +kernel
theorem d_X9_all_112 : decode m_X9_all.2.1 112 = .ok (.iconst 0, 1) := by decide +kernel
theorem d_X9_all_113 : decode m_X9_all.2.1 113 = .ok (.invokevirtual 45, 3) := by decide +kernel
theorem d_X9_all_116 : decode m_X9_all.2.1 116 = .ok (.iinc 5 1, 3) := by decide +kernel
theorem d_X9_all_119 : decode m_X9_all.2.1 119 = .ok (.goto (-43), 3) := by decide +kernel
theorem d_X9_all_122 : decode m_X9_all.2.1 122 = .ok (.aload_n 0, 1) := by decide +kernel
theorem d_X9_all_123 : decode m_X9_all.2.1 123 = .ok (.aload_n 0, 1) := by decide +kernel
theorem d_X9_all_124 : decode m_X9_all.2.1 124 = .ok (.getfield 49, 3) := by decide +kernel
theorem d_X9_all_127 : decode m_X9_all.2.1 127 = .ok (.ifCond .le 10, 3) := by decide +kernel
theorem d_X9_all_130 : decode m_X9_all.2.1 130 = .ok (.aload_n 0, 1) := by decide +kernel
theorem d_X9_all_131 : decode m_X9_all.2.1 131 = .ok (.getfield 52, 3) := by decide +kernel
theorem d_X9_all_134 : decode m_X9_all.2.1 134 = .ok (.goto 4, 3) := by decide +kernel
theorem d_X9_all_137 : decode m_X9_all.2.1 137 = .ok (.iconst 0, 1) := by decide +kernel
theorem d_X9_all_138 : decode m_X9_all.2.1 138 = .ok (.putfield 53, 3) := by decide +kernel
theorem d_X9_all_141 : decode m_X9_all.2.1 141 = .ok (.aload_n 0, 1) := by decide +kernel
theorem d_X9_all_142 : decode m_X9_all.2.1 142 = .ok (.getfield 49, 3) := by decide +kernel
theorem d_X9_all_145 : decode m_X9_all.2.1 145 = .ok (.ireturn, 1) := by decide +kernel
set_option maxRecDepth 20000 in
theorem e_X9_all {E : jm_E} {d : Nat} {μ : jm_M} {Q : Option jm_V → jm_M → Prop} {v1 v2 v3 : Int} (h : (∀ v ∈ ([jm_R 124, jm_R v1, jm_R v2, jm_I v3] : List jm_V), jm_ok v) →
  jc E m_X9_start d [jm_R 124, jm_I 1] μ (fun (o : Option jm_V) (m1 : jm_M) => o = none →
  jg E m_X9_all d 8 [some (jm_R 124), some (jm_R v1), some (jm_R v2), some (jm_I v3), some (jm_I 0), none] [] m1 Q)) : jc E m_X9_all (d + 1) [jm_R 124, jm_R v1, jm_R v2, jm_I v3] μ Q := by
  refine jm_Cl.of2 (by decide +kernel) (L0 := [some (jm_R 124), some (jm_R v1), some (jm_R v2), some (jm_I v3), none, none]) rfl (Nat.le_of_ble_eq_true rfl) (fun hok => ?_)
  have h := h hok
  refine jm_aloadn d_X9_all_0 rfl ?_
  refine jm_iconst (v := 1) d_X9_all_1 rfl (jm_okI (by decide) (by decide)) ?_
  refine jm_invV (n1 := jm_N) (mc := 0) (ms := 0) (av := [jm_I _]) w_X9_start l_X9_29 d_X9_all_2 rfl is_124 ⟨_, _, rfl⟩ ⟨Nat.le_refl _, Nat.le_refl _⟩ (Nat.le_of_ble_eq_true rfl) rfl ?_
  refine jm_Cl.mono h (fun o m1 h hr _ => ?_)
  obtain rfl := jm_rokV hr
  have h := h rfl
  refine jm_iconst (v := 0) d_X9_all_5 rfl (jm_okI (by decide) (by decide)) ?_
  refine jm_istore (L' := [some (jm_R _), some (jm_R _), some (jm_R _), some (jm_I _), some (jm_I _), none]) d_X9_all_6 (Nat.le_of_ble_eq_true rfl) rfl ?_
  exact h
set_option maxRecDepth 20000 in
theorem r_X9_all_8 {E : jm_E} {d : Nat} {μ : jm_M} {Q : Option jm_V → jm_M → Prop} {v1 v2 v3 v4 : Int} (h :
  ((24 ≤ v4 →
    ((v3 ≠ 0 →
      ((v3 ≠ 1 →
        (jm_is jm_N v1 1 1) ∧
        ∀ x5 : Int, x5 = jm_wr ((μ v1 0) - 1) →
        jg E m_X9_all d 76 [some (jm_R 124), some (jm_R v1), some (jm_R v2), some (jm_I v3), some (jm_I x5), some (jm_I 0)] [] μ Q) ∧
       (¬ (v3 ≠ 1) →
        (jm_is jm_N v1 1 1) ∧
        jg E m_X9_all d 76 [some (jm_R 124), some (jm_R v1), some (jm_R v2), some (jm_I v3), some (jm_I (μ v1 0)), some (jm_I 0)] [] μ Q))) ∧
     (¬ (v3 ≠ 0) →
      jg E m_X9_all d 76 [some (jm_R 124), some (jm_R v1), some (jm_R v2), some (jm_I v3), some (jm_I 1), some (jm_I 0)] [] μ Q))) ∧
   (¬ (24 ≤ v4) →
    (0 ≤ v4 ∧ v4 < 24) ∧
    ∀ m8 : jm_M, m8 = (jm_up μ 127 v4 0) →
    ∀ m9 : jm_M, m9 = (jm_up m8 128 v4 0) →
    ∀ m10 : jm_M, m10 = (jm_up m9 129 v4 0) →
    jg E m_X9_all d 8 [some (jm_R 124), some (jm_R v1), some (jm_R v2), some (jm_I v3), some (jm_I (jm_wr (v4 + 1))), none] [] m10 Q))) : jg E m_X9_all d 8 [some (jm_R 124), some (jm_R v1), some (jm_R v2), some (jm_I v3), some (jm_I v4), none] [] μ Q := by
  refine jm_iload d_X9_all_8 rfl ?_
  refine jm_bipush (v := 24) d_X9_all_10 rfl (jm_okI (by decide) (by decide)) ?_
  refine jm_icmp_ge (tgt := 45) d_X9_all_12 (by decide) (fun c1 => ?_) (fun c1 => ?_)
  · have h := h.1 c1
    refine jm_iloadn d_X9_all_45 rfl ?_
    refine jm_if_ne (tgt := 53) d_X9_all_46 (by decide) (fun c2 => ?_) (fun c2 => ?_)
    · have h := h.1 c2
      refine jm_iloadn d_X9_all_53 rfl ?_
      refine jm_iconst (v := 1) d_X9_all_54 rfl (jm_okI (by decide) (by decide)) ?_
      refine jm_icmp_ne (tgt := 65) d_X9_all_55 (by decide) (fun c3 => ?_) (fun c3 => ?_)
      · have h := h.1 c3
        refine jm_aloadn d_X9_all_65 rfl ?_
        obtain ⟨f4, h⟩ := h
        refine jm_getI (k := 0) (ki := 0) cf_X1 (Nat.le_of_ble_eq_true rfl) f_X9_33 d_X9_all_66 rfl rfl f4 rfl ?_
        refine jm_iconst (v := 1) d_X9_all_69 rfl (jm_okI (by decide) (by decide)) ?_
        refine jm_isub d_X9_all_70 ?_
        have h := h _ rfl
        refine jm_istore (L' := [some (jm_R _), some (jm_R _), some (jm_R _), some (jm_I _), some (jm_I _), none]) d_X9_all_71 (Nat.le_of_ble_eq_true rfl) rfl ?_
        refine jm_iconst (v := 0) d_X9_all_73 rfl (jm_okI (by decide) (by decide)) ?_
        refine jm_istore (L' := [some (jm_R _), some (jm_R _), some (jm_R _), some (jm_I _), some (jm_I _), some (jm_I _)]) d_X9_all_74 (Nat.le_of_ble_eq_true rfl) rfl ?_
        exact h
      · have h := h.2 c3
        refine jm_aloadn d_X9_all_58 rfl ?_
        obtain ⟨f6, h⟩ := h
        refine jm_getI (k := 0) (ki := 0) cf_X1 (Nat.le_of_ble_eq_true rfl) f_X9_33 d_X9_all_59 rfl rfl f6 rfl ?_
        refine jm_goto (tgt := 71) d_X9_all_62 (by decide) ?_
        refine jm_istore (L' := [some (jm_R _), some (jm_R _), some (jm_R _), some (jm_I _), some (jm_I _), none]) d_X9_all_71 (Nat.le_of_ble_eq_true rfl) rfl ?_
        refine jm_iconst (v := 0) d_X9_all_73 rfl (jm_okI (by decide) (by decide)) ?_
        refine jm_istore (L' := [some (jm_R _), some (jm_R _), some (jm_R _), some (jm_I _), some (jm_I _), some (jm_I _)]) d_X9_all_74 (Nat.le_of_ble_eq_true rfl) rfl ?_
        exact h
    · have h := h.2 c2
      refine jm_iconst (v := 1) d_X9_all_49 rfl (jm_okI (by decide) (by decide)) ?_
      refine jm_goto (tgt := 71) d_X9_all_50 (by decide) ?_
      refine jm_istore (L' := [some (jm_R _), some (jm_R _), some (jm_R _), some (jm_I _), some (jm_I _), none]) d_X9_all_71 (Nat.le_of_ble_eq_true rfl) rfl ?_
      refine jm_iconst (v := 0) d_X9_all_73 rfl (jm_okI (by decide) (by decide)) ?_
      refine jm_istore (L' := [some (jm_R _), some (jm_R _), some (jm_R _), some (jm_I _), some (jm_I _), some (jm_I _)]) d_X9_all_74 (Nat.le_of_ble_eq_true rfl) rfl ?_
      exact h
  · have h := h.2 c1
    refine jm_aloadn d_X9_all_15 rfl ?_
    refine jm_getF (k := 7) (ki := 7) rfl cf_X9 (Nat.le_of_ble_eq_true rfl) f_X9_20 d_X9_all_16 rfl rfl is_124 fr_124_7 ?_
    refine jm_iload d_X9_all_19 rfl ?_
    refine jm_iconst (v := 0) d_X9_all_21 rfl (jm_okI (by decide) (by decide)) ?_
    obtain ⟨f7, h⟩ := h
    refine jm_iastore d_X9_all_22 (ixl_127 f7.1 f7.2) ?_
    have h := h _ rfl
    refine jm_aloadn d_X9_all_23 rfl ?_
    refine jm_getF (k := 8) (ki := 8) rfl cf_X9 (Nat.le_of_ble_eq_true rfl) f_X9_23 d_X9_all_24 rfl rfl is_124 fr_124_8 ?_
    refine jm_iload d_X9_all_27 rfl ?_
    refine jm_iconst (v := 0) d_X9_all_29 rfl (jm_okI (by decide) (by decide)) ?_
    refine jm_iastore d_X9_all_30 (ixl_128 f7.1 f7.2) ?_
    have h := h _ rfl
    refine jm_aloadn d_X9_all_31 rfl ?_
    refine jm_getF (k := 9) (ki := 9) rfl cf_X9 (Nat.le_of_ble_eq_true rfl) f_X9_26 d_X9_all_32 rfl rfl is_124 fr_124_9 ?_
    refine jm_iload d_X9_all_35 rfl ?_
    refine jm_iconst (v := 0) d_X9_all_37 rfl (jm_okI (by decide) (by decide)) ?_
    refine jm_iastore d_X9_all_38 (ixl_129 f7.1 f7.2) ?_
    have h := h _ rfl
    refine jm_iinc (L' := [some (jm_R _), some (jm_R _), some (jm_R _), some (jm_I _), some (jm_I _), none]) d_X9_all_39 rfl rfl (Nat.le_of_ble_eq_true rfl) rfl ?_
    refine jm_goto (tgt := 8) d_X9_all_42 (by decide) ?_
    exact h
set_option maxRecDepth 20000 in
theorem r_X9_all_76 {E : jm_E} {d : Nat} {μ : jm_M} {Q : Option jm_V → jm_M → Prop} {v1 v2 v3 v4 v5 : Int} (h :
  ((v4 ≤ v5 →
    ((μ 124 3 ≤ 0 →
      Q (some (jm_I (μ 124 3))) (jm_up μ 124 6 0)) ∧
     (¬ (μ 124 3 ≤ 0) →
      Q (some (jm_I (μ 124 3))) (jm_up μ 124 6 (μ 124 0))))) ∧
   (¬ (v4 ≤ v5) →
    ((v3 ≠ 1 →
      jc E m_X9_take d [jm_R 124, jm_R v1, jm_I ((-1))] μ (fun (o : Option jm_V) (m4 : jm_M) => o = none →
      ((v3 ≠ 2 →
        jc E m_X9_fill d [jm_R 124, jm_R v2, jm_I 0] m4 (fun (o : Option jm_V) (m6 : jm_M) => o = none →
        jg E m_X9_all d 76 [some (jm_R 124), some (jm_R v1), some (jm_R v2), some (jm_I v3), some (jm_I v4), some (jm_I (jm_wr (v5 + 1)))] [] m6 Q)) ∧
       (¬ (v3 ≠ 2) →
        jc E m_X9_exchange d [jm_R 124, jm_I v5] m4 (fun (o : Option jm_V) (m7 : jm_M) => o = none →
        jc E m_X9_fill d [jm_R 124, jm_R v2, jm_I 0] m7 (fun (o : Option jm_V) (m8 : jm_M) => o = none →
        jg E m_X9_all d 76 [some (jm_R 124), some (jm_R v1), some (jm_R v2), some (jm_I v3), some (jm_I v4), some (jm_I (jm_wr (v5 + 1)))] [] m8 Q)))))) ∧
     (¬ (v3 ≠ 1) →
      jc E m_X9_take d [jm_R 124, jm_R v1, jm_I v5] μ (fun (o : Option jm_V) (m9 : jm_M) => o = none →
      ((v3 ≠ 2 →
        jc E m_X9_fill d [jm_R 124, jm_R v2, jm_I 0] m9 (fun (o : Option jm_V) (m11 : jm_M) => o = none →
        jg E m_X9_all d 76 [some (jm_R 124), some (jm_R v1), some (jm_R v2), some (jm_I v3), some (jm_I v4), some (jm_I (jm_wr (v5 + 1)))] [] m11 Q)) ∧
       (¬ (v3 ≠ 2) →
        jc E m_X9_exchange d [jm_R 124, jm_I v5] m9 (fun (o : Option jm_V) (m12 : jm_M) => o = none →
        jc E m_X9_fill d [jm_R 124, jm_R v2, jm_I 0] m12 (fun (o : Option jm_V) (m13 : jm_M) => o = none →
        jg E m_X9_all d 76 [some (jm_R 124), some (jm_R v1), some (jm_R v2), some (jm_I v3), some (jm_I v4), some (jm_I (jm_wr (v5 + 1)))] [] m13 Q)))))))))) : jg E m_X9_all d 76 [some (jm_R 124), some (jm_R v1), some (jm_R v2), some (jm_I v3), some (jm_I v4), some (jm_I v5)] [] μ Q := by
  refine jm_iload d_X9_all_76 rfl ?_
  refine jm_iload d_X9_all_78 rfl ?_
  refine jm_icmp_ge (tgt := 122) d_X9_all_80 (by decide) (fun c1 => ?_) (fun c1 => ?_)
  · have h := h.1 c1
    refine jm_aloadn d_X9_all_122 rfl ?_
    refine jm_aloadn d_X9_all_123 rfl ?_
    refine jm_getI (k := 3) (ki := 3) cf_X9 (Nat.le_of_ble_eq_true rfl) f_X9_49 d_X9_all_124 rfl rfl is_124 rfl ?_
    refine jm_if_le (tgt := 137) d_X9_all_127 (by decide) (fun c2 => ?_) (fun c2 => ?_)
    · have h := h.1 c2
      refine jm_iconst (v := 0) d_X9_all_137 rfl (jm_okI (by decide) (by decide)) ?_
      refine jm_putI (k := 6) (ki := 6) cf_X9 (Nat.le_of_ble_eq_true rfl) f_X9_53 d_X9_all_138 (fun z => absurd z (by decide)) rfl rfl rfl (fun _ => rfl) is_124 ?_
      refine jm_aloadn d_X9_all_141 rfl ?_
      refine jm_getI (k := 3) (ki := 3) cf_X9 (Nat.le_of_ble_eq_true rfl) f_X9_49 d_X9_all_142 rfl rfl is_124 ((jm_up_i (by decide)).trans rfl) ?_
      exact jm_ret (o := some (jm_I _)) d_X9_all_145 rfl ⟨Nat.le_refl _, Nat.le_refl _⟩ jm_r_I h rfl
    · have h := h.2 c2
      refine jm_aloadn d_X9_all_130 rfl ?_
      refine jm_getI (k := 0) (ki := 0) cf_X9 (Nat.le_of_ble_eq_true rfl) f_X9_52 d_X9_all_131 rfl rfl is_124 rfl ?_
      refine jm_goto (tgt := 138) d_X9_all_134 (by decide) ?_
      refine jm_putI (k := 6) (ki := 6) cf_X9 (Nat.le_of_ble_eq_true rfl) f_X9_53 d_X9_all_138 (fun z => absurd z (by decide)) rfl rfl rfl (fun _ => rfl) is_124 ?_
      refine jm_aloadn d_X9_all_141 rfl ?_
      refine jm_getI (k := 3) (ki := 3) cf_X9 (Nat.le_of_ble_eq_true rfl) f_X9_49 d_X9_all_142 rfl rfl is_124 ((jm_up_i (by decide)).trans rfl) ?_
      exact jm_ret (o := some (jm_I _)) d_X9_all_145 rfl ⟨Nat.le_refl _, Nat.le_refl _⟩ jm_r_I h rfl
  · have h := h.2 c1
    refine jm_aloadn d_X9_all_83 rfl ?_
    refine jm_aloadn d_X9_all_84 rfl ?_
    refine jm_iloadn d_X9_all_85 rfl ?_
    refine jm_iconst (v := 1) d_X9_all_86 rfl (jm_okI (by decide) (by decide)) ?_
    refine jm_icmp_ne (tgt := 95) d_X9_all_87 (by decide) (fun c3 => ?_) (fun c3 => ?_)
    · have h := h.1 c3
      refine jm_iconst (v := (-1)) d_X9_all_95 rfl (jm_okI (by decide) (by decide)) ?_
      refine jm_invV (n1 := jm_N) (mc := 0) (ms := 0) (av := [jm_R _, jm_I _]) w_X9_take l_X9_37 d_X9_all_96 rfl is_124 ⟨_, _, rfl⟩ ⟨Nat.le_refl _, Nat.le_refl _⟩ (Nat.le_of_ble_eq_true rfl) rfl ?_
      refine jm_Cl.mono h (fun o m4 h hr _ => ?_)
      obtain rfl := jm_rokV hr
      have h := h rfl
      refine jm_iloadn d_X9_all_99 rfl ?_
      refine jm_iconst (v := 2) d_X9_all_100 rfl (jm_okI (by decide) (by decide)) ?_
      refine jm_icmp_ne (tgt := 110) d_X9_all_101 (by decide) (fun c5 => ?_) (fun c5 => ?_)
      · have h := h.1 c5
        refine jm_aloadn d_X9_all_110 rfl ?_
        refine jm_aloadn d_X9_all_111 rfl ?_
        refine jm_iconst (v := 0) d_X9_all_112 rfl (jm_okI (by decide) (by decide)) ?_
        refine jm_invV (n1 := jm_N) (mc := 0) (ms := 0) (av := [jm_R _, jm_I _]) w_X9_fill l_X9_45 d_X9_all_113 rfl is_124 ⟨_, _, rfl⟩ ⟨Nat.le_refl _, Nat.le_refl _⟩ (Nat.le_of_ble_eq_true rfl) rfl ?_
        refine jm_Cl.mono h (fun o m6 h hr _ => ?_)
        obtain rfl := jm_rokV hr
        have h := h rfl
        refine jm_iinc (L' := [some (jm_R _), some (jm_R _), some (jm_R _), some (jm_I _), some (jm_I _), some (jm_I _)]) d_X9_all_116 rfl rfl (Nat.le_of_ble_eq_true rfl) rfl ?_
        refine jm_goto (tgt := 76) d_X9_all_119 (by decide) ?_
        exact h
      · have h := h.2 c5
        refine jm_aloadn d_X9_all_104 rfl ?_
        refine jm_iload d_X9_all_105 rfl ?_
        refine jm_invV (n1 := jm_N) (mc := 0) (ms := 0) (av := [jm_I _]) w_X9_exchange l_X9_41 d_X9_all_107 rfl is_124 ⟨_, _, rfl⟩ ⟨Nat.le_refl _, Nat.le_refl _⟩ (Nat.le_of_ble_eq_true rfl) rfl ?_
        refine jm_Cl.mono h (fun o m7 h hr _ => ?_)
        obtain rfl := jm_rokV hr
        have h := h rfl
        refine jm_aloadn d_X9_all_110 rfl ?_
        refine jm_aloadn d_X9_all_111 rfl ?_
        refine jm_iconst (v := 0) d_X9_all_112 rfl (jm_okI (by decide) (by decide)) ?_
        refine jm_invV (n1 := jm_N) (mc := 0) (ms := 0) (av := [jm_R _, jm_I _]) w_X9_fill l_X9_45 d_X9_all_113 rfl is_124 ⟨_, _, rfl⟩ ⟨Nat.le_refl _, Nat.le_refl _⟩ (Nat.le_of_ble_eq_true rfl) rfl ?_
        refine jm_Cl.mono h (fun o m8 h hr _ => ?_)
        obtain rfl := jm_rokV hr
        have h := h rfl
        refine jm_iinc (L' := [some (jm_R _), some (jm_R _), some (jm_R _), some (jm_I _), some (jm_I _), some (jm_I _)]) d_X9_all_116 rfl rfl (Nat.le_of_ble_eq_true rfl) rfl ?_
        refine jm_goto (tgt := 76) d_X9_all_119 (by decide) ?_
        exact h
    · have h := h.2 c3
      refine jm_iload d_X9_all_90 rfl ?_
      refine jm_goto (tgt := 96) d_X9_all_92 (by decide) ?_
      refine jm_invV (n1 := jm_N) (mc := 0) (ms := 0) (av := [jm_R _, jm_I _]) w_X9_take l_X9_37 d_X9_all_96 rfl is_124 ⟨_, _, rfl⟩ ⟨Nat.le_refl _, Nat.le_refl _⟩ (Nat.le_of_ble_eq_true rfl) rfl ?_
      refine jm_Cl.mono h (fun o m9 h hr _ => ?_)
      obtain rfl := jm_rokV hr
      have h := h rfl
      refine jm_iloadn d_X9_all_99 rfl ?_
      refine jm_iconst (v := 2) d_X9_all_100 rfl (jm_okI (by decide) (by decide)) ?_
      refine jm_icmp_ne (tgt := 110) d_X9_all_101 (by decide) (fun c10 => ?_) (fun c10 => ?_)
      · have h := h.1 c10
        refine jm_aloadn d_X9_all_110 rfl ?_
        refine jm_aloadn d_X9_all_111 rfl ?_
        refine jm_iconst (v := 0) d_X9_all_112 rfl (jm_okI (by decide) (by decide)) ?_
        refine jm_invV (n1 := jm_N) (mc := 0) (ms := 0) (av := [jm_R _, jm_I _]) w_X9_fill l_X9_45 d_X9_all_113 rfl is_124 ⟨_, _, rfl⟩ ⟨Nat.le_refl _, Nat.le_refl _⟩ (Nat.le_of_ble_eq_true rfl) rfl ?_
        refine jm_Cl.mono h (fun o m11 h hr _ => ?_)
        obtain rfl := jm_rokV hr
        have h := h rfl
        refine jm_iinc (L' := [some (jm_R _), some (jm_R _), some (jm_R _), some (jm_I _), some (jm_I _), some (jm_I _)]) d_X9_all_116 rfl rfl (Nat.le_of_ble_eq_true rfl) rfl ?_
        refine jm_goto (tgt := 76) d_X9_all_119 (by decide) ?_
        exact h
      · have h := h.2 c10
        refine jm_aloadn d_X9_all_104 rfl ?_
        refine jm_iload d_X9_all_105 rfl ?_
        refine jm_invV (n1 := jm_N) (mc := 0) (ms := 0) (av := [jm_I _]) w_X9_exchange l_X9_41 d_X9_all_107 rfl is_124 ⟨_, _, rfl⟩ ⟨Nat.le_refl _, Nat.le_refl _⟩ (Nat.le_of_ble_eq_true rfl) rfl ?_
        refine jm_Cl.mono h (fun o m12 h hr _ => ?_)
        obtain rfl := jm_rokV hr
        have h := h rfl
        refine jm_aloadn d_X9_all_110 rfl ?_
        refine jm_aloadn d_X9_all_111 rfl ?_
        refine jm_iconst (v := 0) d_X9_all_112 rfl (jm_okI (by decide) (by decide)) ?_
        refine jm_invV (n1 := jm_N) (mc := 0) (ms := 0) (av := [jm_R _, jm_I _]) w_X9_fill l_X9_45 d_X9_all_113 rfl is_124 ⟨_, _, rfl⟩ ⟨Nat.le_refl _, Nat.le_refl _⟩ (Nat.le_of_ble_eq_true rfl) rfl ?_
        refine jm_Cl.mono h (fun o m13 h hr _ => ?_)
        obtain rfl := jm_rokV hr
        have h := h rfl
        refine jm_iinc (L' := [some (jm_R _), some (jm_R _), some (jm_R _), some (jm_I _), some (jm_I _), some (jm_I _)]) d_X9_all_116 rfl rfl (Nat.le_of_ble_eq_true rfl) rfl ?_
        refine jm_goto (tgt := 76) d_X9_all_119 (by decide) ?_
        exact h
/-! ('CombTable$Wholes', 'sureOf', '(II)I') -/
theorem d_X9_sureOf_0 : decode m_X9_sureOf.2.1 0 = .ok (.iload_n 1, 1) := by decide +kernel
theorem d_X9_sureOf_1 : decode m_X9_sureOf.2.1 1 = .ok (.ifCond .lt 17, 3) := by decide +kernel
theorem d_X9_sureOf_4 : decode m_X9_sureOf.2.1 4 = .ok (.iload_n 1, 1) := by decide +kernel
theorem d_X9_sureOf_5 : decode m_X9_sureOf.2.1 5 = .ok (.aload_n 0, 1) := by decide +kernel
theorem d_X9_sureOf_6 : decode m_X9_sureOf.2.1 6 = .ok (.getfield 53, 3) := by decide +kernel
theorem d_X9_sureOf_9 : decode m_X9_sureOf.2.1 9 = .ok (.if_icmp .ge 9, 3) := by decide +kernel
theorem d_X9_sureOf_12 : decode m_X9_sureOf.2.1 12 = .ok (.iload_n 1, 1) := by decide +kernel
theorem d_X9_sureOf_13 : decode m_X9_sureOf.2.1 13 = .ok (.bipush 24, 2) := by decide +kernel
theorem d_X9_sureOf_15 : decode m_X9_sureOf.2.1 15 = .ok (.if_icmp .lt 5, 3) := by decide +kernel
theorem d_X9_sureOf_18 : decode m_X9_sureOf.2.1 18 = .ok (.iconst (-1), 1) := by decide +kernel
theorem d_X9_sureOf_19 : decode m_X9_sureOf.2.1 19 = .ok (.ireturn, 1) := by decide +kernel
theorem d_X9_sureOf_20 : decode m_X9_sureOf.2.1 20 = .ok (.iload_n 2, 1) := by decide +kernel
theorem d_X9_sureOf_21 : decode m_X9_sureOf.2.1 21 = .ok (.tableswitch 48 0 2 #[27, 34, 41], 27) := by decide +kernel
theorem d_X9_sureOf_48 : decode m_X9_sureOf.2.1 48 = .ok (.aload_n 0, 1) := by decide +kernel
theorem d_X9_sureOf_49 : decode m_X9_sureOf.2.1 49 = .ok (.getfield 20, 3) := by decide +kernel
theorem d_X9_sureOf_52 : decode m_X9_sureOf.2.1 52 = .ok (.iload_n 1, 1) := by decide +kernel
theorem d_X9_sureOf_53 : decode m_X9_sureOf.2.1 53 = .ok (.iaload, 1) := by decide +kernel
theorem d_X9_sureOf_54 : decode m_X9_sureOf.2.1 54 = .ok (.ireturn, 1) := by decide +kernel
theorem d_X9_sureOf_55 : decode m_X9_sureOf.2.1 55 = .ok (.aload_n 0, 1) := by decide +kernel
theorem d_X9_sureOf_56 : decode m_X9_sureOf.2.1 56 = .ok (.getfield 23, 3) := by decide +kernel
theorem d_X9_sureOf_59 : decode m_X9_sureOf.2.1 59 = .ok (.iload_n 1, 1) := by decide +kernel
theorem d_X9_sureOf_60 : decode m_X9_sureOf.2.1 60 = .ok (.iaload, 1) := by decide +kernel
theorem d_X9_sureOf_61 : decode m_X9_sureOf.2.1 61 = .ok (.ireturn, 1) := by decide +kernel
theorem d_X9_sureOf_62 : decode m_X9_sureOf.2.1 62 = .ok (.aload_n 0, 1) := by decide +kernel
theorem d_X9_sureOf_63 : decode m_X9_sureOf.2.1 63 = .ok (.getfield 26, 3) := by decide +kernel
theorem d_X9_sureOf_66 : decode m_X9_sureOf.2.1 66 = .ok (.iload_n 1, 1) := by decide +kernel
theorem d_X9_sureOf_67 : decode m_X9_sureOf.2.1 67 = .ok (.iaload, 1) := by decide +kernel
theorem d_X9_sureOf_68 : decode m_X9_sureOf.2.1 68 = .ok (.ireturn, 1) := by decide +kernel
theorem d_X9_sureOf_69 : decode m_X9_sureOf.2.1 69 = .ok (.iconst (-1), 1) := by decide +kernel
theorem d_X9_sureOf_70 : decode m_X9_sureOf.2.1 70 = .ok (.ireturn, 1) := by decide +kernel
set_option maxRecDepth 20000 in
theorem e_X9_sureOf {E : jm_E} {d : Nat} {μ : jm_M} {Q : Option jm_V → jm_M → Prop} {v1 v2 : Int} (h : (∀ v ∈ ([jm_R 124, jm_I v1, jm_I v2] : List jm_V), jm_ok v) →
  ((v1 < 0 →
    Q (some (jm_I ((-1)))) μ) ∧
   (¬ (v1 < 0) →
    ((μ 124 6 ≤ v1 →
      Q (some (jm_I ((-1)))) μ) ∧
     (¬ (μ 124 6 ≤ v1) →
      ((v1 < 24 →
        ((v2 = 0 →
          (0 ≤ v1 ∧ v1 < 24) ∧
          Q (some (jm_I (μ 127 v1))) μ) ∧
         (¬ (v2 = 0) →
          ((v2 = 1 →
            (0 ≤ v1 ∧ v1 < 24) ∧
            Q (some (jm_I (μ 128 v1))) μ) ∧
           (¬ (v2 = 1) →
            ((v2 = 2 →
              (0 ≤ v1 ∧ v1 < 24) ∧
              Q (some (jm_I (μ 129 v1))) μ) ∧
             (¬ (v2 = 2) →
              Q (some (jm_I ((-1)))) μ))))))) ∧
       (¬ (v1 < 24) →
        Q (some (jm_I ((-1)))) μ))))))) : jc E m_X9_sureOf (d + 1) [jm_R 124, jm_I v1, jm_I v2] μ Q := by
  refine jm_Cl.of2 (by decide +kernel) (L0 := [some (jm_R 124), some (jm_I v1), some (jm_I v2)]) rfl (Nat.le_of_ble_eq_true rfl) (fun hok => ?_)
  have h := h hok
  refine jm_iloadn d_X9_sureOf_0 rfl ?_
  refine jm_if_lt (tgt := 18) d_X9_sureOf_1 (by decide) (fun c1 => ?_) (fun c1 => ?_)
  · have h := h.1 c1
    refine jm_iconst (v := (-1)) d_X9_sureOf_18 rfl (jm_okI (by decide) (by decide)) ?_
    exact jm_ret (o := some (jm_I _)) d_X9_sureOf_19 rfl ⟨Nat.le_refl _, Nat.le_refl _⟩ jm_r_I h rfl
  · have h := h.2 c1
    refine jm_iloadn d_X9_sureOf_4 rfl ?_
    refine jm_aloadn d_X9_sureOf_5 rfl ?_
    refine jm_getI (k := 6) (ki := 6) cf_X9 (Nat.le_of_ble_eq_true rfl) f_X9_53 d_X9_sureOf_6 rfl rfl is_124 rfl ?_
    refine jm_icmp_ge (tgt := 18) d_X9_sureOf_9 (by decide) (fun c2 => ?_) (fun c2 => ?_)
    · have h := h.1 c2
      refine jm_iconst (v := (-1)) d_X9_sureOf_18 rfl (jm_okI (by decide) (by decide)) ?_
      exact jm_ret (o := some (jm_I _)) d_X9_sureOf_19 rfl ⟨Nat.le_refl _, Nat.le_refl _⟩ jm_r_I h rfl
    · have h := h.2 c2
      refine jm_iloadn d_X9_sureOf_12 rfl ?_
      refine jm_bipush (v := 24) d_X9_sureOf_13 rfl (jm_okI (by decide) (by decide)) ?_
      refine jm_icmp_lt (tgt := 20) d_X9_sureOf_15 (by decide) (fun c3 => ?_) (fun c3 => ?_)
      · have h := h.1 c3
        refine jm_iloadn d_X9_sureOf_20 rfl ?_
        by_cases c4 : v2 = 0
        · have h := h.1 c4
          refine jm_table (tgt := 48) (off := 27) d_X9_sureOf_21 (by rw [c4]; decide) (by rw [c4]; decide) (by rw [c4]; rfl) (by decide) ?_
          refine jm_aloadn d_X9_sureOf_48 rfl ?_
          refine jm_getF (k := 7) (ki := 7) rfl cf_X9 (Nat.le_of_ble_eq_true rfl) f_X9_20 d_X9_sureOf_49 rfl rfl is_124 fr_124_7 ?_
          refine jm_iloadn d_X9_sureOf_52 rfl ?_
          obtain ⟨f5, h⟩ := h
          refine jm_iaload d_X9_sureOf_53 (ixl_127 f5.1 f5.2) ?_
          exact jm_ret (o := some (jm_I _)) d_X9_sureOf_54 rfl ⟨Nat.le_refl _, Nat.le_refl _⟩ jm_r_I h rfl
        · have h := h.2 c4
          by_cases c6 : v2 = 1
          · have h := h.1 c6
            refine jm_table (tgt := 55) (off := 34) d_X9_sureOf_21 (by rw [c6]; decide) (by rw [c6]; decide) (by rw [c6]; rfl) (by decide) ?_
            refine jm_aloadn d_X9_sureOf_55 rfl ?_
            refine jm_getF (k := 8) (ki := 8) rfl cf_X9 (Nat.le_of_ble_eq_true rfl) f_X9_23 d_X9_sureOf_56 rfl rfl is_124 fr_124_8 ?_
            refine jm_iloadn d_X9_sureOf_59 rfl ?_
            obtain ⟨f7, h⟩ := h
            refine jm_iaload d_X9_sureOf_60 (ixl_128 f7.1 f7.2) ?_
            exact jm_ret (o := some (jm_I _)) d_X9_sureOf_61 rfl ⟨Nat.le_refl _, Nat.le_refl _⟩ jm_r_I h rfl
          · have h := h.2 c6
            by_cases c8 : v2 = 2
            · have h := h.1 c8
              refine jm_table (tgt := 62) (off := 41) d_X9_sureOf_21 (by rw [c8]; decide) (by rw [c8]; decide) (by rw [c8]; rfl) (by decide) ?_
              refine jm_aloadn d_X9_sureOf_62 rfl ?_
              refine jm_getF (k := 9) (ki := 9) rfl cf_X9 (Nat.le_of_ble_eq_true rfl) f_X9_26 d_X9_sureOf_63 rfl rfl is_124 fr_124_9 ?_
              refine jm_iloadn d_X9_sureOf_66 rfl ?_
              obtain ⟨f9, h⟩ := h
              refine jm_iaload d_X9_sureOf_67 (ixl_129 f9.1 f9.2) ?_
              exact jm_ret (o := some (jm_I _)) d_X9_sureOf_68 rfl ⟨Nat.le_refl _, Nat.le_refl _⟩ jm_r_I h rfl
            · have h := h.2 c8
              refine jm_tableD (tgt := 69) d_X9_sureOf_21 (jm_tb2 (jm_tb1 (jm_tb1 (jm_tb1 (jm_tb0 0) c4) c6) c8) rfl) (by decide) ?_
              refine jm_iconst (v := (-1)) d_X9_sureOf_69 rfl (jm_okI (by decide) (by decide)) ?_
              exact jm_ret (o := some (jm_I _)) d_X9_sureOf_70 rfl ⟨Nat.le_refl _, Nat.le_refl _⟩ jm_r_I h rfl
      · have h := h.2 c3
        refine jm_iconst (v := (-1)) d_X9_sureOf_18 rfl (jm_okI (by decide) (by decide)) ?_
        exact jm_ret (o := some (jm_I _)) d_X9_sureOf_19 rfl ⟨Nat.le_refl _, Nat.le_refl _⟩ jm_r_I h rfl
/-! ('CombTable$Wholes', 'hanging', '(LCombTable$Minutes;LCombTable$Talk;)I') -/
theorem d_X9_hanging_0 : decode m_X9_hanging.2.1 0 = .ok (.aload_n 0, 1) := by decide +kernel
theorem d_X9_hanging_1 : decode m_X9_hanging.2.1 1 = .ok (.iconst 0, 1) := by decide +kernel
theorem d_X9_hanging_2 : decode m_X9_hanging.2.1 2 = .ok (.invokevirtual 29, 3) := by decide +kernel
theorem d_X9_hanging_5 : decode m_X9_hanging.2.1 5 = .ok (.aload_n 0, 1) := by decide +kernel
theorem d_X9_hanging_6 : decode m_X9_hanging.2.1 6 = .ok (.aload_n 1, 1) := by decide +kernel
theorem d_X9_hanging_7 : decode m_X9_hanging.2.1 7 = .ok (.iconst (-1), 1) := by decide +kernel
theorem d_X9_hanging_8 : decode m_X9_hanging.2.1 8 = .ok (.invokevirtual 37, 3) := by decide +kernel
theorem d_X9_hanging_11 : decode m_X9_hanging.2.1 11 = .ok (.aload_n 0, 1) := by decide +kernel
theorem d_X9_hanging_12 : decode m_X9_hanging.2.1 12 = .ok (.aload_n 2, 1) := by decide +kernel
theorem d_X9_hanging_13 : decode m_X9_hanging.2.1 13 = .ok (.iconst 0, 1) := by decide +kernel
theorem d_X9_hanging_14 : decode m_X9_hanging.2.1 14 = .ok (.invokevirtual 45, 3) := by decide +kernel
theorem d_X9_hanging_17 : decode m_X9_hanging.2.1 17 = .ok (.aload_n 0, 1) := by decide +kernel
theorem d_X9_hanging_18 : decode m_X9_hanging.2.1 18 = .ok (.getfield 49, 3) := by decide +kernel
theorem d_X9_hanging_21 : decode m_X9_hanging.2.1 21 = .ok (.istore_n 3, 1) := by decide +kernel
theorem d_X9_hanging_22 : decode m_X9_hanging.2.1 22 = .ok (.iload_n 3, 1) := by decide +kernel
theorem d_X9_hanging_23 : decode m_X9_hanging.2.1 23 = .ok (.ifCond .ne 5, 3) := by decide +kernel
theorem d_X9_hanging_26 : decode m_X9_hanging.2.1 26 = .ok (.iconst (-1), 1) := by decide +kernel
theorem d_X9_hanging_27 : decode m_X9_hanging.2.1 27 = .ok (.ireturn, 1) := by decide +kernel
theorem d_X9_hanging_28 : decode m_X9_hanging.2.1 28 = .ok (.iconst 0, 1) := by decide +kernel
theorem d_X9_hanging_29 : decode m_X9_hanging.2.1 29 = .ok (.istore 4, 2) := by decide +kernel
theorem d_X9_hanging_31 : decode m_X9_hanging.2.1 31 = .ok (.iconst 0, 1) := by decide +kernel
theorem d_X9_hanging_32 : decode m_X9_hanging.2.1 32 = .ok (.istore 5, 2) := by decide +kernel
theorem d_X9_hanging_34 : decode m_X9_hanging.2.1 34 = .ok (.iload 5, 2) := by decide +kernel
theorem d_X9_hanging_36 : decode m_X9_hanging.2.1 36 = .ok (.aload_n 1, 1) := by decide +kernel
theorem d_X9_hanging_37 : decode m_X9_hanging.2.1 37 = .ok (.getfield 33, 3) := by decide +kernel
theorem d_X9_hanging_40 : decode m_X9_hanging.2.1 40 = .ok (.if_icmp .ge 50, 3) := by decide +kernel
theorem d_X9_hanging_43 : decode m_X9_hanging.2.1 43 = .ok (.aload_n 1, 1) := by decide +kernel
theorem d_X9_hanging_44 : decode m_X9_hanging.2.1 44 = .ok (.iload 5, 2) := by decide +kernel
theorem d_X9_hanging_46 : decode m_X9_hanging.2.1 46 = .ok (.invokevirtual 56, 3) := by decide +kernel
theorem d_X9_hanging_49 : decode m_X9_hanging.2.1 49 = .ok (.iconst (-1), 1) := by decide +kernel
theorem d_X9_hanging_50 : decode m_X9_hanging.2.1 50 = .ok (.if_icmp .eq 34, 3) := by decide +kernel
theorem d_X9_hanging_53 : decode m_X9_hanging.2.1 53 = .ok (.aload_n 1, 1) := by decide +kernel
theorem d_X9_hanging_54 : decode m_X9_hanging.2.1 54 = .ok (.iload 5, 2) := by decide +kernel
theorem d_X9_hanging_56 : decode m_X9_hanging.2.1 56 = .ok (.invokevirtual 60, 3) := by decide +kernel
theorem d_X9_hanging_59 : decode m_X9_hanging.2.1 59 = .ok (.iconst (-1), 1) := by decide +kernel
theorem d_X9_hanging_60 : decode m_X9_hanging.2.1 60 = .ok (.if_icmp .eq 24, 3) := by decide +kernel
theorem d_X9_hanging_63 : decode m_X9_hanging.2.1 63 = .ok (.aload_n 0, 1) := by decide +kernel
theorem d_X9_hanging_64 : decode m_X9_hanging.2.1 64 = .ok (.aload_n 1, 1) := by decide +kernel
theorem d_X9_hanging_65 : decode m_X9_hanging.2.1 65 = .ok (.aload_n 2, 1) := by decide +kernel
theorem d_X9_hanging_66 : decode m_X9_hanging.2.1 66 = .ok (.iload 5, 2) := by decide +kernel
theorem d_X9_hanging_68 : decode m_X9_hanging.2.1 68 = .ok (.iload_n 3, 1) := by decide +kernel
theorem d_X9_hanging_69 : decode m_X9_hanging.2.1 69 = .ok (.invokevirtual 63, 3) := by decide +kernel
theorem d_X9_hanging_72 : decode m_X9_hanging.2.1 72 = .ok (.ifCond .eq 12, 3) := by decide +kernel
theorem d_X9_hanging_75 : decode m_X9_hanging.2.1 75 = .ok (.iload 4, 2) := by decide +kernel
theorem d_X9_hanging_77 : decode m_X9_hanging.2.1 77 = .ok (.iconst 1, 1) := by decide +kernel
theorem d_X9_hanging_78 : decode m_X9_hanging.2.1 78 = .ok (.iload 5, 2) := by decide +kernel
theorem d_X9_hanging_80 : decode m_X9_hanging.2.1 80 = .ok (.ishl, 1) := by decide +kernel
theorem d_X9_hanging_81 : decode m_X9_hanging.2.1 81 = .ok (.ior, 1) := by decide +kernel
theorem d_X9_hanging_82 : decode m_X9_hanging.2.1 82 = .ok (.istore 4, 2) := by decide +kernel
theorem d_X9_hanging_84 : decode m_X9_hanging.2.1 84 = .ok (.iinc 5 1, 3) := by decide +kernel
theorem d_X9_hanging_87 : decode m_X9_hanging.2.1 87 = .ok (.goto (-53), 3) := by decide +kernel
theorem d_X9_hanging_90 : decode m_X9_hanging.2.1 90 = .ok (.iload 4, 2) := by decide +kernel
theorem d_X9_hanging_92 : decode m_X9_hanging.2.1 92 = .ok (.ireturn, 1) := by decide +kernel
set_option maxRecDepth 20000 in
theorem e_X9_hanging {E : jm_E} {d : Nat} {μ : jm_M} {Q : Option jm_V → jm_M → Prop} {v1 v2 : Int} (h : (∀ v ∈ ([jm_R 124, jm_R v1, jm_R v2] : List jm_V), jm_ok v) →
  jc E m_X9_start d [jm_R 124, jm_I 0] μ (fun (o : Option jm_V) (m1 : jm_M) => o = none →
  jc E m_X9_take d [jm_R 124, jm_R v1, jm_I ((-1))] m1 (fun (o : Option jm_V) (m2 : jm_M) => o = none →
  jc E m_X9_fill d [jm_R 124, jm_R v2, jm_I 0] m2 (fun (o : Option jm_V) (m3 : jm_M) => o = none →
  ((m3 124 3 ≠ 0 →
    jg E m_X9_hanging d 34 [some (jm_R 124), some (jm_R v1), some (jm_R v2), some (jm_I (m3 124 3)), some (jm_I 0), some (jm_I 0)] [] m3 Q) ∧
   (¬ (m3 124 3 ≠ 0) →
    Q (some (jm_I ((-1)))) m3)))))) : jc E m_X9_hanging (d + 1) [jm_R 124, jm_R v1, jm_R v2] μ Q := by
  refine jm_Cl.of2 (by decide +kernel) (L0 := [some (jm_R 124), some (jm_R v1), some (jm_R v2), none, none, none]) rfl (Nat.le_of_ble_eq_true rfl) (fun hok => ?_)
  have h := h hok
  refine jm_aloadn d_X9_hanging_0 rfl ?_
  refine jm_iconst (v := 0) d_X9_hanging_1 rfl (jm_okI (by decide) (by decide)) ?_
  refine jm_invV (n1 := jm_N) (mc := 0) (ms := 0) (av := [jm_I _]) w_X9_start l_X9_29 d_X9_hanging_2 rfl is_124 ⟨_, _, rfl⟩ ⟨Nat.le_refl _, Nat.le_refl _⟩ (Nat.le_of_ble_eq_true rfl) rfl ?_
  refine jm_Cl.mono h (fun o m1 h hr _ => ?_)
  obtain rfl := jm_rokV hr
  have h := h rfl
  refine jm_aloadn d_X9_hanging_5 rfl ?_
  refine jm_aloadn d_X9_hanging_6 rfl ?_
  refine jm_iconst (v := (-1)) d_X9_hanging_7 rfl (jm_okI (by decide) (by decide)) ?_
  refine jm_invV (n1 := jm_N) (mc := 0) (ms := 0) (av := [jm_R _, jm_I _]) w_X9_take l_X9_37 d_X9_hanging_8 rfl is_124 ⟨_, _, rfl⟩ ⟨Nat.le_refl _, Nat.le_refl _⟩ (Nat.le_of_ble_eq_true rfl) rfl ?_
  refine jm_Cl.mono h (fun o m2 h hr _ => ?_)
  obtain rfl := jm_rokV hr
  have h := h rfl
  refine jm_aloadn d_X9_hanging_11 rfl ?_
  refine jm_aloadn d_X9_hanging_12 rfl ?_
  refine jm_iconst (v := 0) d_X9_hanging_13 rfl (jm_okI (by decide) (by decide)) ?_
  refine jm_invV (n1 := jm_N) (mc := 0) (ms := 0) (av := [jm_R _, jm_I _]) w_X9_fill l_X9_45 d_X9_hanging_14 rfl is_124 ⟨_, _, rfl⟩ ⟨Nat.le_refl _, Nat.le_refl _⟩ (Nat.le_of_ble_eq_true rfl) rfl ?_
  refine jm_Cl.mono h (fun o m3 h hr _ => ?_)
  obtain rfl := jm_rokV hr
  have h := h rfl
  refine jm_aloadn d_X9_hanging_17 rfl ?_
  refine jm_getI (k := 3) (ki := 3) cf_X9 (Nat.le_of_ble_eq_true rfl) f_X9_49 d_X9_hanging_18 rfl rfl is_124 rfl ?_
  refine jm_istoren (L' := [some (jm_R _), some (jm_R _), some (jm_R _), some (jm_I _), none, none]) d_X9_hanging_21 (Nat.le_of_ble_eq_true rfl) rfl ?_
  refine jm_iloadn d_X9_hanging_22 rfl ?_
  refine jm_if_ne (tgt := 28) d_X9_hanging_23 (by decide) (fun c4 => ?_) (fun c4 => ?_)
  · have h := h.1 c4
    refine jm_iconst (v := 0) d_X9_hanging_28 rfl (jm_okI (by decide) (by decide)) ?_
    refine jm_istore (L' := [some (jm_R _), some (jm_R _), some (jm_R _), some (jm_I _), some (jm_I _), none]) d_X9_hanging_29 (Nat.le_of_ble_eq_true rfl) rfl ?_
    refine jm_iconst (v := 0) d_X9_hanging_31 rfl (jm_okI (by decide) (by decide)) ?_
    refine jm_istore (L' := [some (jm_R _), some (jm_R _), some (jm_R _), some (jm_I _), some (jm_I _), some (jm_I _)]) d_X9_hanging_32 (Nat.le_of_ble_eq_true rfl) rfl ?_
    exact h
  · have h := h.2 c4
    refine jm_iconst (v := (-1)) d_X9_hanging_26 rfl (jm_okI (by decide) (by decide)) ?_
    exact jm_ret (o := some (jm_I _)) d_X9_hanging_27 rfl ⟨Nat.le_refl _, Nat.le_refl _⟩ jm_r_I h rfl
set_option maxRecDepth 20000 in
theorem r_X9_hanging_34 {E : jm_E} {d : Nat} {μ : jm_M} {Q : Option jm_V → jm_M → Prop} {v1 v2 v3 v4 v5 : Int} (h :
  (jm_is jm_N v1 1 1) ∧
  ((μ v1 0 ≤ v5 →
    Q (some (jm_I v4)) μ) ∧
   (¬ (μ v1 0 ≤ v5) →
    jc E m_X1_whoAt d [jm_R v1, jm_I v5] μ (fun (o : Option jm_V) (m3 : jm_M) => ∀ r4 : Int, o = some (jm_I r4) →
    ((r4 = ((-1)) →
      jg E m_X9_hanging d 34 [some (jm_R 124), some (jm_R v1), some (jm_R v2), some (jm_I v3), some (jm_I v4), some (jm_I (jm_wr (v5 + 1)))] [] m3 Q) ∧
     (¬ (r4 = ((-1))) →
      jc E m_X1_kindAt d [jm_R v1, jm_I v5] m3 (fun (o : Option jm_V) (m6 : jm_M) => ∀ r7 : Int, o = some (jm_I r7) →
      ((r7 = ((-1)) →
        jg E m_X9_hanging d 34 [some (jm_R 124), some (jm_R v1), some (jm_R v2), some (jm_I v3), some (jm_I v4), some (jm_I (jm_wr (v5 + 1)))] [] m6 Q) ∧
       (¬ (r7 = ((-1))) →
        jc E m_X9_looser d [jm_R 124, jm_R v1, jm_R v2, jm_I v5, jm_I v3] m6 (fun (o : Option jm_V) (m9 : jm_M) => ∀ r10 : Int, o = some (jm_I r10) → (r10 = 0 ∨ r10 = 1) →
        ((r10 = 0 →
          jg E m_X9_hanging d 34 [some (jm_R 124), some (jm_R v1), some (jm_R v2), some (jm_I v3), some (jm_I v4), some (jm_I (jm_wr (v5 + 1)))] [] m9 Q) ∧
         (¬ (r10 = 0) →
          ∀ x13 : Int, x13 = jm_or v4 (jm_shl 1 v5) →
          jg E m_X9_hanging d 34 [some (jm_R 124), some (jm_R v1), some (jm_R v2), some (jm_I v3), some (jm_I x13), some (jm_I (jm_wr (v5 + 1)))] [] m9 Q)))))))))))) : jg E m_X9_hanging d 34 [some (jm_R 124), some (jm_R v1), some (jm_R v2), some (jm_I v3), some (jm_I v4), some (jm_I v5)] [] μ Q := by
  refine jm_iload d_X9_hanging_34 rfl ?_
  refine jm_aloadn d_X9_hanging_36 rfl ?_
  obtain ⟨f1, h⟩ := h
  refine jm_getI (k := 0) (ki := 0) cf_X1 (Nat.le_of_ble_eq_true rfl) f_X9_33 d_X9_hanging_37 rfl rfl f1 rfl ?_
  refine jm_icmp_ge (tgt := 90) d_X9_hanging_40 (by decide) (fun c2 => ?_) (fun c2 => ?_)
  · have h := h.1 c2
    refine jm_iload d_X9_hanging_90 rfl ?_
    exact jm_ret (o := some (jm_I _)) d_X9_hanging_92 rfl ⟨Nat.le_refl _, Nat.le_refl _⟩ jm_r_I h rfl
  · have h := h.2 c2
    refine jm_aloadn d_X9_hanging_43 rfl ?_
    refine jm_iload d_X9_hanging_44 rfl ?_
    refine jm_invV (n1 := jm_N) (mc := 0) (ms := 0) (av := [jm_I _]) w_X1_whoAt l_X9_56 d_X9_hanging_46 rfl f1 ⟨_, _, rfl⟩ ⟨Nat.le_refl _, Nat.le_refl _⟩ (Nat.le_of_ble_eq_true rfl) rfl ?_
    refine jm_Cl.mono h (fun o m3 h hr _ => ?_)
    obtain ⟨r4, rfl⟩ := jm_rokI hr
    have h := h _ rfl
    refine jm_iconst (v := (-1)) d_X9_hanging_49 rfl (jm_okI (by decide) (by decide)) ?_
    refine jm_icmp_eq (tgt := 84) d_X9_hanging_50 (by decide) (fun c5 => ?_) (fun c5 => ?_)
    · have h := h.1 c5
      refine jm_iinc (L' := [some (jm_R _), some (jm_R _), some (jm_R _), some (jm_I _), some (jm_I _), some (jm_I _)]) d_X9_hanging_84 rfl rfl (Nat.le_of_ble_eq_true rfl) rfl ?_
      refine jm_goto (tgt := 34) d_X9_hanging_87 (by decide) ?_
      exact h
    · have h := h.2 c5
      refine jm_aloadn d_X9_hanging_53 rfl ?_
      refine jm_iload d_X9_hanging_54 rfl ?_
      refine jm_invV (n1 := jm_N) (mc := 0) (ms := 0) (av := [jm_I _]) w_X1_kindAt l_X9_60 d_X9_hanging_56 rfl f1 ⟨_, _, rfl⟩ ⟨Nat.le_refl _, Nat.le_refl _⟩ (Nat.le_of_ble_eq_true rfl) rfl ?_
      refine jm_Cl.mono h (fun o m6 h hr _ => ?_)
      obtain ⟨r7, rfl⟩ := jm_rokI hr
      have h := h _ rfl
      refine jm_iconst (v := (-1)) d_X9_hanging_59 rfl (jm_okI (by decide) (by decide)) ?_
      refine jm_icmp_eq (tgt := 84) d_X9_hanging_60 (by decide) (fun c8 => ?_) (fun c8 => ?_)
      · have h := h.1 c8
        refine jm_iinc (L' := [some (jm_R _), some (jm_R _), some (jm_R _), some (jm_I _), some (jm_I _), some (jm_I _)]) d_X9_hanging_84 rfl rfl (Nat.le_of_ble_eq_true rfl) rfl ?_
        refine jm_goto (tgt := 34) d_X9_hanging_87 (by decide) ?_
        exact h
      · have h := h.2 c8
        refine jm_aloadn d_X9_hanging_63 rfl ?_
        refine jm_aloadn d_X9_hanging_64 rfl ?_
        refine jm_aloadn d_X9_hanging_65 rfl ?_
        refine jm_iload d_X9_hanging_66 rfl ?_
        refine jm_iloadn d_X9_hanging_68 rfl ?_
        refine jm_invV (n1 := jm_N) (mc := 0) (ms := 0) (av := [jm_R _, jm_R _, jm_I _, jm_I _]) w_X9_looser l_X9_63 d_X9_hanging_69 rfl is_124 ⟨_, _, rfl⟩ ⟨Nat.le_refl _, Nat.le_refl _⟩ (Nat.le_of_ble_eq_true rfl) rfl ?_
        refine jm_Cl.mono h (fun o m9 h hr _ => ?_)
        obtain ⟨r10, rfl, z11⟩ := jm_rokZ hr
        have h := h _ rfl z11
        refine jm_if_eq (tgt := 84) d_X9_hanging_72 (by decide) (fun c12 => ?_) (fun c12 => ?_)
        · have h := h.1 c12
          refine jm_iinc (L' := [some (jm_R _), some (jm_R _), some (jm_R _), some (jm_I _), some (jm_I _), some (jm_I _)]) d_X9_hanging_84 rfl rfl (Nat.le_of_ble_eq_true rfl) rfl ?_
          refine jm_goto (tgt := 34) d_X9_hanging_87 (by decide) ?_
          exact h
        · have h := h.2 c12
          refine jm_iload d_X9_hanging_75 rfl ?_
          refine jm_iconst (v := 1) d_X9_hanging_77 rfl (jm_okI (by decide) (by decide)) ?_
          refine jm_iload d_X9_hanging_78 rfl ?_
          refine jm_ishl d_X9_hanging_80 ?_
          refine jm_ior d_X9_hanging_81 ?_
          have h := h _ rfl
          refine jm_istore (L' := [some (jm_R _), some (jm_R _), some (jm_R _), some (jm_I _), some (jm_I _), some (jm_I _)]) d_X9_hanging_82 (Nat.le_of_ble_eq_true rfl) rfl ?_
          refine jm_iinc (L' := [some (jm_R _), some (jm_R _), some (jm_R _), some (jm_I _), some (jm_I _), some (jm_I _)]) d_X9_hanging_84 rfl rfl (Nat.le_of_ble_eq_true rfl) rfl ?_
          refine jm_goto (tgt := 34) d_X9_hanging_87 (by decide) ?_
          exact h
/-! ('CombTable$Wholes', 'looser', '(LCombTable$Minutes;LCombTable$Talk;II)Z') -/
theorem d_X9_looser_0 : decode m_X9_looser.2.1 0 = .ok (.aload_n 0, 1) := by decide +kernel
theorem d_X9_looser_1 : decode m_X9_looser.2.1 1 = .ok (.aload_n 1, 1) := by decide +kernel
theorem d_X9_looser_2 : decode m_X9_looser.2.1 2 = .ok (.iconst (-1), 1) := by decide +kernel
theorem d_X9_looser_3 : decode m_X9_looser.2.1 3 = .ok (.invokevirtual 37, 3) := by decide +kernel
theorem d_X9_looser_6 : decode m_X9_looser.2.1 6 = .ok (.iload_n 3, 1) := by decide +kernel
theorem d_X9_looser_7 : decode m_X9_looser.2.1 7 = .ok (.ifCond .lt 25, 3) := by decide +kernel
theorem d_X9_looser_10 : decode m_X9_looser.2.1 10 = .ok (.iload_n 3, 1) := by decide +kernel
theorem d_X9_looser_11 : decode m_X9_looser.2.1 11 = .ok (.aload_n 0, 1) := by decide +kernel
theorem d_X9_looser_12 : decode m_X9_looser.2.1 12 = .ok (.getfield 52, 3) := by decide +kernel
theorem d_X9_looser_15 : decode m_X9_looser.2.1 15 = .ok (.if_icmp .ge 17, 3) := by decide +kernel
theorem d_X9_looser_18 : decode m_X9_looser.2.1 18 = .ok (.aload_n 0, 1) := by decide +kernel
theorem d_X9_looser_19 : decode m_X9_looser.2.1 19 = .ok (.getfield 11, 3) := by decide +kernel
theorem d_X9_looser_22 : decode m_X9_looser.2.1 22 = .ok (.iload_n 3, 1) := by decide +kernel
theorem d_X9_looser_23 : decode m_X9_looser.2.1 23 = .ok (.iconst (-1), 1) := by decide +kernel
theorem d_X9_looser_24 : decode m_X9_looser.2.1 24 = .ok (.iastore, 1) := by decide +kernel
theorem d_X9_looser_25 : decode m_X9_looser.2.1 25 = .ok (.aload_n 0, 1) := by decide +kernel
theorem d_X9_looser_26 : decode m_X9_looser.2.1 26 = .ok (.getfield 17, 3) := by decide +kernel
theorem d_X9_looser_29 : decode m_X9_looser.2.1 29 = .ok (.iload_n 3, 1) := by decide +kernel
theorem d_X9_looser_30 : decode m_X9_looser.2.1 30 = .ok (.iconst (-1), 1) := by decide +kernel
theorem d_X9_looser_31 : decode m_X9_looser.2.1 31 = .ok (.iastore, 1) := by decide +kernel
theorem d_X9_looser_32 : decode m_X9_looser.2.1 32 = .ok (.aload_n 0, 1) := by decide +kernel
theorem d_X9_looser_33 : decode m_X9_looser.2.1 33 = .ok (.iconst 0, 1) := by decide +kernel
theorem d_X9_looser_34 : decode m_X9_looser.2.1 34 = .ok (.putfield 49, 3) := by decide +kernel
theorem d_X9_looser_37 : decode m_X9_looser.2.1 37 = .ok (.aload_n 0, 1) := by decide +kernel
theorem d_X9_looser_38 : decode m_X9_looser.2.1 38 = .ok (.iload 4, 2) := by decide +kernel
theorem d_X9_looser_40 : decode m_X9_looser.2.1 40 = .ok (.putfield 67, 3) := by decide +kernel
theorem d_X9_looser_43 : decode m_X9_looser.2.1 43 = .ok (.aload_n 0, 1) := by decide +kernel
theorem d_X9_looser_44 : decode m_X9_looser.2.1 44 = .ok (.aload_n 2, 1) := by decide +kernel
theorem d_X9_looser_45 : decode m_X9_looser.2.1 45 = .ok (.iconst 0, 1) := by decide +kernel
theorem d_X9_looser_46 : decode m_X9_looser.2.1 46 = .ok (.invokevirtual 45, 3) := by decide +kernel
theorem d_X9_looser_49 : decode m_X9_looser.2.1 49 = .ok (.aload_n 0, 1) := by decide +kernel
theorem d_X9_looser_50 : decode m_X9_looser.2.1 50 = .ok (.getfield 49, 3) := by decide +kernel
theorem d_X9_looser_53 : decode m_X9_looser.2.1 53 = .ok (.iload 4, 2) := by decide +kernel
theorem d_X9_looser_55 : decode m_X9_looser.2.1 55 = .ok (.if_icmp .le 7, 3) := by decide +kernel
theorem d_X9_looser_58 : decode m_X9_looser.2.1 58 = .ok (.iconst 1, 1) := by decide +kernel
theorem d_X9_looser_59 : decode m_X9_looser.2.1 59 = .ok (.goto 4, 3) := by decide +kernel
theorem d_X9_looser_62 : decode m_X9_looser.2.1 62 = .ok (.iconst 0, 1) := by decide +kernel
theorem d_X9_looser_63 : decode m_X9_looser.2.1 63 = .ok (.ireturn, 1) := by decide +kernel
set_option maxRecDepth 20000 in
theorem e_X9_looser {E : jm_E} {d : Nat} {μ : jm_M} {Q : Option jm_V → jm_M → Prop} {v1 v2 v3 v4 : Int} (h : (∀ v ∈ ([jm_R 124, jm_R v1, jm_R v2, jm_I v3, jm_I v4] : List jm_V), jm_ok v) →
  jc E m_X9_take d [jm_R 124, jm_R v1, jm_I ((-1))] μ (fun (o : Option jm_V) (m1 : jm_M) => o = none →
  ((v3 < 0 →
    jg E m_X9_looser d 32 [some (jm_R 124), none, some (jm_R v2), none, some (jm_I v4)] [] m1 Q) ∧
   (¬ (v3 < 0) →
    ((m1 124 0 ≤ v3 →
      jg E m_X9_looser d 32 [some (jm_R 124), none, some (jm_R v2), none, some (jm_I v4)] [] m1 Q) ∧
     (¬ (m1 124 0 ≤ v3) →
      (0 ≤ v3 ∧ v3 < 24) ∧
      ∀ m5 : jm_M, m5 = (jm_up m1 125 v3 ((-1))) →
      ∀ m6 : jm_M, m6 = (jm_up m5 126 v3 ((-1))) →
      jg E m_X9_looser d 32 [some (jm_R 124), none, some (jm_R v2), none, some (jm_I v4)] [] m6 Q)))))) : jc E m_X9_looser (d + 1) [jm_R 124, jm_R v1, jm_R v2, jm_I v3, jm_I v4] μ Q := by
  refine jm_Cl.of2 (by decide +kernel) (L0 := [some (jm_R 124), some (jm_R v1), some (jm_R v2), some (jm_I v3), some (jm_I v4)]) rfl (Nat.le_of_ble_eq_true rfl) (fun hok => ?_)
  have h := h hok
  refine jm_aloadn d_X9_looser_0 rfl ?_
  refine jm_aloadn d_X9_looser_1 rfl ?_
  refine jm_iconst (v := (-1)) d_X9_looser_2 rfl (jm_okI (by decide) (by decide)) ?_
  refine jm_invV (n1 := jm_N) (mc := 0) (ms := 0) (av := [jm_R _, jm_I _]) w_X9_take l_X9_37 d_X9_looser_3 rfl is_124 ⟨_, _, rfl⟩ ⟨Nat.le_refl _, Nat.le_refl _⟩ (Nat.le_of_ble_eq_true rfl) rfl ?_
  refine jm_Cl.mono h (fun o m1 h hr _ => ?_)
  obtain rfl := jm_rokV hr
  have h := h rfl
  refine jm_iloadn d_X9_looser_6 rfl ?_
  refine jm_if_lt (tgt := 32) d_X9_looser_7 (by decide) (fun c2 => ?_) (fun c2 => ?_)
  · have h := h.1 c2
    exact jm_weak2 h (And.intro rfl (And.intro rfl (And.intro rfl trivial)))
  · have h := h.2 c2
    refine jm_iloadn d_X9_looser_10 rfl ?_
    refine jm_aloadn d_X9_looser_11 rfl ?_
    refine jm_getI (k := 0) (ki := 0) cf_X9 (Nat.le_of_ble_eq_true rfl) f_X9_52 d_X9_looser_12 rfl rfl is_124 rfl ?_
    refine jm_icmp_ge (tgt := 32) d_X9_looser_15 (by decide) (fun c3 => ?_) (fun c3 => ?_)
    · have h := h.1 c3
      exact jm_weak2 h (And.intro rfl (And.intro rfl (And.intro rfl trivial)))
    · have h := h.2 c3
      refine jm_aloadn d_X9_looser_18 rfl ?_
      refine jm_getF (k := 1) (ki := 1) rfl cf_X9 (Nat.le_of_ble_eq_true rfl) f_X9_11 d_X9_looser_19 rfl rfl is_124 fr_124_1 ?_
      refine jm_iloadn d_X9_looser_22 rfl ?_
      refine jm_iconst (v := (-1)) d_X9_looser_23 rfl (jm_okI (by decide) (by decide)) ?_
      obtain ⟨f4, h⟩ := h
      refine jm_iastore d_X9_looser_24 (ixl_125 f4.1 f4.2) ?_
      have h := h _ rfl
      refine jm_aloadn d_X9_looser_25 rfl ?_
      refine jm_getF (k := 2) (ki := 2) rfl cf_X9 (Nat.le_of_ble_eq_true rfl) f_X9_17 d_X9_looser_26 rfl rfl is_124 fr_124_2 ?_
      refine jm_iloadn d_X9_looser_29 rfl ?_
      refine jm_iconst (v := (-1)) d_X9_looser_30 rfl (jm_okI (by decide) (by decide)) ?_
      refine jm_iastore d_X9_looser_31 (ixl_126 f4.1 f4.2) ?_
      have h := h _ rfl
      exact jm_weak2 h (And.intro rfl (And.intro rfl (And.intro rfl trivial)))
set_option maxRecDepth 20000 in
theorem r_X9_looser_32 {E : jm_E} {d : Nat} {μ : jm_M} {Q : Option jm_V → jm_M → Prop} {v2 v4 : Int} (h :
  jc E m_X9_fill d [jm_R 124, jm_R v2, jm_I 0] (jm_up (jm_up μ 124 3 0) 124 4 v4) (fun (o : Option jm_V) (m1 : jm_M) => o = none →
  ((m1 124 3 ≤ v4 →
    Q (some (jm_I 0)) m1) ∧
   (¬ (m1 124 3 ≤ v4) →
    Q (some (jm_I 1)) m1)))) : jg E m_X9_looser d 32 [some (jm_R 124), none, some (jm_R v2), none, some (jm_I v4)] [] μ Q := by
  refine jm_aloadn d_X9_looser_32 rfl ?_
  refine jm_iconst (v := 0) d_X9_looser_33 rfl (jm_okI (by decide) (by decide)) ?_
  refine jm_putI (k := 3) (ki := 3) cf_X9 (Nat.le_of_ble_eq_true rfl) f_X9_49 d_X9_looser_34 (fun z => absurd z (by decide)) rfl rfl rfl (fun _ => rfl) is_124 ?_
  refine jm_aloadn d_X9_looser_37 rfl ?_
  refine jm_iload d_X9_looser_38 rfl ?_
  refine jm_putI (k := 4) (ki := 4) cf_X9 (Nat.le_of_ble_eq_true rfl) f_X9_67 d_X9_looser_40 (fun z => absurd z (by decide)) rfl rfl rfl (fun _ => rfl) is_124 ?_
  refine jm_aloadn d_X9_looser_43 rfl ?_
  refine jm_aloadn d_X9_looser_44 rfl ?_
  refine jm_iconst (v := 0) d_X9_looser_45 rfl (jm_okI (by decide) (by decide)) ?_
  refine jm_invV (n1 := jm_N) (mc := 0) (ms := 0) (av := [jm_R _, jm_I _]) w_X9_fill l_X9_45 d_X9_looser_46 rfl is_124 ⟨_, _, rfl⟩ ⟨Nat.le_refl _, Nat.le_refl _⟩ (Nat.le_of_ble_eq_true rfl) rfl ?_
  refine jm_Cl.mono h (fun o m1 h hr _ => ?_)
  obtain rfl := jm_rokV hr
  have h := h rfl
  refine jm_aloadn d_X9_looser_49 rfl ?_
  refine jm_getI (k := 3) (ki := 3) cf_X9 (Nat.le_of_ble_eq_true rfl) f_X9_49 d_X9_looser_50 rfl rfl is_124 rfl ?_
  refine jm_iload d_X9_looser_53 rfl ?_
  refine jm_icmp_le (tgt := 62) d_X9_looser_55 (by decide) (fun c2 => ?_) (fun c2 => ?_)
  · have h := h.1 c2
    refine jm_iconst (v := 0) d_X9_looser_62 rfl (jm_okI (by decide) (by decide)) ?_
    exact jm_ret (o := some (jm_I _)) d_X9_looser_63 rfl ⟨Nat.le_refl _, Nat.le_refl _⟩ (jm_r_Z (by decide)) h rfl
  · have h := h.2 c2
    refine jm_iconst (v := 1) d_X9_looser_58 rfl (jm_okI (by decide) (by decide)) ?_
    refine jm_goto (tgt := 63) d_X9_looser_59 (by decide) ?_
    exact jm_ret (o := some (jm_I _)) d_X9_looser_63 rfl ⟨Nat.le_refl _, Nat.le_refl _⟩ (jm_r_Z (by decide)) h rfl
/-! ('CombTable$Wholes', 'start', '(Z)V') -/
theorem d_X9_start_0 : decode m_X9_start.2.1 0 = .ok (.aload_n 0, 1) := by decide +kernel
theorem d_X9_start_1 : decode m_X9_start.2.1 1 = .ok (.iload_n 1, 1) := by decide +kernel
theorem d_X9_start_2 : decode m_X9_start.2.1 2 = .ok (.putfield 70, 3) := by decide +kernel
theorem d_X9_start_5 : decode m_X9_start.2.1 5 = .ok (.aload_n 0, 1) := by decide +kernel
theorem d_X9_start_6 : decode m_X9_start.2.1 6 = .ok (.iconst 0, 1) := by decide +kernel
theorem d_X9_start_7 : decode m_X9_start.2.1 7 = .ok (.putfield 52, 3) := by decide +kernel
theorem d_X9_start_10 : decode m_X9_start.2.1 10 = .ok (.aload_n 0, 1) := by decide +kernel
theorem d_X9_start_11 : decode m_X9_start.2.1 11 = .ok (.iconst 0, 1) := by decide +kernel
theorem d_X9_start_12 : decode m_X9_start.2.1 12 = .ok (.putfield 49, 3) := by decide +kernel
theorem d_X9_start_15 : decode m_X9_start.2.1 15 = .ok (.aload_n 0, 1) := by decide +kernel
theorem d_X9_start_16 : decode m_X9_start.2.1 16 = .ok (.ldc 74, 2) := by decide +kernel
theorem d_X9_start_18 : decode m_X9_start.2.1 18 = .ok (.putfield 67, 3) := by decide +kernel
theorem d_X9_start_21 : decode m_X9_start.2.1 21 = .ok (.return_, 1) := by decide +kernel
set_option maxRecDepth 20000 in
theorem e_X9_start {E : jm_E} {d : Nat} {μ : jm_M} {Q : Option jm_V → jm_M → Prop} {v1 : Int} (h : (∀ v ∈ ([jm_R 124, jm_I v1] : List jm_V), jm_ok v) →
  (v1 = 0 ∨ v1 = 1) ∧
  Q none (jm_up (jm_up (jm_up (jm_up μ 124 5 v1) 124 0 0) 124 3 0) 124 4 1000000)) : jc E m_X9_start (d + 1) [jm_R 124, jm_I v1] μ Q := by
  refine jm_Cl.of2 (by decide +kernel) (L0 := [some (jm_R 124), some (jm_I v1)]) rfl (Nat.le_of_ble_eq_true rfl) (fun hok => ?_)
  have h := h hok
  refine jm_aloadn d_X9_start_0 rfl ?_
  refine jm_iloadn d_X9_start_1 rfl ?_
  obtain ⟨f1, h⟩ := h
  refine jm_putZ (k := 5) (ki := 5) cf_X9 (Nat.le_of_ble_eq_true rfl) f_X9_70 d_X9_start_2 (fun z => absurd z (by decide)) rfl rfl rfl f1 (fun _ => rfl) is_124 ?_
  refine jm_aloadn d_X9_start_5 rfl ?_
  refine jm_iconst (v := 0) d_X9_start_6 rfl (jm_okI (by decide) (by decide)) ?_
  refine jm_putI (k := 0) (ki := 0) cf_X9 (Nat.le_of_ble_eq_true rfl) f_X9_52 d_X9_start_7 (fun z => absurd z (by decide)) rfl rfl rfl (fun _ => rfl) is_124 ?_
  refine jm_aloadn d_X9_start_10 rfl ?_
  refine jm_iconst (v := 0) d_X9_start_11 rfl (jm_okI (by decide) (by decide)) ?_
  refine jm_putI (k := 3) (ki := 3) cf_X9 (Nat.le_of_ble_eq_true rfl) f_X9_49 d_X9_start_12 (fun z => absurd z (by decide)) rfl rfl rfl (fun _ => rfl) is_124 ?_
  refine jm_aloadn d_X9_start_15 rfl ?_
  refine jm_ldc (v := 1000000) d_X9_start_16 k_X9_74 (jm_okI (by decide) (by decide)) ?_
  refine jm_putI (k := 4) (ki := 4) cf_X9 (Nat.le_of_ble_eq_true rfl) f_X9_67 d_X9_start_18 (fun z => absurd z (by decide)) rfl rfl rfl (fun _ => rfl) is_124 ?_
  exact jm_ret (o := none) d_X9_start_21 rfl ⟨Nat.le_refl _, Nat.le_refl _⟩ jm_r_V h rfl
/-! ('CombTable$Wholes', 'take', '(LCombTable$Minutes;I)V') -/
theorem d_X9_take_0 : decode m_X9_take.2.1 0 = .ok (.aload_n 0, 1) := by decide +kernel
theorem d_X9_take_1 : decode m_X9_take.2.1 1 = .ok (.iconst 0, 1) := by decide +kernel
theorem d_X9_take_2 : decode m_X9_take.2.1 2 = .ok (.putfield 52, 3) := by decide +kernel
theorem d_X9_take_5 : decode m_X9_take.2.1 5 = .ok (.iconst 0, 1) := by decide +kernel
theorem d_X9_take_6 : decode m_X9_take.2.1 6 = .ok (.istore_n 3, 1) := by decide +kernel
theorem d_X9_take_7 : decode m_X9_take.2.1 7 = .ok (.iload_n 3, 1) := by decide +kernel
theorem d_X9_take_8 : decode m_X9_take.2.1 8 = .ok (.aload_n 1, 1) := by decide +kernel
theorem d_X9_take_9 : decode m_X9_take.2.1 9 = .ok (.getfield 33, 3) := by decide +kernel
theorem d_X9_take_12 : decode m_X9_take.2.1 12 = .ok (.if_icmp .ge 61, 3) := by decide +kernel
theorem d_X9_take_15 : decode m_X9_take.2.1 15 = .ok (.aload_n 0, 1) := by decide +kernel
theorem d_X9_take_16 : decode m_X9_take.2.1 16 = .ok (.getfield 52, 3) := by decide +kernel
theorem d_X9_take_19 : decode m_X9_take.2.1 19 = .ok (.bipush 24, 2) := by decide +kernel
theorem d_X9_take_21 : decode m_X9_take.2.1 21 = .ok (.if_icmp .ge 52, 3) := by decide +kernel
theorem d_X9_take_24 : decode m_X9_take.2.1 24 = .ok (.iload_n 3, 1) := by decide +kernel
theorem d_X9_take_25 : decode m_X9_take.2.1 25 = .ok (.iload_n 2, 1) := by decide +kernel
theorem d_X9_take_26 : decode m_X9_take.2.1 26 = .ok (.if_icmp .eq 41, 3) := by decide +kernel
theorem d_X9_take_29 : decode m_X9_take.2.1 29 = .ok (.aload_n 0, 1) := by decide +kernel
theorem d_X9_take_30 : decode m_X9_take.2.1 30 = .ok (.getfield 11, 3) := by decide +kernel
theorem d_X9_take_33 : decode m_X9_take.2.1 33 = .ok (.aload_n 0, 1) := by decide +kernel
theorem d_X9_take_34 : decode m_X9_take.2.1 34 = .ok (.getfield 52, 3) := by decide +kernel
theorem d_X9_take_37 : decode m_X9_take.2.1 37 = .ok (.aload_n 1, 1) := by decide +kernel
theorem d_X9_take_38 : decode m_X9_take.2.1 38 = .ok (.iload_n 3, 1) := by decide +kernel
theorem d_X9_take_39 : decode m_X9_take.2.1 39 = .ok (.invokevirtual 56, 3) := by decide +kernel
theorem d_X9_take_42 : decode m_X9_take.2.1 42 = .ok (.iastore, 1) := by decide +kernel
theorem d_X9_take_43 : decode m_X9_take.2.1 43 = .ok (.aload_n 0, 1) := by decide +kernel
theorem d_X9_take_44 : decode m_X9_take.2.1 44 = .ok (.getfield 17, 3) := by decide +kernel
theorem d_X9_take_47 : decode m_X9_take.2.1 47 = .ok (.aload_n 0, 1) := by decide +kernel
theorem d_X9_take_48 : decode m_X9_take.2.1 48 = .ok (.getfield 52, 3) := by decide +kernel
theorem d_X9_take_51 : decode m_X9_take.2.1 51 = .ok (.aload_n 1, 1) := by decide +kernel
theorem d_X9_take_52 : decode m_X9_take.2.1 52 = .ok (.iload_n 3, 1) := by decide +kernel
theorem d_X9_take_53 : decode m_X9_take.2.1 53 = .ok (.invokevirtual 60, 3) := by decide +kernel
theorem d_X9_take_56 : decode m_X9_take.2.1 56 = .ok (.iastore, 1) := by decide +kernel
theorem d_X9_take_57 : decode m_X9_take.2.1 57 = .ok (.aload_n 0, 1) := by decide +kernel
theorem d_X9_take_58 : decode m_X9_take.2.1 58 = .ok (.dup, 1) := by decide +kernel
theorem d_X9_take_59 : decode m_X9_take.2.1 59 = .ok (.getfield 52, 3) := by decide +kernel
theorem d_X9_take_62 : decode m_X9_take.2.1 62 = .ok (.iconst 1, 1) := by decide +kernel
theorem d_X9_take_63 : decode m_X9_take.2.1 63 = .ok (.iadd, 1) := by decide +kernel
theorem d_X9_take_64 : decode m_X9_take.2.1 64 = .ok (.putfield 52, 3) := by decide +kernel
theorem d_X9_take_67 : decode m_X9_take.2.1 67 = .ok (.iinc 3 1, 3) := by decide +kernel
theorem d_X9_take_70 : decode m_X9_take.2.1 70 = .ok (.goto (-63), 3) := by decide +kernel
theorem d_X9_take_73 : decode m_X9_take.2.1 73 = .ok (.return_, 1) := by decide +kernel
set_option maxRecDepth 20000 in
theorem e_X9_take {E : jm_E} {d : Nat} {μ : jm_M} {Q : Option jm_V → jm_M → Prop} {v1 v2 : Int} (h : (∀ v ∈ ([jm_R 124, jm_R v1, jm_I v2] : List jm_V), jm_ok v) →
  jg E m_X9_take d 7 [some (jm_R 124), some (jm_R v1), some (jm_I v2), some (jm_I 0)] [] (jm_up μ 124 0 0) Q) : jc E m_X9_take (d + 1) [jm_R 124, jm_R v1, jm_I v2] μ Q := by
  refine jm_Cl.of2 (by decide +kernel) (L0 := [some (jm_R 124), some (jm_R v1), some (jm_I v2), none]) rfl (Nat.le_of_ble_eq_true rfl) (fun hok => ?_)
  have h := h hok
  refine jm_aloadn d_X9_take_0 rfl ?_
  refine jm_iconst (v := 0) d_X9_take_1 rfl (jm_okI (by decide) (by decide)) ?_
  refine jm_putI (k := 0) (ki := 0) cf_X9 (Nat.le_of_ble_eq_true rfl) f_X9_52 d_X9_take_2 (fun z => absurd z (by decide)) rfl rfl rfl (fun _ => rfl) is_124 ?_
  refine jm_iconst (v := 0) d_X9_take_5 rfl (jm_okI (by decide) (by decide)) ?_
  refine jm_istoren (L' := [some (jm_R _), some (jm_R _), some (jm_I _), some (jm_I _)]) d_X9_take_6 (Nat.le_of_ble_eq_true rfl) rfl ?_
  exact h
set_option maxRecDepth 20000 in
theorem r_X9_take_7 {E : jm_E} {d : Nat} {μ : jm_M} {Q : Option jm_V → jm_M → Prop} {v1 v2 v3 : Int} (h :
  (jm_is jm_N v1 1 1) ∧
  ((μ v1 0 ≤ v3 →
    Q none μ) ∧
   (¬ (μ v1 0 ≤ v3) →
    ((24 ≤ μ 124 0 →
      Q none μ) ∧
     (¬ (24 ≤ μ 124 0) →
      ((v3 = v2 →
        jg E m_X9_take d 7 [some (jm_R 124), some (jm_R v1), some (jm_I v2), some (jm_I (jm_wr (v3 + 1)))] [] μ Q) ∧
       (¬ (v3 = v2) →
        jc E m_X1_whoAt d [jm_R v1, jm_I v3] μ (fun (o : Option jm_V) (m5 : jm_M) => ∀ r6 : Int, o = some (jm_I r6) →
        (0 ≤ μ 124 0 ∧ μ 124 0 < 24) ∧
        ∀ m8 : jm_M, m8 = (jm_up m5 125 (μ 124 0) r6) →
        jc E m_X1_kindAt d [jm_R v1, jm_I v3] m8 (fun (o : Option jm_V) (m9 : jm_M) => ∀ r10 : Int, o = some (jm_I r10) →
        (0 ≤ m8 124 0 ∧ m8 124 0 < 24) ∧
        ∀ m12 : jm_M, m12 = (jm_up m9 126 (m8 124 0) r10) →
        jg E m_X9_take d 7 [some (jm_R 124), some (jm_R v1), some (jm_I v2), some (jm_I (jm_wr (v3 + 1)))] [] (jm_up m12 124 0 (jm_wr ((m12 124 0) + 1))) Q))))))))) : jg E m_X9_take d 7 [some (jm_R 124), some (jm_R v1), some (jm_I v2), some (jm_I v3)] [] μ Q := by
  refine jm_iloadn d_X9_take_7 rfl ?_
  refine jm_aloadn d_X9_take_8 rfl ?_
  obtain ⟨f1, h⟩ := h
  refine jm_getI (k := 0) (ki := 0) cf_X1 (Nat.le_of_ble_eq_true rfl) f_X9_33 d_X9_take_9 rfl rfl f1 rfl ?_
  refine jm_icmp_ge (tgt := 73) d_X9_take_12 (by decide) (fun c2 => ?_) (fun c2 => ?_)
  · have h := h.1 c2
    exact jm_ret (o := none) d_X9_take_73 rfl ⟨Nat.le_refl _, Nat.le_refl _⟩ jm_r_V h rfl
  · have h := h.2 c2
    refine jm_aloadn d_X9_take_15 rfl ?_
    refine jm_getI (k := 0) (ki := 0) cf_X9 (Nat.le_of_ble_eq_true rfl) f_X9_52 d_X9_take_16 rfl rfl is_124 rfl ?_
    refine jm_bipush (v := 24) d_X9_take_19 rfl (jm_okI (by decide) (by decide)) ?_
    refine jm_icmp_ge (tgt := 73) d_X9_take_21 (by decide) (fun c3 => ?_) (fun c3 => ?_)
    · have h := h.1 c3
      exact jm_ret (o := none) d_X9_take_73 rfl ⟨Nat.le_refl _, Nat.le_refl _⟩ jm_r_V h rfl
    · have h := h.2 c3
      refine jm_iloadn d_X9_take_24 rfl ?_
      refine jm_iloadn d_X9_take_25 rfl ?_
      refine jm_icmp_eq (tgt := 67) d_X9_take_26 (by decide) (fun c4 => ?_) (fun c4 => ?_)
      · have h := h.1 c4
        refine jm_iinc (L' := [some (jm_R _), some (jm_R _), some (jm_I _), some (jm_I _)]) d_X9_take_67 rfl rfl (Nat.le_of_ble_eq_true rfl) rfl ?_
        refine jm_goto (tgt := 7) d_X9_take_70 (by decide) ?_
        exact h
      · have h := h.2 c4
        refine jm_aloadn d_X9_take_29 rfl ?_
        refine jm_getF (k := 1) (ki := 1) rfl cf_X9 (Nat.le_of_ble_eq_true rfl) f_X9_11 d_X9_take_30 rfl rfl is_124 fr_124_1 ?_
        refine jm_aloadn d_X9_take_33 rfl ?_
        refine jm_getI (k := 0) (ki := 0) cf_X9 (Nat.le_of_ble_eq_true rfl) f_X9_52 d_X9_take_34 rfl rfl is_124 rfl ?_
        refine jm_aloadn d_X9_take_37 rfl ?_
        refine jm_iloadn d_X9_take_38 rfl ?_
        refine jm_invV (n1 := jm_N) (mc := 0) (ms := 0) (av := [jm_I _]) w_X1_whoAt l_X9_56 d_X9_take_39 rfl f1 ⟨_, _, rfl⟩ ⟨Nat.le_refl _, Nat.le_refl _⟩ (Nat.le_of_ble_eq_true rfl) rfl ?_
        refine jm_Cl.mono h (fun o m5 h hr _ => ?_)
        obtain ⟨r6, rfl⟩ := jm_rokI hr
        have h := h _ rfl
        obtain ⟨f7, h⟩ := h
        refine jm_iastore d_X9_take_42 (ixl_125 f7.1 f7.2) ?_
        have h := h _ rfl
        refine jm_aloadn d_X9_take_43 rfl ?_
        refine jm_getF (k := 2) (ki := 2) rfl cf_X9 (Nat.le_of_ble_eq_true rfl) f_X9_17 d_X9_take_44 rfl rfl is_124 fr_124_2 ?_
        refine jm_aloadn d_X9_take_47 rfl ?_
        refine jm_getI (k := 0) (ki := 0) cf_X9 (Nat.le_of_ble_eq_true rfl) f_X9_52 d_X9_take_48 rfl rfl is_124 rfl ?_
        refine jm_aloadn d_X9_take_51 rfl ?_
        refine jm_iloadn d_X9_take_52 rfl ?_
        refine jm_invV (n1 := jm_N) (mc := 0) (ms := 0) (av := [jm_I _]) w_X1_kindAt l_X9_60 d_X9_take_53 rfl f1 ⟨_, _, rfl⟩ ⟨Nat.le_refl _, Nat.le_refl _⟩ (Nat.le_of_ble_eq_true rfl) rfl ?_
        refine jm_Cl.mono h (fun o m9 h hr _ => ?_)
        obtain ⟨r10, rfl⟩ := jm_rokI hr
        have h := h _ rfl
        obtain ⟨f11, h⟩ := h
        refine jm_iastore d_X9_take_56 (ixl_126 f11.1 f11.2) ?_
        have h := h _ rfl
        refine jm_aloadn d_X9_take_57 rfl ?_
        refine jm_dup rfl d_X9_take_58 ?_
        refine jm_getI (k := 0) (ki := 0) cf_X9 (Nat.le_of_ble_eq_true rfl) f_X9_52 d_X9_take_59 rfl rfl is_124 rfl ?_
        refine jm_iconst (v := 1) d_X9_take_62 rfl (jm_okI (by decide) (by decide)) ?_
        refine jm_iadd d_X9_take_63 ?_
        refine jm_putI (k := 0) (ki := 0) cf_X9 (Nat.le_of_ble_eq_true rfl) f_X9_52 d_X9_take_64 (fun z => absurd z (by decide)) rfl rfl rfl (fun _ => rfl) is_124 ?_
        refine jm_iinc (L' := [some (jm_R _), some (jm_R _), some (jm_I _), some (jm_I _)]) d_X9_take_67 rfl rfl (Nat.le_of_ble_eq_true rfl) rfl ?_
        refine jm_goto (tgt := 7) d_X9_take_70 (by decide) ?_
        exact h
/-! ('CombTable$Wholes', 'exchange', '(I)V') -/
theorem d_X9_exchange_0 : decode m_X9_exchange.2.1 0 = .ok (.iload_n 1, 1) := by decide +kernel
theorem d_X9_exchange_1 : decode m_X9_exchange.2.1 1 = .ok (.ifCond .lt 13, 3) := by decide +kernel
theorem d_X9_exchange_4 : decode m_X9_exchange.2.1 4 = .ok (.iload_n 1, 1) := by decide +kernel
theorem d_X9_exchange_5 : decode m_X9_exchange.2.1 5 = .ok (.iconst 1, 1) := by decide +kernel
theorem d_X9_exchange_6 : decode m_X9_exchange.2.1 6 = .ok (.iadd, 1) := by decide +kernel
theorem d_X9_exchange_7 : decode m_X9_exchange.2.1 7 = .ok (.aload_n 0, 1) := by decide +kernel
theorem d_X9_exchange_8 : decode m_X9_exchange.2.1 8 = .ok (.getfield 52, 3) := by decide +kernel
theorem d_X9_exchange_11 : decode m_X9_exchange.2.1 11 = .ok (.if_icmp .lt 4, 3) := by decide +kernel
theorem d_X9_exchange_14 : decode m_X9_exchange.2.1 14 = .ok (.return_, 1) := by decide +kernel
theorem d_X9_exchange_15 : decode m_X9_exchange.2.1 15 = .ok (.aload_n 0, 1) := by decide +kernel
theorem d_X9_exchange_16 : decode m_X9_exchange.2.1 16 = .ok (.getfield 11, 3) := by decide +kernel
theorem d_X9_exchange_19 : decode m_X9_exchange.2.1 19 = .ok (.iload_n 1, 1) := by decide +kernel
theorem d_X9_exchange_20 : decode m_X9_exchange.2.1 20 = .ok (.iaload, 1) := by decide +kernel
theorem d_X9_exchange_21 : decode m_X9_exchange.2.1 21 = .ok (.istore_n 2, 1) := by decide +kernel
theorem d_X9_exchange_22 : decode m_X9_exchange.2.1 22 = .ok (.aload_n 0, 1) := by decide +kernel
theorem d_X9_exchange_23 : decode m_X9_exchange.2.1 23 = .ok (.getfield 17, 3) := by decide +kernel
theorem d_X9_exchange_26 : decode m_X9_exchange.2.1 26 = .ok (.iload_n 1, 1) := by decide +kernel
theorem d_X9_exchange_27 : decode m_X9_exchange.2.1 27 = .ok (.iaload, 1) := by decide +kernel
theorem d_X9_exchange_28 : decode m_X9_exchange.2.1 28 = .ok (.istore_n 3, 1) := by decide +kernel
theorem d_X9_exchange_29 : decode m_X9_exchange.2.1 29 = .ok (.aload_n 0, 1) := by decide +kernel
theorem d_X9_exchange_30 : decode m_X9_exchange.2.1 30 = .ok (.getfield 11, 3) := by decide +kernel
theorem d_X9_exchange_33 : decode m_X9_exchange.2.1 33 = .ok (.iload_n 1, 1) := by decide +kernel
theorem d_X9_exchange_34 : decode m_X9_exchange.2.1 34 = .ok (.aload_n 0, 1) := by decide +kernel
theorem d_X9_exchange_35 : decode m_X9_exchange.2.1 35 = .ok (.getfield 11, 3) := by decide +kernel
theorem d_X9_exchange_38 : decode m_X9_exchange.2.1 38 = .ok (.iload_n 1, 1) := by decide +kernel
theorem d_X9_exchange_39 : decode m_X9_exchange.2.1 39 = .ok (.iconst 1, 1) := by decide +kernel
theorem d_X9_exchange_40 : decode m_X9_exchange.2.1 40 = .ok (.iadd, 1) := by decide +kernel
theorem d_X9_exchange_41 : decode m_X9_exchange.2.1 41 = .ok (.iaload, 1) := by decide +kernel
theorem d_X9_exchange_42 : decode m_X9_exchange.2.1 42 = .ok (.iastore, 1) := by decide +kernel
theorem d_X9_exchange_43 : decode m_X9_exchange.2.1 43 = .ok (.aload_n 0, 1) := by decide +kernel
theorem d_X9_exchange_44 : decode m_X9_exchange.2.1 44 = .ok (.getfield 17, 3) := by decide +kernel
theorem d_X9_exchange_47 : decode m_X9_exchange.2.1 47 = .ok (.iload_n 1, 1) := by decide +kernel
theorem d_X9_exchange_48 : decode m_X9_exchange.2.1 48 = .ok (.aload_n 0, 1) := by decide +kernel
theorem d_X9_exchange_49 : decode m_X9_exchange.2.1 49 = .ok (.getfield 17, 3) := by decide +kernel
theorem d_X9_exchange_52 : decode m_X9_exchange.2.1 52 = .ok (.iload_n 1, 1) := by decide +kernel
theorem d_X9_exchange_53 : decode m_X9_exchange.2.1 53 = .ok (.iconst 1, 1) := by decide +kernel
theorem d_X9_exchange_54 : decode m_X9_exchange.2.1 54 = .ok (.iadd, 1) := by decide +kernel
theorem d_X9_exchange_55 : decode m_X9_exchange.2.1 55 = .ok (.iaload, 1) := by decide +kernel
theorem d_X9_exchange_56 : decode m_X9_exchange.2.1 56 = .ok (.iastore, 1) := by decide +kernel
theorem d_X9_exchange_57 : decode m_X9_exchange.2.1 57 = .ok (.aload_n 0, 1) := by decide +kernel
theorem d_X9_exchange_58 : decode m_X9_exchange.2.1 58 = .ok (.getfield 11, 3) := by decide +kernel
theorem d_X9_exchange_61 : decode m_X9_exchange.2.1 61 = .ok (.iload_n 1, 1) := by decide +kernel
theorem d_X9_exchange_62 : decode m_X9_exchange.2.1 62 = .ok (.iconst 1, 1) := by decide +kernel
theorem d_X9_exchange_63 : decode m_X9_exchange.2.1 63 = .ok (.iadd, 1) := by decide +kernel
theorem d_X9_exchange_64 : decode m_X9_exchange.2.1 64 = .ok (.iload_n 2, 1) := by decide +kernel
theorem d_X9_exchange_65 : decode m_X9_exchange.2.1 65 = .ok (.iastore, 1) := by decide +kernel
theorem d_X9_exchange_66 : decode m_X9_exchange.2.1 66 = .ok (.aload_n 0, 1) := by decide +kernel
theorem d_X9_exchange_67 : decode m_X9_exchange.2.1 67 = .ok (.getfield 17, 3) := by decide +kernel
theorem d_X9_exchange_70 : decode m_X9_exchange.2.1 70 = .ok (.iload_n 1, 1) := by decide +kernel
theorem d_X9_exchange_71 : decode m_X9_exchange.2.1 71 = .ok (.iconst 1, 1) := by decide +kernel
theorem d_X9_exchange_72 : decode m_X9_exchange.2.1 72 = .ok (.iadd, 1) := by decide +kernel
theorem d_X9_exchange_73 : decode m_X9_exchange.2.1 73 = .ok (.iload_n 3, 1) := by decide +kernel
theorem d_X9_exchange_74 : decode m_X9_exchange.2.1 74 = .ok (.iastore, 1) := by decide +kernel
theorem d_X9_exchange_75 : decode m_X9_exchange.2.1 75 = .ok (.return_, 1) := by decide +kernel
set_option maxRecDepth 20000 in
theorem e_X9_exchange {E : jm_E} {d : Nat} {μ : jm_M} {Q : Option jm_V → jm_M → Prop} {v1 : Int} (h : (∀ v ∈ ([jm_R 124, jm_I v1] : List jm_V), jm_ok v) →
  ((v1 < 0 →
    Q none μ) ∧
   (¬ (v1 < 0) →
    (((jm_wr (v1 + 1)) < μ 124 0 →
      (0 ≤ v1 ∧ v1 < 24) ∧
      ∀ x4 : Int, x4 = μ 125 v1 →
      ∀ x5 : Int, x5 = μ 126 v1 →
      (0 ≤ jm_wr (v1 + 1) ∧ jm_wr (v1 + 1) < 24) ∧
      ∀ m7 : jm_M, m7 = (jm_up μ 125 v1 (μ 125 (jm_wr (v1 + 1)))) →
      ∀ m8 : jm_M, m8 = (jm_up m7 126 v1 (m7 126 (jm_wr (v1 + 1)))) →
      ∀ m9 : jm_M, m9 = (jm_up m8 125 (jm_wr (v1 + 1)) x4) →
      ∀ m10 : jm_M, m10 = (jm_up m9 126 (jm_wr (v1 + 1)) x5) →
      Q none m10) ∧
     (¬ ((jm_wr (v1 + 1)) < μ 124 0) →
      Q none μ))))) : jc E m_X9_exchange (d + 1) [jm_R 124, jm_I v1] μ Q := by
  refine jm_Cl.of2 (by decide +kernel) (L0 := [some (jm_R 124), some (jm_I v1), none, none]) rfl (Nat.le_of_ble_eq_true rfl) (fun hok => ?_)
  have h := h hok
  refine jm_iloadn d_X9_exchange_0 rfl ?_
  refine jm_if_lt (tgt := 14) d_X9_exchange_1 (by decide) (fun c1 => ?_) (fun c1 => ?_)
  · have h := h.1 c1
    exact jm_ret (o := none) d_X9_exchange_14 rfl ⟨Nat.le_refl _, Nat.le_refl _⟩ jm_r_V h rfl
  · have h := h.2 c1
    refine jm_iloadn d_X9_exchange_4 rfl ?_
    refine jm_iconst (v := 1) d_X9_exchange_5 rfl (jm_okI (by decide) (by decide)) ?_
    refine jm_iadd d_X9_exchange_6 ?_
    refine jm_aloadn d_X9_exchange_7 rfl ?_
    refine jm_getI (k := 0) (ki := 0) cf_X9 (Nat.le_of_ble_eq_true rfl) f_X9_52 d_X9_exchange_8 rfl rfl is_124 rfl ?_
    refine jm_icmp_lt (tgt := 15) d_X9_exchange_11 (by decide) (fun c2 => ?_) (fun c2 => ?_)
    · have h := h.1 c2
      refine jm_aloadn d_X9_exchange_15 rfl ?_
      refine jm_getF (k := 1) (ki := 1) rfl cf_X9 (Nat.le_of_ble_eq_true rfl) f_X9_11 d_X9_exchange_16 rfl rfl is_124 fr_124_1 ?_
      refine jm_iloadn d_X9_exchange_19 rfl ?_
      obtain ⟨f3, h⟩ := h
      refine jm_iaload d_X9_exchange_20 (ixl_125 f3.1 f3.2) ?_
      have h := h _ rfl
      refine jm_istoren (L' := [some (jm_R _), some (jm_I _), some (jm_I _), none]) d_X9_exchange_21 (Nat.le_of_ble_eq_true rfl) rfl ?_
      refine jm_aloadn d_X9_exchange_22 rfl ?_
      refine jm_getF (k := 2) (ki := 2) rfl cf_X9 (Nat.le_of_ble_eq_true rfl) f_X9_17 d_X9_exchange_23 rfl rfl is_124 fr_124_2 ?_
      refine jm_iloadn d_X9_exchange_26 rfl ?_
      refine jm_iaload d_X9_exchange_27 (ixl_126 f3.1 f3.2) ?_
      have h := h _ rfl
      refine jm_istoren (L' := [some (jm_R _), some (jm_I _), some (jm_I _), some (jm_I _)]) d_X9_exchange_28 (Nat.le_of_ble_eq_true rfl) rfl ?_
      refine jm_aloadn d_X9_exchange_29 rfl ?_
      refine jm_getF (k := 1) (ki := 1) rfl cf_X9 (Nat.le_of_ble_eq_true rfl) f_X9_11 d_X9_exchange_30 rfl rfl is_124 fr_124_1 ?_
      refine jm_iloadn d_X9_exchange_33 rfl ?_
      refine jm_aloadn d_X9_exchange_34 rfl ?_
      refine jm_getF (k := 1) (ki := 1) rfl cf_X9 (Nat.le_of_ble_eq_true rfl) f_X9_11 d_X9_exchange_35 rfl rfl is_124 fr_124_1 ?_
      refine jm_iloadn d_X9_exchange_38 rfl ?_
      refine jm_iconst (v := 1) d_X9_exchange_39 rfl (jm_okI (by decide) (by decide)) ?_
      refine jm_iadd d_X9_exchange_40 ?_
      obtain ⟨f6, h⟩ := h
      refine jm_iaload d_X9_exchange_41 (ixl_125 f6.1 f6.2) ?_
      refine jm_iastore d_X9_exchange_42 (ixl_125 f3.1 f3.2) ?_
      have h := h _ rfl
      refine jm_aloadn d_X9_exchange_43 rfl ?_
      refine jm_getF (k := 2) (ki := 2) rfl cf_X9 (Nat.le_of_ble_eq_true rfl) f_X9_17 d_X9_exchange_44 rfl rfl is_124 fr_124_2 ?_
      refine jm_iloadn d_X9_exchange_47 rfl ?_
      refine jm_aloadn d_X9_exchange_48 rfl ?_
      refine jm_getF (k := 2) (ki := 2) rfl cf_X9 (Nat.le_of_ble_eq_true rfl) f_X9_17 d_X9_exchange_49 rfl rfl is_124 fr_124_2 ?_
      refine jm_iloadn d_X9_exchange_52 rfl ?_
      refine jm_iconst (v := 1) d_X9_exchange_53 rfl (jm_okI (by decide) (by decide)) ?_
      refine jm_iadd d_X9_exchange_54 ?_
      refine jm_iaload d_X9_exchange_55 (ixl_126 f6.1 f6.2) ?_
      refine jm_iastore d_X9_exchange_56 (ixl_126 f3.1 f3.2) ?_
      have h := h _ rfl
      refine jm_aloadn d_X9_exchange_57 rfl ?_
      refine jm_getF (k := 1) (ki := 1) rfl cf_X9 (Nat.le_of_ble_eq_true rfl) f_X9_11 d_X9_exchange_58 rfl rfl is_124 fr_124_1 ?_
      refine jm_iloadn d_X9_exchange_61 rfl ?_
      refine jm_iconst (v := 1) d_X9_exchange_62 rfl (jm_okI (by decide) (by decide)) ?_
      refine jm_iadd d_X9_exchange_63 ?_
      refine jm_iloadn d_X9_exchange_64 rfl ?_
      refine jm_iastore d_X9_exchange_65 (ixl_125 f6.1 f6.2) ?_
      have h := h _ rfl
      refine jm_aloadn d_X9_exchange_66 rfl ?_
      refine jm_getF (k := 2) (ki := 2) rfl cf_X9 (Nat.le_of_ble_eq_true rfl) f_X9_17 d_X9_exchange_67 rfl rfl is_124 fr_124_2 ?_
      refine jm_iloadn d_X9_exchange_70 rfl ?_
      refine jm_iconst (v := 1) d_X9_exchange_71 rfl (jm_okI (by decide) (by decide)) ?_
      refine jm_iadd d_X9_exchange_72 ?_
      refine jm_iloadn d_X9_exchange_73 rfl ?_
      refine jm_iastore d_X9_exchange_74 (ixl_126 f6.1 f6.2) ?_
      have h := h _ rfl
      exact jm_ret (o := none) d_X9_exchange_75 rfl ⟨Nat.le_refl _, Nat.le_refl _⟩ jm_r_V h rfl
    · have h := h.2 c2
      exact jm_ret (o := none) d_X9_exchange_14 rfl ⟨Nat.le_refl _, Nat.le_refl _⟩ jm_r_V h rfl
/-! ('CombTable$Wholes', 'fill', '(LCombTable$Talk;I)V') -/
theorem d_X9_fill_0 : decode m_X9_fill.2.1 0 = .ok (.iload_n 2, 1) := by decide +kernel
theorem d_X9_fill_1 : decode m_X9_fill.2.1 1 = .ok (.aload_n 0, 1) := by decide +kernel
theorem d_X9_fill_2 : decode m_X9_fill.2.1 2 = .ok (.getfield 52, 3) := by decide +kernel
theorem d_X9_fill_5 : decode m_X9_fill.2.1 5 = .ok (.if_icmp .ge 9, 3) := by decide +kernel
theorem d_X9_fill_8 : decode m_X9_fill.2.1 8 = .ok (.iload_n 2, 1) := by decide +kernel
theorem d_X9_fill_9 : decode m_X9_fill.2.1 9 = .ok (.bipush 24, 2) := by decide +kernel
theorem d_X9_fill_11 : decode m_X9_fill.2.1 11 = .ok (.if_icmp .lt 26, 3) := by decide +kernel
theorem d_X9_fill_14 : decode m_X9_fill.2.1 14 = .ok (.aload_n 0, 1) := by decide +kernel
theorem d_X9_fill_15 : decode m_X9_fill.2.1 15 = .ok (.dup, 1) := by decide +kernel
theorem d_X9_fill_16 : decode m_X9_fill.2.1 16 = .ok (.getfield 49, 3) := by decide +kernel
theorem d_X9_fill_19 : decode m_X9_fill.2.1 19 = .ok (.iconst 1, 1) := by decide +kernel
theorem d_X9_fill_20 : decode m_X9_fill.2.1 20 = .ok (.iadd, 1) := by decide +kernel
theorem d_X9_fill_21 : decode m_X9_fill.2.1 21 = .ok (.putfield 49, 3) := by decide +kernel
theorem d_X9_fill_24 : decode m_X9_fill.2.1 24 = .ok (.aload_n 0, 1) := by decide +kernel
theorem d_X9_fill_25 : decode m_X9_fill.2.1 25 = .ok (.getfield 70, 3) := by decide +kernel
theorem d_X9_fill_28 : decode m_X9_fill.2.1 28 = .ok (.ifCond .eq 8, 3) := by decide +kernel
theorem d_X9_fill_31 : decode m_X9_fill.2.1 31 = .ok (.aload_n 0, 1) := by decide +kernel
theorem d_X9_fill_32 : decode m_X9_fill.2.1 32 = .ok (.aload_n 1, 1) := by decide +kernel
theorem d_X9_fill_33 : decode m_X9_fill.2.1 33 = .ok (.invokevirtual 75, 3) := by decide +kernel
theorem d_X9_fill_36 : decode m_X9_fill.2.1 36 = .ok (.return_, 1) := by decide +kernel
theorem d_X9_fill_37 : decode m_X9_fill.2.1 37 = .ok (.aload_n 0, 1) := by decide +kernel
theorem d_X9_fill_38 : decode m_X9_fill.2.1 38 = .ok (.getfield 11, 3) := by decide +kernel
theorem d_X9_fill_41 : decode m_X9_fill.2.1 41 = .ok (.iload_n 2, 1) := by decide +kernel
theorem d_X9_fill_42 : decode m_X9_fill.2.1 42 = .ok (.iaload, 1) := by decide +kernel
theorem d_X9_fill_43 : decode m_X9_fill.2.1 43 = .ok (.iconst (-1), 1) := by decide +kernel
theorem d_X9_fill_44 : decode m_X9_fill.2.1 44 = .ok (.if_icmp .ne 15, 3) := by decide +kernel
theorem d_X9_fill_47 : decode m_X9_fill.2.1 47 = .ok (.aload_n 1, 1) := by decide +kernel
theorem d_X9_fill_48 : decode m_X9_fill.2.1 48 = .ok (.getfield 79, 3) := by decide +kernel
theorem d_X9_fill_51 : decode m_X9_fill.2.1 51 = .ok (.getfield 85, 3) := by decide +kernel
theorem d_X9_fill_54 : decode m_X9_fill.2.1 54 = .ok (.iconst 1, 1) := by decide +kernel
theorem d_X9_fill_55 : decode m_X9_fill.2.1 55 = .ok (.isub, 1) := by decide +kernel
theorem d_X9_fill_56 : decode m_X9_fill.2.1 56 = .ok (.goto 9, 3) := by decide +kernel
theorem d_X9_fill_59 : decode m_X9_fill.2.1 59 = .ok (.aload_n 0, 1) := by decide +kernel
theorem d_X9_fill_60 : decode m_X9_fill.2.1 60 = .ok (.getfield 11, 3) := by decide +kernel
theorem d_X9_fill_63 : decode m_X9_fill.2.1 63 = .ok (.iload_n 2, 1) := by decide +kernel
theorem d_X9_fill_64 : decode m_X9_fill.2.1 64 = .ok (.iaload, 1) := by decide +kernel
theorem d_X9_fill_65 : decode m_X9_fill.2.1 65 = .ok (.istore_n 3, 1) := by decide +kernel
theorem d_X9_fill_66 : decode m_X9_fill.2.1 66 = .ok (.aload_n 0, 1) := by decide +kernel
theorem d_X9_fill_67 : decode m_X9_fill.2.1 67 = .ok (.getfield 17, 3) := by decide +kernel
theorem d_X9_fill_70 : decode m_X9_fill.2.1 70 = .ok (.iload_n 2, 1) := by decide +kernel
theorem d_X9_fill_71 : decode m_X9_fill.2.1 71 = .ok (.iaload, 1) := by decide +kernel
theorem d_X9_fill_72 : decode m_X9_fill.2.1 72 = .ok (.iconst (-1), 1) := by decide +kernel
theorem d_X9_fill_73 : decode m_X9_fill.2.1 73 = .ok (.if_icmp .ne 15, 3) := by decide +kernel
theorem d_X9_fill_76 : decode m_X9_fill.2.1 76 = .ok (.aload_n 1, 1) := by decide +kernel
theorem d_X9_fill_77 : decode m_X9_fill.2.1 77 = .ok (.getfield 79, 3) := by decide +kernel
theorem d_X9_fill_80 : decode m_X9_fill.2.1 80 = .ok (.getfield 90, 3) := by decide +kernel
theorem d_X9_fill_83 : decode m_X9_fill.2.1 83 = .ok (.iconst 1, 1) := by decide +kernel
theorem d_X9_fill_84 : decode m_X9_fill.2.1 84 = .ok (.isub, 1) := by decide +kernel
theorem d_X9_fill_85 : decode m_X9_fill.2.1 85 = .ok (.goto 9, 3) := by decide +kernel
theorem d_X9_fill_88 : decode m_X9_fill.2.1 88 = .ok (.aload_n 0, 1) := by decide +kernel
theorem d_X9_fill_89 : decode m_X9_fill.2.1 89 = .ok (.getfield 17, 3) := by decide +kernel
theorem d_X9_fill_92 : decode m_X9_fill.2.1 92 = .ok (.iload_n 2, 1) := by decide +kernel
theorem d_X9_fill_93 : decode m_X9_fill.2.1 93 = .ok (.iaload, 1) := by decide +kernel
theorem d_X9_fill_94 : decode m_X9_fill.2.1 94 = .ok (.istore 4, 2) := by decide +kernel
theorem d_X9_fill_96 : decode m_X9_fill.2.1 96 = .ok (.aload_n 0, 1) := by decide +kernel
theorem d_X9_fill_97 : decode m_X9_fill.2.1 97 = .ok (.getfield 11, 3) := by decide +kernel
theorem d_X9_fill_100 : decode m_X9_fill.2.1 100 = .ok (.iload_n 2, 1) := by decide +kernel
theorem d_X9_fill_101 : decode m_X9_fill.2.1 101 = .ok (.iaload, 1) := by decide +kernel
theorem d_X9_fill_102 : decode m_X9_fill.2.1 102 = .ok (.iconst (-1), 1) := by decide +kernel
theorem d_X9_fill_103 : decode m_X9_fill.2.1 103 = .ok (.if_icmp .ne 7, 3) := by decide +kernel
theorem d_X9_fill_106 : decode m_X9_fill.2.1 106 = .ok (.iconst 0, 1) := by decide +kernel
theorem d_X9_fill_107 : decode m_X9_fill.2.1 107 = .ok (.goto 4, 3) := by decide +kernel
theorem d_X9_fill_110 : decode m_X9_fill.2.1 110 = .ok (.iload_n 3, 1) := by decide +kernel
theorem d_X9_fill_111 : decode m_X9_fill.2.1 111 = .ok (.istore 5, 2) := by decide +kernel
theorem d_X9_fill_113 : decode m_X9_fill.2.1 113 = .ok (.iload 5, 2) := by decide +kernel
theorem d_X9_fill_115 : decode m_X9_fill.2.1 115 = .ok (.iload_n 3, 1) := by decide +kernel
theorem d_X9_fill_116 : decode m_X9_fill.2.1 116 = .ok (.if_icmp .gt 130, 3) := by decide +kernel
theorem d_X9_fill_119 : decode m_X9_fill.2.1 119 = .ok (.aload_n 0, 1) := by decide +kernel
theorem d_X9_fill_120 : decode m_X9_fill.2.1 120 = .ok (.getfield 17, 3) := by decide +kernel
theorem d_X9_fill_123 : decode m_X9_fill.2.1 123 = .ok (.iload_n 2, 1) := by decide +kernel
theorem d_X9_fill_124 : decode m_X9_fill.2.1 124 = .ok (.iaload, 1) := by decide +kernel
theorem d_X9_fill_125 : decode m_X9_fill.2.1 125 = .ok (.iconst (-1), 1) := by decide +kernel
theorem d_X9_fill_126 : decode m_X9_fill.2.1 126 = .ok (.if_icmp .ne 7, 3) := by decide +kernel
theorem d_X9_fill_129 : decode m_X9_fill.2.1 129 = .ok (.iconst 0, 1) := by decide +kernel
theorem d_X9_fill_130 : decode m_X9_fill.2.1 130 = .ok (.goto 5, 3) := by decide +kernel
theorem d_X9_fill_133 : decode m_X9_fill.2.1 133 = .ok (.iload 4, 2) := by decide +kernel
theorem d_X9_fill_135 : decode m_X9_fill.2.1 135 = .ok (.istore 6, 2) := by decide +kernel
theorem d_X9_fill_137 : decode m_X9_fill.2.1 137 = .ok (.iload 6, 2) := by decide +kernel
theorem d_X9_fill_139 : decode m_X9_fill.2.1 139 = .ok (.iload 4, 2) := by decide +kernel
theorem d_X9_fill_141 : decode m_X9_fill.2.1 141 = .ok (.if_icmp .gt 99, 3) := by decide +kernel
theorem d_X9_fill_144 : decode m_X9_fill.2.1 144 = .ok (.aload_n 0, 1) := by decide +kernel
theorem d_X9_fill_145 : decode m_X9_fill.2.1 145 = .ok (.getfield 49, 3) := by decide +kernel
theorem d_X9_fill_148 : decode m_X9_fill.2.1 148 = .ok (.aload_n 0, 1) := by decide +kernel
theorem d_X9_fill_149 : decode m_X9_fill.2.1 149 = .ok (.getfield 67, 3) := by decide +kernel
theorem d_X9_fill_152 : decode m_X9_fill.2.1 152 = .ok (.if_icmp .gt 82, 3) := by decide +kernel
theorem d_X9_fill_155 : decode m_X9_fill.2.1 155 = .ok (.aload_n 1, 1) := by decide +kernel
theorem d_X9_fill_156 : decode m_X9_fill.2.1 156 = .ok (.iload 5, 2) := by decide +kernel
theorem d_X9_fill_158 : decode m_X9_fill.2.1 158 = .ok (.iload 6, 2) := by decide +kernel
theorem d_X9_fill_160 : decode m_X9_fill.2.1 160 = .ok (.invokevirtual 93, 3) := by decide +kernel
theorem d_X9_fill_163 : decode m_X9_fill.2.1 163 = .ok (.ifCond .ne 71, 3) := by decide +kernel
theorem d_X9_fill_166 : decode m_X9_fill.2.1 166 = .ok (.aload_n 0, 1) := by decide +kernel
theorem d_X9_fill_167 : decode m_X9_fill.2.1 167 = .ok (.getfield 49, 3) := by decide +kernel
theorem d_X9_fill_170 : decode m_X9_fill.2.1 170 = .ok (.istore 7, 2) := by decide +kernel
theorem d_X9_fill_172 : decode m_X9_fill.2.1 172 = .ok (.aload_n 1, 1) := by decide +kernel
theorem d_X9_fill_173 : decode m_X9_fill.2.1 173 = .ok (.iload 5, 2) := by decide +kernel
theorem d_X9_fill_175 : decode m_X9_fill.2.1 175 = .ok (.iload 6, 2) := by decide +kernel
theorem d_X9_fill_177 : decode m_X9_fill.2.1 177 = .ok (.invokevirtual 97, 3) := by decide +kernel
theorem d_X9_fill_180 : decode m_X9_fill.2.1 180 = .ok (.aload_n 0, 1) := by decide +kernel
theorem d_X9_fill_181 : decode m_X9_fill.2.1 181 = .ok (.aload_n 1, 1) := by decide +kernel
theorem d_X9_fill_182 : decode m_X9_fill.2.1 182 = .ok (.iload_n 2, 1) := by decide +kernel
theorem d_X9_fill_183 : decode m_X9_fill.2.1 183 = .ok (.iconst 1, 1) := by decide +kernel
theorem d_X9_fill_184 : decode m_X9_fill.2.1 184 = .ok (.iadd, 1) := by decide +kernel
theorem d_X9_fill_185 : decode m_X9_fill.2.1 185 = .ok (.invokevirtual 45, 3) := by decide +kernel
theorem d_X9_fill_188 : decode m_X9_fill.2.1 188 = .ok (.aload_n 1, 1) := by decide +kernel
theorem d_X9_fill_189 : decode m_X9_fill.2.1 189 = .ok (.invokevirtual 101, 3) := by decide +kernel
theorem d_X9_fill_192 : decode m_X9_fill.2.1 192 = .ok (.aload_n 0, 1) := by decide +kernel
theorem d_X9_fill_193 : decode m_X9_fill.2.1 193 = .ok (.getfield 70, 3) := by decide +kernel
theorem d_X9_fill_196 : decode m_X9_fill.2.1 196 = .ok (.ifCond .eq 38, 3) := by decide +kernel
theorem d_X9_fill_199 : decode m_X9_fill.2.1 199 = .ok (.aload_n 0, 1) := by decide +kernel
theorem d_X9_fill_200 : decode m_X9_fill.2.1 200 = .ok (.getfield 49, 3) := by decide +kernel
theorem d_X9_fill_203 : decode m_X9_fill.2.1 203 = .ok (.iload 7, 2) := by decide +kernel
theorem d_X9_fill_205 : decode m_X9_fill.2.1 205 = .ok (.if_icmp .le 29, 3) := by decide +kernel
theorem d_X9_fill_208 : decode m_X9_fill.2.1 208 = .ok (.aload_n 0, 1) := by decide +kernel
theorem d_X9_fill_209 : decode m_X9_fill.2.1 209 = .ok (.getfield 20, 3) := by decide +kernel
theorem d_X9_fill_212 : decode m_X9_fill.2.1 212 = .ok (.iload_n 2, 1) := by decide +kernel
theorem d_X9_fill_213 : decode m_X9_fill.2.1 213 = .ok (.dup2, 1) := by decide +kernel
theorem d_X9_fill_214 : decode m_X9_fill.2.1 214 = .ok (.iaload, 1) := by decide +kernel
theorem d_X9_fill_215 : decode m_X9_fill.2.1 215 = .ok (.iconst 1, 1) := by decide +kernel
theorem d_X9_fill_216 : decode m_X9_fill.2.1 216 = .ok (.iload 5, 2) := by decide +kernel
theorem d_X9_fill_218 : decode m_X9_fill.2.1 218 = .ok (.ishl, 1) := by decide +kernel
theorem d_X9_fill_219 : decode m_X9_fill.2.1 219 = .ok (.ior, 1) := by decide +kernel
theorem d_X9_fill_220 : decode m_X9_fill.2.1 220 = .ok (.iastore, 1) := by decide +kernel
theorem d_X9_fill_221 : decode m_X9_fill.2.1 221 = .ok (.aload_n 0, 1) := by decide +kernel
theorem d_X9_fill_222 : decode m_X9_fill.2.1 222 = .ok (.getfield 23, 3) := by decide +kernel
theorem d_X9_fill_225 : decode m_X9_fill.2.1 225 = .ok (.iload_n 2, 1) := by decide +kernel
theorem d_X9_fill_226 : decode m_X9_fill.2.1 226 = .ok (.dup2, 1) := by decide +kernel
theorem d_X9_fill_227 : decode m_X9_fill.2.1 227 = .ok (.iaload, 1) := by decide +kernel
theorem d_X9_fill_228 : decode m_X9_fill.2.1 228 = .ok (.iconst 1, 1) := by decide +kernel
theorem d_X9_fill_229 : decode m_X9_fill.2.1 229 = .ok (.iload 6, 2) := by decide +kernel
theorem d_X9_fill_231 : decode m_X9_fill.2.1 231 = .ok (.ishl, 1) := by decide +kernel
theorem d_X9_fill_232 : decode m_X9_fill.2.1 232 = .ok (.ior, 1) := by decide +kernel
theorem d_X9_fill_233 : decode m_X9_fill.2.1 233 = .ok (.iastore, 1) := by decide +kernel
theorem d_X9_fill_234 : decode m_X9_fill.2.1 234 = .ok (.iinc 6 1, 3) := by decide +kernel
theorem d_X9_fill_237 : decode m_X9_fill.2.1 237 = .ok (.goto (-100), 3) := by decide +kernel
theorem d_X9_fill_240 : decode m_X9_fill.2.1 240 = .ok (.iinc 5 1, 3) := by decide +kernel
theorem d_X9_fill_243 : decode m_X9_fill.2.1 243 = .ok (.goto (-130), 3) := by decide +kernel
theorem d_X9_fill_246 : decode m_X9_fill.2.1 246 = .ok (.return_, 1) := by decide +kernel
set_option maxRecDepth 20000 in
theorem e_X9_fill {E : jm_E} {d : Nat} {μ : jm_M} {Q : Option jm_V → jm_M → Prop} {v1 v2 : Int} (h : (∀ v ∈ ([jm_R 124, jm_R v1, jm_I v2] : List jm_V), jm_ok v) →
  ((μ 124 0 ≤ v2 →
    ((μ 124 5 = 0 →
      Q none (jm_up μ 124 3 (jm_wr ((μ 124 3) + 1)))) ∧
     (¬ (μ 124 5 = 0) →
      jc E m_X9_markStates d [jm_R 124, jm_R v1] (jm_up μ 124 3 (jm_wr ((μ 124 3) + 1))) (fun (o : Option jm_V) (m3 : jm_M) => o = none →
      Q none m3)))) ∧
   (¬ (μ 124 0 ≤ v2) →
    ((v2 < 24 →
      (0 ≤ v2 ∧ v2 < 24) ∧
      ((μ 125 v2 ≠ ((-1)) →
        ∀ x7 : Int, x7 = μ 125 v2 →
        ((μ 126 v2 ≠ ((-1)) →
          ∀ x9 : Int, x9 = μ 126 v2 →
          jg E m_X9_fill d 113 [some (jm_R 124), some (jm_R v1), some (jm_I v2), some (jm_I x7), some (jm_I x9), some (jm_I x7), none, none] [] μ Q) ∧
         (¬ (μ 126 v2 ≠ ((-1))) →
          (jm_is jm_N v1 1 6) ∧
          (jm_is jm_N (μ v1 0) 1 5) ∧
          ∀ x13 : Int, x13 = jm_wr ((μ (μ v1 0) 4) - 1) →
          jg E m_X9_fill d 113 [some (jm_R 124), some (jm_R v1), some (jm_I v2), some (jm_I x7), some (jm_I x13), some (jm_I x7), none, none] [] μ Q))) ∧
       (¬ (μ 125 v2 ≠ ((-1))) →
        (jm_is jm_N v1 1 6) ∧
        (jm_is jm_N (μ v1 0) 1 5) ∧
        ∀ x17 : Int, x17 = jm_wr ((μ (μ v1 0) 1) - 1) →
        ((μ 126 v2 ≠ ((-1)) →
          ∀ x19 : Int, x19 = μ 126 v2 →
          jg E m_X9_fill d 113 [some (jm_R 124), some (jm_R v1), some (jm_I v2), some (jm_I x17), some (jm_I x19), some (jm_I 0), none, none] [] μ Q) ∧
         (¬ (μ 126 v2 ≠ ((-1))) →
          ∀ x21 : Int, x21 = jm_wr ((μ (μ v1 0) 4) - 1) →
          jg E m_X9_fill d 113 [some (jm_R 124), some (jm_R v1), some (jm_I v2), some (jm_I x17), some (jm_I x21), some (jm_I 0), none, none] [] μ Q))))) ∧
     (¬ (v2 < 24) →
      ((μ 124 5 = 0 →
        Q none (jm_up μ 124 3 (jm_wr ((μ 124 3) + 1)))) ∧
       (¬ (μ 124 5 = 0) →
        jc E m_X9_markStates d [jm_R 124, jm_R v1] (jm_up μ 124 3 (jm_wr ((μ 124 3) + 1))) (fun (o : Option jm_V) (m24 : jm_M) => o = none →
        Q none m24)))))))) : jc E m_X9_fill (d + 1) [jm_R 124, jm_R v1, jm_I v2] μ Q := by
  refine jm_Cl.of2 (by decide +kernel) (L0 := [some (jm_R 124), some (jm_R v1), some (jm_I v2), none, none, none, none, none]) rfl (Nat.le_of_ble_eq_true rfl) (fun hok => ?_)
  have h := h hok
  refine jm_iloadn d_X9_fill_0 rfl ?_
  refine jm_aloadn d_X9_fill_1 rfl ?_
  refine jm_getI (k := 0) (ki := 0) cf_X9 (Nat.le_of_ble_eq_true rfl) f_X9_52 d_X9_fill_2 rfl rfl is_124 rfl ?_
  refine jm_icmp_ge (tgt := 14) d_X9_fill_5 (by decide) (fun c1 => ?_) (fun c1 => ?_)
  · have h := h.1 c1
    refine jm_aloadn d_X9_fill_14 rfl ?_
    refine jm_dup rfl d_X9_fill_15 ?_
    refine jm_getI (k := 3) (ki := 3) cf_X9 (Nat.le_of_ble_eq_true rfl) f_X9_49 d_X9_fill_16 rfl rfl is_124 rfl ?_
    refine jm_iconst (v := 1) d_X9_fill_19 rfl (jm_okI (by decide) (by decide)) ?_
    refine jm_iadd d_X9_fill_20 ?_
    refine jm_putI (k := 3) (ki := 3) cf_X9 (Nat.le_of_ble_eq_true rfl) f_X9_49 d_X9_fill_21 (fun z => absurd z (by decide)) rfl rfl rfl (fun _ => rfl) is_124 ?_
    refine jm_aloadn d_X9_fill_24 rfl ?_
    refine jm_getI (k := 5) (ki := 5) cf_X9 (Nat.le_of_ble_eq_true rfl) f_X9_70 d_X9_fill_25 rfl rfl is_124 ((jm_up_i (by decide)).trans rfl) ?_
    refine jm_if_eq (tgt := 36) d_X9_fill_28 (by decide) (fun c2 => ?_) (fun c2 => ?_)
    · have h := h.1 c2
      exact jm_ret (o := none) d_X9_fill_36 rfl ⟨Nat.le_refl _, Nat.le_refl _⟩ jm_r_V h rfl
    · have h := h.2 c2
      refine jm_aloadn d_X9_fill_31 rfl ?_
      refine jm_aloadn d_X9_fill_32 rfl ?_
      refine jm_invV (n1 := jm_N) (mc := 0) (ms := 0) (av := [jm_R _]) w_X9_markStates l_X9_75 d_X9_fill_33 rfl is_124 ⟨_, _, rfl⟩ ⟨Nat.le_refl _, Nat.le_refl _⟩ (Nat.le_of_ble_eq_true rfl) rfl ?_
      refine jm_Cl.mono h (fun o m3 h hr _ => ?_)
      obtain rfl := jm_rokV hr
      have h := h rfl
      exact jm_ret (o := none) d_X9_fill_36 rfl ⟨Nat.le_refl _, Nat.le_refl _⟩ jm_r_V h rfl
  · have h := h.2 c1
    refine jm_iloadn d_X9_fill_8 rfl ?_
    refine jm_bipush (v := 24) d_X9_fill_9 rfl (jm_okI (by decide) (by decide)) ?_
    refine jm_icmp_lt (tgt := 37) d_X9_fill_11 (by decide) (fun c4 => ?_) (fun c4 => ?_)
    · have h := h.1 c4
      refine jm_aloadn d_X9_fill_37 rfl ?_
      refine jm_getF (k := 1) (ki := 1) rfl cf_X9 (Nat.le_of_ble_eq_true rfl) f_X9_11 d_X9_fill_38 rfl rfl is_124 fr_124_1 ?_
      refine jm_iloadn d_X9_fill_41 rfl ?_
      obtain ⟨f5, h⟩ := h
      refine jm_iaload d_X9_fill_42 (ixl_125 f5.1 f5.2) ?_
      refine jm_iconst (v := (-1)) d_X9_fill_43 rfl (jm_okI (by decide) (by decide)) ?_
      refine jm_icmp_ne (tgt := 59) d_X9_fill_44 (by decide) (fun c6 => ?_) (fun c6 => ?_)
      · have h := h.1 c6
        refine jm_aloadn d_X9_fill_59 rfl ?_
        refine jm_getF (k := 1) (ki := 1) rfl cf_X9 (Nat.le_of_ble_eq_true rfl) f_X9_11 d_X9_fill_60 rfl rfl is_124 fr_124_1 ?_
        refine jm_iloadn d_X9_fill_63 rfl ?_
        refine jm_iaload d_X9_fill_64 (ixl_125 f5.1 f5.2) ?_
        have h := h _ rfl
        refine jm_istoren (L' := [some (jm_R _), some (jm_R _), some (jm_I _), some (jm_I _), none, none, none, none]) d_X9_fill_65 (Nat.le_of_ble_eq_true rfl) rfl ?_
        refine jm_aloadn d_X9_fill_66 rfl ?_
        refine jm_getF (k := 2) (ki := 2) rfl cf_X9 (Nat.le_of_ble_eq_true rfl) f_X9_17 d_X9_fill_67 rfl rfl is_124 fr_124_2 ?_
        refine jm_iloadn d_X9_fill_70 rfl ?_
        refine jm_iaload d_X9_fill_71 (ixl_126 f5.1 f5.2) ?_
        refine jm_iconst (v := (-1)) d_X9_fill_72 rfl (jm_okI (by decide) (by decide)) ?_
        refine jm_icmp_ne (tgt := 88) d_X9_fill_73 (by decide) (fun c8 => ?_) (fun c8 => ?_)
        · have h := h.1 c8
          refine jm_aloadn d_X9_fill_88 rfl ?_
          refine jm_getF (k := 2) (ki := 2) rfl cf_X9 (Nat.le_of_ble_eq_true rfl) f_X9_17 d_X9_fill_89 rfl rfl is_124 fr_124_2 ?_
          refine jm_iloadn d_X9_fill_92 rfl ?_
          refine jm_iaload d_X9_fill_93 (ixl_126 f5.1 f5.2) ?_
          have h := h _ rfl
          refine jm_istore (L' := [some (jm_R _), some (jm_R _), some (jm_I _), some (jm_I _), some (jm_I _), none, none, none]) d_X9_fill_94 (Nat.le_of_ble_eq_true rfl) rfl ?_
          refine jm_aloadn d_X9_fill_96 rfl ?_
          refine jm_getF (k := 1) (ki := 1) rfl cf_X9 (Nat.le_of_ble_eq_true rfl) f_X9_11 d_X9_fill_97 rfl rfl is_124 fr_124_1 ?_
          refine jm_iloadn d_X9_fill_100 rfl ?_
          refine jm_iaload d_X9_fill_101 (ixl_125 f5.1 f5.2) ?_
          refine jm_iconst (v := (-1)) d_X9_fill_102 rfl (jm_okI (by decide) (by decide)) ?_
          refine jm_icmp_ne (tgt := 110) d_X9_fill_103 (by decide) (fun _ => ?_) (fun c10 => absurd c6 c10)
          refine jm_iloadn d_X9_fill_110 rfl ?_
          refine jm_istore (L' := [some (jm_R _), some (jm_R _), some (jm_I _), some (jm_I _), some (jm_I _), some (jm_I _), none, none]) d_X9_fill_111 (Nat.le_of_ble_eq_true rfl) rfl ?_
          exact h
        · have h := h.2 c8
          refine jm_aloadn d_X9_fill_76 rfl ?_
          obtain ⟨f11, h⟩ := h
          refine jm_getR (k := 0) (ki := 0) cf_X6 (Nat.le_of_ble_eq_true rfl) f_X9_79 d_X9_fill_77 rfl rfl f11 rfl ?_
          obtain ⟨f12, h⟩ := h
          refine jm_getI (k := 4) (ki := 4) cf_X5 (Nat.le_of_ble_eq_true rfl) f_X9_90 d_X9_fill_80 rfl rfl f12 rfl ?_
          refine jm_iconst (v := 1) d_X9_fill_83 rfl (jm_okI (by decide) (by decide)) ?_
          refine jm_isub d_X9_fill_84 ?_
          refine jm_goto (tgt := 94) d_X9_fill_85 (by decide) ?_
          have h := h _ rfl
          refine jm_istore (L' := [some (jm_R _), some (jm_R _), some (jm_I _), some (jm_I _), some (jm_I _), none, none, none]) d_X9_fill_94 (Nat.le_of_ble_eq_true rfl) rfl ?_
          refine jm_aloadn d_X9_fill_96 rfl ?_
          refine jm_getF (k := 1) (ki := 1) rfl cf_X9 (Nat.le_of_ble_eq_true rfl) f_X9_11 d_X9_fill_97 rfl rfl is_124 fr_124_1 ?_
          refine jm_iloadn d_X9_fill_100 rfl ?_
          refine jm_iaload d_X9_fill_101 (ixl_125 f5.1 f5.2) ?_
          refine jm_iconst (v := (-1)) d_X9_fill_102 rfl (jm_okI (by decide) (by decide)) ?_
          refine jm_icmp_ne (tgt := 110) d_X9_fill_103 (by decide) (fun _ => ?_) (fun c14 => absurd c6 c14)
          refine jm_iloadn d_X9_fill_110 rfl ?_
          refine jm_istore (L' := [some (jm_R _), some (jm_R _), some (jm_I _), some (jm_I _), some (jm_I _), some (jm_I _), none, none]) d_X9_fill_111 (Nat.le_of_ble_eq_true rfl) rfl ?_
          exact h
      · have h := h.2 c6
        refine jm_aloadn d_X9_fill_47 rfl ?_
        obtain ⟨f15, h⟩ := h
        refine jm_getR (k := 0) (ki := 0) cf_X6 (Nat.le_of_ble_eq_true rfl) f_X9_79 d_X9_fill_48 rfl rfl f15 rfl ?_
        obtain ⟨f16, h⟩ := h
        refine jm_getI (k := 1) (ki := 1) cf_X5 (Nat.le_of_ble_eq_true rfl) f_X9_85 d_X9_fill_51 rfl rfl f16 rfl ?_
        refine jm_iconst (v := 1) d_X9_fill_54 rfl (jm_okI (by decide) (by decide)) ?_
        refine jm_isub d_X9_fill_55 ?_
        refine jm_goto (tgt := 65) d_X9_fill_56 (by decide) ?_
        have h := h _ rfl
        refine jm_istoren (L' := [some (jm_R _), some (jm_R _), some (jm_I _), some (jm_I _), none, none, none, none]) d_X9_fill_65 (Nat.le_of_ble_eq_true rfl) rfl ?_
        refine jm_aloadn d_X9_fill_66 rfl ?_
        refine jm_getF (k := 2) (ki := 2) rfl cf_X9 (Nat.le_of_ble_eq_true rfl) f_X9_17 d_X9_fill_67 rfl rfl is_124 fr_124_2 ?_
        refine jm_iloadn d_X9_fill_70 rfl ?_
        refine jm_iaload d_X9_fill_71 (ixl_126 f5.1 f5.2) ?_
        refine jm_iconst (v := (-1)) d_X9_fill_72 rfl (jm_okI (by decide) (by decide)) ?_
        refine jm_icmp_ne (tgt := 88) d_X9_fill_73 (by decide) (fun c18 => ?_) (fun c18 => ?_)
        · have h := h.1 c18
          refine jm_aloadn d_X9_fill_88 rfl ?_
          refine jm_getF (k := 2) (ki := 2) rfl cf_X9 (Nat.le_of_ble_eq_true rfl) f_X9_17 d_X9_fill_89 rfl rfl is_124 fr_124_2 ?_
          refine jm_iloadn d_X9_fill_92 rfl ?_
          refine jm_iaload d_X9_fill_93 (ixl_126 f5.1 f5.2) ?_
          have h := h _ rfl
          refine jm_istore (L' := [some (jm_R _), some (jm_R _), some (jm_I _), some (jm_I _), some (jm_I _), none, none, none]) d_X9_fill_94 (Nat.le_of_ble_eq_true rfl) rfl ?_
          refine jm_aloadn d_X9_fill_96 rfl ?_
          refine jm_getF (k := 1) (ki := 1) rfl cf_X9 (Nat.le_of_ble_eq_true rfl) f_X9_11 d_X9_fill_97 rfl rfl is_124 fr_124_1 ?_
          refine jm_iloadn d_X9_fill_100 rfl ?_
          refine jm_iaload d_X9_fill_101 (ixl_125 f5.1 f5.2) ?_
          refine jm_iconst (v := (-1)) d_X9_fill_102 rfl (jm_okI (by decide) (by decide)) ?_
          refine jm_icmp_ne (tgt := 110) d_X9_fill_103 (by decide) (fun c20 => absurd c20 c6) (fun _ => ?_)
          refine jm_iconst (v := 0) d_X9_fill_106 rfl (jm_okI (by decide) (by decide)) ?_
          refine jm_goto (tgt := 111) d_X9_fill_107 (by decide) ?_
          refine jm_istore (L' := [some (jm_R _), some (jm_R _), some (jm_I _), some (jm_I _), some (jm_I _), some (jm_I _), none, none]) d_X9_fill_111 (Nat.le_of_ble_eq_true rfl) rfl ?_
          exact h
        · have h := h.2 c18
          refine jm_aloadn d_X9_fill_76 rfl ?_
          refine jm_getR (k := 0) (ki := 0) cf_X6 (Nat.le_of_ble_eq_true rfl) f_X9_79 d_X9_fill_77 rfl rfl f15 rfl ?_
          refine jm_getI (k := 4) (ki := 4) cf_X5 (Nat.le_of_ble_eq_true rfl) f_X9_90 d_X9_fill_80 rfl rfl f16 rfl ?_
          refine jm_iconst (v := 1) d_X9_fill_83 rfl (jm_okI (by decide) (by decide)) ?_
          refine jm_isub d_X9_fill_84 ?_
          refine jm_goto (tgt := 94) d_X9_fill_85 (by decide) ?_
          have h := h _ rfl
          refine jm_istore (L' := [some (jm_R _), some (jm_R _), some (jm_I _), some (jm_I _), some (jm_I _), none, none, none]) d_X9_fill_94 (Nat.le_of_ble_eq_true rfl) rfl ?_
          refine jm_aloadn d_X9_fill_96 rfl ?_
          refine jm_getF (k := 1) (ki := 1) rfl cf_X9 (Nat.le_of_ble_eq_true rfl) f_X9_11 d_X9_fill_97 rfl rfl is_124 fr_124_1 ?_
          refine jm_iloadn d_X9_fill_100 rfl ?_
          refine jm_iaload d_X9_fill_101 (ixl_125 f5.1 f5.2) ?_
          refine jm_iconst (v := (-1)) d_X9_fill_102 rfl (jm_okI (by decide) (by decide)) ?_
          refine jm_icmp_ne (tgt := 110) d_X9_fill_103 (by decide) (fun c22 => absurd c22 c6) (fun _ => ?_)
          refine jm_iconst (v := 0) d_X9_fill_106 rfl (jm_okI (by decide) (by decide)) ?_
          refine jm_goto (tgt := 111) d_X9_fill_107 (by decide) ?_
          refine jm_istore (L' := [some (jm_R _), some (jm_R _), some (jm_I _), some (jm_I _), some (jm_I _), some (jm_I _), none, none]) d_X9_fill_111 (Nat.le_of_ble_eq_true rfl) rfl ?_
          exact h
    · have h := h.2 c4
      refine jm_aloadn d_X9_fill_14 rfl ?_
      refine jm_dup rfl d_X9_fill_15 ?_
      refine jm_getI (k := 3) (ki := 3) cf_X9 (Nat.le_of_ble_eq_true rfl) f_X9_49 d_X9_fill_16 rfl rfl is_124 rfl ?_
      refine jm_iconst (v := 1) d_X9_fill_19 rfl (jm_okI (by decide) (by decide)) ?_
      refine jm_iadd d_X9_fill_20 ?_
      refine jm_putI (k := 3) (ki := 3) cf_X9 (Nat.le_of_ble_eq_true rfl) f_X9_49 d_X9_fill_21 (fun z => absurd z (by decide)) rfl rfl rfl (fun _ => rfl) is_124 ?_
      refine jm_aloadn d_X9_fill_24 rfl ?_
      refine jm_getI (k := 5) (ki := 5) cf_X9 (Nat.le_of_ble_eq_true rfl) f_X9_70 d_X9_fill_25 rfl rfl is_124 ((jm_up_i (by decide)).trans rfl) ?_
      refine jm_if_eq (tgt := 36) d_X9_fill_28 (by decide) (fun c23 => ?_) (fun c23 => ?_)
      · have h := h.1 c23
        exact jm_ret (o := none) d_X9_fill_36 rfl ⟨Nat.le_refl _, Nat.le_refl _⟩ jm_r_V h rfl
      · have h := h.2 c23
        refine jm_aloadn d_X9_fill_31 rfl ?_
        refine jm_aloadn d_X9_fill_32 rfl ?_
        refine jm_invV (n1 := jm_N) (mc := 0) (ms := 0) (av := [jm_R _]) w_X9_markStates l_X9_75 d_X9_fill_33 rfl is_124 ⟨_, _, rfl⟩ ⟨Nat.le_refl _, Nat.le_refl _⟩ (Nat.le_of_ble_eq_true rfl) rfl ?_
        refine jm_Cl.mono h (fun o m24 h hr _ => ?_)
        obtain rfl := jm_rokV hr
        have h := h rfl
        exact jm_ret (o := none) d_X9_fill_36 rfl ⟨Nat.le_refl _, Nat.le_refl _⟩ jm_r_V h rfl
set_option maxRecDepth 20000 in
theorem r_X9_fill_113 {E : jm_E} {d : Nat} {μ : jm_M} {Q : Option jm_V → jm_M → Prop} {v1 v2 v3 v4 v5 : Int} (h :
  ((v3 < v5 →
    Q none μ) ∧
   (¬ (v3 < v5) →
    (0 ≤ v2 ∧ v2 < 24) ∧
    ((μ 126 v2 ≠ ((-1)) →
      jg E m_X9_fill d 137 [some (jm_R 124), some (jm_R v1), some (jm_I v2), some (jm_I v3), some (jm_I v4), some (jm_I v5), some (jm_I v4), none] [] μ Q) ∧
     (¬ (μ 126 v2 ≠ ((-1))) →
      jg E m_X9_fill d 137 [some (jm_R 124), some (jm_R v1), some (jm_I v2), some (jm_I v3), some (jm_I v4), some (jm_I v5), some (jm_I 0), none] [] μ Q))))) : jg E m_X9_fill d 113 [some (jm_R 124), some (jm_R v1), some (jm_I v2), some (jm_I v3), some (jm_I v4), some (jm_I v5), none, none] [] μ Q := by
  refine jm_iload d_X9_fill_113 rfl ?_
  refine jm_iloadn d_X9_fill_115 rfl ?_
  refine jm_icmp_gt (tgt := 246) d_X9_fill_116 (by decide) (fun c1 => ?_) (fun c1 => ?_)
  · have h := h.1 c1
    exact jm_ret (o := none) d_X9_fill_246 rfl ⟨Nat.le_refl _, Nat.le_refl _⟩ jm_r_V h rfl
  · have h := h.2 c1
    refine jm_aloadn d_X9_fill_119 rfl ?_
    refine jm_getF (k := 2) (ki := 2) rfl cf_X9 (Nat.le_of_ble_eq_true rfl) f_X9_17 d_X9_fill_120 rfl rfl is_124 fr_124_2 ?_
    refine jm_iloadn d_X9_fill_123 rfl ?_
    obtain ⟨f2, h⟩ := h
    refine jm_iaload d_X9_fill_124 (ixl_126 f2.1 f2.2) ?_
    refine jm_iconst (v := (-1)) d_X9_fill_125 rfl (jm_okI (by decide) (by decide)) ?_
    refine jm_icmp_ne (tgt := 133) d_X9_fill_126 (by decide) (fun c3 => ?_) (fun c3 => ?_)
    · have h := h.1 c3
      refine jm_iload d_X9_fill_133 rfl ?_
      refine jm_istore (L' := [some (jm_R _), some (jm_R _), some (jm_I _), some (jm_I _), some (jm_I _), some (jm_I _), some (jm_I _), none]) d_X9_fill_135 (Nat.le_of_ble_eq_true rfl) rfl ?_
      exact h
    · have h := h.2 c3
      refine jm_iconst (v := 0) d_X9_fill_129 rfl (jm_okI (by decide) (by decide)) ?_
      refine jm_goto (tgt := 135) d_X9_fill_130 (by decide) ?_
      refine jm_istore (L' := [some (jm_R _), some (jm_R _), some (jm_I _), some (jm_I _), some (jm_I _), some (jm_I _), some (jm_I _), none]) d_X9_fill_135 (Nat.le_of_ble_eq_true rfl) rfl ?_
      exact h
set_option maxRecDepth 20000 in
theorem r_X9_fill_137 {E : jm_E} {d : Nat} {μ : jm_M} {Q : Option jm_V → jm_M → Prop} {v1 v2 v3 v4 v5 v6 : Int} (h :
  ((v4 < v6 →
    jg E m_X9_fill d 113 [some (jm_R 124), some (jm_R v1), some (jm_I v2), some (jm_I v3), some (jm_I v4), some (jm_I (jm_wr (v5 + 1))), none, none] [] μ Q) ∧
   (¬ (v4 < v6) →
    ((μ 124 4 < μ 124 3 →
      jg E m_X9_fill d 137 [some (jm_R 124), some (jm_R v1), some (jm_I v2), some (jm_I v3), some (jm_I v4), some (jm_I v5), some (jm_I (jm_wr (v6 + 1))), none] [] μ Q) ∧
     (¬ (μ 124 4 < μ 124 3) →
      (jm_is jm_N v1 1 6) ∧
      jc E m_X6_flaw d [jm_R v1, jm_I v5, jm_I v6] μ (fun (o : Option jm_V) (m3 : jm_M) => ∀ r5 : Int, o = some (jm_I r5) →
      ((r5 ≠ 0 →
        jg E m_X9_fill d 137 [some (jm_R 124), some (jm_R v1), some (jm_I v2), some (jm_I v3), some (jm_I v4), some (jm_I v5), some (jm_I (jm_wr (v6 + 1))), none] [] m3 Q) ∧
       (¬ (r5 ≠ 0) →
        jc E m_X6_add d [jm_R v1, jm_I v5, jm_I v6] m3 (fun (o : Option jm_V) (m7 : jm_M) => o = none →
        jc E m_X9_fill d [jm_R 124, jm_R v1, jm_I (jm_wr (v2 + 1))] m7 (fun (o : Option jm_V) (m8 : jm_M) => o = none →
        jc E m_X6_takeBack d [jm_R v1] m8 (fun (o : Option jm_V) (m9 : jm_M) => o = none →
        ((m9 124 5 = 0 →
          jg E m_X9_fill d 137 [some (jm_R 124), some (jm_R v1), some (jm_I v2), some (jm_I v3), some (jm_I v4), some (jm_I v5), some (jm_I (jm_wr (v6 + 1))), none] [] m9 Q) ∧
         (¬ (m9 124 5 = 0) →
          ((m9 124 3 ≤ m3 124 3 →
            jg E m_X9_fill d 137 [some (jm_R 124), some (jm_R v1), some (jm_I v2), some (jm_I v3), some (jm_I v4), some (jm_I v5), some (jm_I (jm_wr (v6 + 1))), none] [] m9 Q) ∧
           (¬ (m9 124 3 ≤ m3 124 3) →
            (0 ≤ v2 ∧ v2 < 24) ∧
            ∀ m13 : jm_M, m13 = (jm_up m9 127 v2 (jm_or (m9 127 v2) (jm_shl 1 v5))) →
            ∀ m14 : jm_M, m14 = (jm_up m13 128 v2 (jm_or (m13 128 v2) (jm_shl 1 v6))) →
            jg E m_X9_fill d 137 [some (jm_R 124), some (jm_R v1), some (jm_I v2), some (jm_I v3), some (jm_I v4), some (jm_I v5), some (jm_I (jm_wr (v6 + 1))), none] [] m14 Q))))))))))))))) : jg E m_X9_fill d 137 [some (jm_R 124), some (jm_R v1), some (jm_I v2), some (jm_I v3), some (jm_I v4), some (jm_I v5), some (jm_I v6), none] [] μ Q := by
  refine jm_iload d_X9_fill_137 rfl ?_
  refine jm_iload d_X9_fill_139 rfl ?_
  refine jm_icmp_gt (tgt := 240) d_X9_fill_141 (by decide) (fun c1 => ?_) (fun c1 => ?_)
  · have h := h.1 c1
    refine jm_iinc (L' := [some (jm_R _), some (jm_R _), some (jm_I _), some (jm_I _), some (jm_I _), some (jm_I _), some (jm_I _), none]) d_X9_fill_240 rfl rfl (Nat.le_of_ble_eq_true rfl) rfl ?_
    refine jm_goto (tgt := 113) d_X9_fill_243 (by decide) ?_
    exact jm_weak2 h (And.intro rfl (And.intro rfl (And.intro rfl (And.intro rfl (And.intro rfl (And.intro rfl trivial))))))
  · have h := h.2 c1
    refine jm_aloadn d_X9_fill_144 rfl ?_
    refine jm_getI (k := 3) (ki := 3) cf_X9 (Nat.le_of_ble_eq_true rfl) f_X9_49 d_X9_fill_145 rfl rfl is_124 rfl ?_
    refine jm_aloadn d_X9_fill_148 rfl ?_
    refine jm_getI (k := 4) (ki := 4) cf_X9 (Nat.le_of_ble_eq_true rfl) f_X9_67 d_X9_fill_149 rfl rfl is_124 rfl ?_
    refine jm_icmp_gt (tgt := 234) d_X9_fill_152 (by decide) (fun c2 => ?_) (fun c2 => ?_)
    · have h := h.1 c2
      refine jm_iinc (L' := [some (jm_R _), some (jm_R _), some (jm_I _), some (jm_I _), some (jm_I _), some (jm_I _), some (jm_I _), none]) d_X9_fill_234 rfl rfl (Nat.le_of_ble_eq_true rfl) rfl ?_
      refine jm_goto (tgt := 137) d_X9_fill_237 (by decide) ?_
      exact h
    · have h := h.2 c2
      refine jm_aloadn d_X9_fill_155 rfl ?_
      refine jm_iload d_X9_fill_156 rfl ?_
      refine jm_iload d_X9_fill_158 rfl ?_
      obtain ⟨f4, h⟩ := h
      refine jm_invV (n1 := jm_N) (mc := 0) (ms := 0) (av := [jm_I _, jm_I _]) w_X6_flaw l_X9_93 d_X9_fill_160 rfl f4 ⟨_, _, rfl⟩ ⟨Nat.le_refl _, Nat.le_refl _⟩ (Nat.le_of_ble_eq_true rfl) rfl ?_
      refine jm_Cl.mono h (fun o m3 h hr _ => ?_)
      obtain ⟨r5, rfl⟩ := jm_rokI hr
      have h := h _ rfl
      refine jm_if_ne (tgt := 234) d_X9_fill_163 (by decide) (fun c6 => ?_) (fun c6 => ?_)
      · have h := h.1 c6
        refine jm_iinc (L' := [some (jm_R _), some (jm_R _), some (jm_I _), some (jm_I _), some (jm_I _), some (jm_I _), some (jm_I _), none]) d_X9_fill_234 rfl rfl (Nat.le_of_ble_eq_true rfl) rfl ?_
        refine jm_goto (tgt := 137) d_X9_fill_237 (by decide) ?_
        exact h
      · have h := h.2 c6
        refine jm_aloadn d_X9_fill_166 rfl ?_
        refine jm_getI (k := 3) (ki := 3) cf_X9 (Nat.le_of_ble_eq_true rfl) f_X9_49 d_X9_fill_167 rfl rfl is_124 rfl ?_
        refine jm_istore (L' := [some (jm_R _), some (jm_R _), some (jm_I _), some (jm_I _), some (jm_I _), some (jm_I _), some (jm_I _), some (jm_I _)]) d_X9_fill_170 (Nat.le_of_ble_eq_true rfl) rfl ?_
        refine jm_aloadn d_X9_fill_172 rfl ?_
        refine jm_iload d_X9_fill_173 rfl ?_
        refine jm_iload d_X9_fill_175 rfl ?_
        refine jm_invV (n1 := jm_N) (mc := 0) (ms := 0) (av := [jm_I _, jm_I _]) w_X6_add l_X9_97 d_X9_fill_177 rfl f4 ⟨_, _, rfl⟩ ⟨Nat.le_refl _, Nat.le_refl _⟩ (Nat.le_of_ble_eq_true rfl) rfl ?_
        refine jm_Cl.mono h (fun o m7 h hr _ => ?_)
        obtain rfl := jm_rokV hr
        have h := h rfl
        refine jm_aloadn d_X9_fill_180 rfl ?_
        refine jm_aloadn d_X9_fill_181 rfl ?_
        refine jm_iloadn d_X9_fill_182 rfl ?_
        refine jm_iconst (v := 1) d_X9_fill_183 rfl (jm_okI (by decide) (by decide)) ?_
        refine jm_iadd d_X9_fill_184 ?_
        refine jm_invV (n1 := jm_N) (mc := 0) (ms := 0) (av := [jm_R _, jm_I _]) w_X9_fill l_X9_45 d_X9_fill_185 rfl is_124 ⟨_, _, rfl⟩ ⟨Nat.le_refl _, Nat.le_refl _⟩ (Nat.le_of_ble_eq_true rfl) rfl ?_
        refine jm_Cl.mono h (fun o m8 h hr _ => ?_)
        obtain rfl := jm_rokV hr
        have h := h rfl
        refine jm_aloadn d_X9_fill_188 rfl ?_
        refine jm_invV (n1 := jm_N) (mc := 0) (ms := 0) (av := []) w_X6_takeBack l_X9_101 d_X9_fill_189 rfl f4 ⟨_, _, rfl⟩ ⟨Nat.le_refl _, Nat.le_refl _⟩ (Nat.le_of_ble_eq_true rfl) rfl ?_
        refine jm_Cl.mono h (fun o m9 h hr _ => ?_)
        obtain rfl := jm_rokV hr
        have h := h rfl
        refine jm_aloadn d_X9_fill_192 rfl ?_
        refine jm_getI (k := 5) (ki := 5) cf_X9 (Nat.le_of_ble_eq_true rfl) f_X9_70 d_X9_fill_193 rfl rfl is_124 rfl ?_
        refine jm_if_eq (tgt := 234) d_X9_fill_196 (by decide) (fun c10 => ?_) (fun c10 => ?_)
        · have h := h.1 c10
          refine jm_iinc (L' := [some (jm_R _), some (jm_R _), some (jm_I _), some (jm_I _), some (jm_I _), some (jm_I _), some (jm_I _), some (jm_I _)]) d_X9_fill_234 rfl rfl (Nat.le_of_ble_eq_true rfl) rfl ?_
          refine jm_goto (tgt := 137) d_X9_fill_237 (by decide) ?_
          exact jm_weak2 h (And.intro rfl (And.intro rfl (And.intro rfl (And.intro rfl (And.intro rfl (And.intro rfl (And.intro rfl trivial)))))))
        · have h := h.2 c10
          refine jm_aloadn d_X9_fill_199 rfl ?_
          refine jm_getI (k := 3) (ki := 3) cf_X9 (Nat.le_of_ble_eq_true rfl) f_X9_49 d_X9_fill_200 rfl rfl is_124 rfl ?_
          refine jm_iload d_X9_fill_203 rfl ?_
          refine jm_icmp_le (tgt := 234) d_X9_fill_205 (by decide) (fun c11 => ?_) (fun c11 => ?_)
          · have h := h.1 c11
            refine jm_iinc (L' := [some (jm_R _), some (jm_R _), some (jm_I _), some (jm_I _), some (jm_I _), some (jm_I _), some (jm_I _), some (jm_I _)]) d_X9_fill_234 rfl rfl (Nat.le_of_ble_eq_true rfl) rfl ?_
            refine jm_goto (tgt := 137) d_X9_fill_237 (by decide) ?_
            exact jm_weak2 h (And.intro rfl (And.intro rfl (And.intro rfl (And.intro rfl (And.intro rfl (And.intro rfl (And.intro rfl trivial)))))))
          · have h := h.2 c11
            refine jm_aloadn d_X9_fill_208 rfl ?_
            refine jm_getF (k := 7) (ki := 7) rfl cf_X9 (Nat.le_of_ble_eq_true rfl) f_X9_20 d_X9_fill_209 rfl rfl is_124 fr_124_7 ?_
            refine jm_iloadn d_X9_fill_212 rfl ?_
            refine jm_dup2 rfl rfl d_X9_fill_213 ?_
            obtain ⟨f12, h⟩ := h
            refine jm_iaload d_X9_fill_214 (ixl_127 f12.1 f12.2) ?_
            refine jm_iconst (v := 1) d_X9_fill_215 rfl (jm_okI (by decide) (by decide)) ?_
            refine jm_iload d_X9_fill_216 rfl ?_
            refine jm_ishl d_X9_fill_218 ?_
            refine jm_ior d_X9_fill_219 ?_
            refine jm_iastore d_X9_fill_220 (ixl_127 f12.1 f12.2) ?_
            have h := h _ rfl
            refine jm_aloadn d_X9_fill_221 rfl ?_
            refine jm_getF (k := 8) (ki := 8) rfl cf_X9 (Nat.le_of_ble_eq_true rfl) f_X9_23 d_X9_fill_222 rfl rfl is_124 fr_124_8 ?_
            refine jm_iloadn d_X9_fill_225 rfl ?_
            refine jm_dup2 rfl rfl d_X9_fill_226 ?_
            refine jm_iaload d_X9_fill_227 (ixl_128 f12.1 f12.2) ?_
            refine jm_iconst (v := 1) d_X9_fill_228 rfl (jm_okI (by decide) (by decide)) ?_
            refine jm_iload d_X9_fill_229 rfl ?_
            refine jm_ishl d_X9_fill_231 ?_
            refine jm_ior d_X9_fill_232 ?_
            refine jm_iastore d_X9_fill_233 (ixl_128 f12.1 f12.2) ?_
            have h := h _ rfl
            refine jm_iinc (L' := [some (jm_R _), some (jm_R _), some (jm_I _), some (jm_I _), some (jm_I _), some (jm_I _), some (jm_I _), some (jm_I _)]) d_X9_fill_234 rfl rfl (Nat.le_of_ble_eq_true rfl) rfl ?_
            refine jm_goto (tgt := 137) d_X9_fill_237 (by decide) ?_
            exact jm_weak2 h (And.intro rfl (And.intro rfl (And.intro rfl (And.intro rfl (And.intro rfl (And.intro rfl (And.intro rfl trivial)))))))
/-! ('CombTable$Wholes', 'markStates', '(LCombTable$Talk;)V') -/
theorem d_X9_markStates_0 : decode m_X9_markStates.2.1 0 = .ok (.iconst 0, 1) := by decide +kernel
theorem d_X9_markStates_1 : decode m_X9_markStates.2.1 1 = .ok (.istore_n 2, 1) := by decide +kernel
theorem d_X9_markStates_2 : decode m_X9_markStates.2.1 2 = .ok (.iload_n 2, 1) := by decide +kernel
theorem d_X9_markStates_3 : decode m_X9_markStates.2.1 3 = .ok (.aload_n 1, 1) := by decide +kernel
theorem d_X9_markStates_4 : decode m_X9_markStates.2.1 4 = .ok (.getfield 104, 3) := by decide +kernel
theorem d_X9_markStates_7 : decode m_X9_markStates.2.1 7 = .ok (.if_icmp .ge 31, 3) := by decide +kernel
theorem d_X9_markStates_10 : decode m_X9_markStates.2.1 10 = .ok (.iload_n 2, 1) := by decide +kernel
theorem d_X9_markStates_11 : decode m_X9_markStates.2.1 11 = .ok (.bipush 24, 2) := by decide +kernel
theorem d_X9_markStates_13 : decode m_X9_markStates.2.1 13 = .ok (.if_icmp .ge 25, 3) := by decide +kernel
theorem d_X9_markStates_16 : decode m_X9_markStates.2.1 16 = .ok (.aload_n 0, 1) := by decide +kernel
theorem d_X9_markStates_17 : decode m_X9_markStates.2.1 17 = .ok (.getfield 26, 3) := by decide +kernel
theorem d_X9_markStates_20 : decode m_X9_markStates.2.1 20 = .ok (.iload_n 2, 1) := by decide +kernel
theorem d_X9_markStates_21 : decode m_X9_markStates.2.1 21 = .ok (.dup2, 1) := by decide +kernel
theorem d_X9_markStates_22 : decode m_X9_markStates.2.1 22 = .ok (.iaload, 1) := by decide +kernel
theorem d_X9_markStates_23 : decode m_X9_markStates.2.1 23 = .ok (.iconst 1, 1) := by decide +kernel
theorem d_X9_markStates_24 : decode m_X9_markStates.2.1 24 = .ok (.aload_n 1, 1) := by decide +kernel
theorem d_X9_markStates_25 : decode m_X9_markStates.2.1 25 = .ok (.iload_n 2, 1) := by decide +kernel
theorem d_X9_markStates_26 : decode m_X9_markStates.2.1 26 = .ok (.invokevirtual 105, 3) := by decide +kernel
theorem d_X9_markStates_29 : decode m_X9_markStates.2.1 29 = .ok (.ishl, 1) := by decide +kernel
theorem d_X9_markStates_30 : decode m_X9_markStates.2.1 30 = .ok (.ior, 1) := by decide +kernel
theorem d_X9_markStates_31 : decode m_X9_markStates.2.1 31 = .ok (.iastore, 1) := by decide +kernel
theorem d_X9_markStates_32 : decode m_X9_markStates.2.1 32 = .ok (.iinc 2 1, 3) := by decide +kernel
theorem d_X9_markStates_35 : decode m_X9_markStates.2.1 35 = .ok (.goto (-33), 3) := by decide +kernel
theorem d_X9_markStates_38 : decode m_X9_markStates.2.1 38 = .ok (.return_, 1) := by decide +kernel
set_option maxRecDepth 20000 in
theorem e_X9_markStates {E : jm_E} {d : Nat} {μ : jm_M} {Q : Option jm_V → jm_M → Prop} {v1 : Int} (h : (∀ v ∈ ([jm_R 124, jm_R v1] : List jm_V), jm_ok v) →
  jg E m_X9_markStates d 2 [some (jm_R 124), some (jm_R v1), some (jm_I 0)] [] μ Q) : jc E m_X9_markStates (d + 1) [jm_R 124, jm_R v1] μ Q := by
  refine jm_Cl.of2 (by decide +kernel) (L0 := [some (jm_R 124), some (jm_R v1), none]) rfl (Nat.le_of_ble_eq_true rfl) (fun hok => ?_)
  have h := h hok
  refine jm_iconst (v := 0) d_X9_markStates_0 rfl (jm_okI (by decide) (by decide)) ?_
  refine jm_istoren (L' := [some (jm_R _), some (jm_R _), some (jm_I _)]) d_X9_markStates_1 (Nat.le_of_ble_eq_true rfl) rfl ?_
  exact h
set_option maxRecDepth 20000 in
theorem r_X9_markStates_2 {E : jm_E} {d : Nat} {μ : jm_M} {Q : Option jm_V → jm_M → Prop} {v1 v2 : Int} (h :
  (jm_is jm_N v1 1 6) ∧
  ((μ v1 1 ≤ v2 →
    Q none μ) ∧
   (¬ (μ v1 1 ≤ v2) →
    ((24 ≤ v2 →
      Q none μ) ∧
     (¬ (24 ≤ v2) →
      (0 ≤ v2 ∧ v2 < 24) ∧
      jc E m_X6_stateOf d [jm_R v1, jm_I v2] μ (fun (o : Option jm_V) (m5 : jm_M) => ∀ r6 : Int, o = some (jm_I r6) →
      ∀ m7 : jm_M, m7 = (jm_up m5 129 v2 (jm_or (μ 129 v2) (jm_shl 1 r6))) →
      jg E m_X9_markStates d 2 [some (jm_R 124), some (jm_R v1), some (jm_I (jm_wr (v2 + 1)))] [] m7 Q)))))) : jg E m_X9_markStates d 2 [some (jm_R 124), some (jm_R v1), some (jm_I v2)] [] μ Q := by
  refine jm_iloadn d_X9_markStates_2 rfl ?_
  refine jm_aloadn d_X9_markStates_3 rfl ?_
  obtain ⟨f1, h⟩ := h
  refine jm_getI (k := 1) (ki := 1) cf_X6 (Nat.le_of_ble_eq_true rfl) f_X9_104 d_X9_markStates_4 rfl rfl f1 rfl ?_
  refine jm_icmp_ge (tgt := 38) d_X9_markStates_7 (by decide) (fun c2 => ?_) (fun c2 => ?_)
  · have h := h.1 c2
    exact jm_ret (o := none) d_X9_markStates_38 rfl ⟨Nat.le_refl _, Nat.le_refl _⟩ jm_r_V h rfl
  · have h := h.2 c2
    refine jm_iloadn d_X9_markStates_10 rfl ?_
    refine jm_bipush (v := 24) d_X9_markStates_11 rfl (jm_okI (by decide) (by decide)) ?_
    refine jm_icmp_ge (tgt := 38) d_X9_markStates_13 (by decide) (fun c3 => ?_) (fun c3 => ?_)
    · have h := h.1 c3
      exact jm_ret (o := none) d_X9_markStates_38 rfl ⟨Nat.le_refl _, Nat.le_refl _⟩ jm_r_V h rfl
    · have h := h.2 c3
      refine jm_aloadn d_X9_markStates_16 rfl ?_
      refine jm_getF (k := 9) (ki := 9) rfl cf_X9 (Nat.le_of_ble_eq_true rfl) f_X9_26 d_X9_markStates_17 rfl rfl is_124 fr_124_9 ?_
      refine jm_iloadn d_X9_markStates_20 rfl ?_
      refine jm_dup2 rfl rfl d_X9_markStates_21 ?_
      obtain ⟨f4, h⟩ := h
      refine jm_iaload d_X9_markStates_22 (ixl_129 f4.1 f4.2) ?_
      refine jm_iconst (v := 1) d_X9_markStates_23 rfl (jm_okI (by decide) (by decide)) ?_
      refine jm_aloadn d_X9_markStates_24 rfl ?_
      refine jm_iloadn d_X9_markStates_25 rfl ?_
      refine jm_invV (n1 := jm_N) (mc := 0) (ms := 0) (av := [jm_I _]) w_X6_stateOf l_X9_105 d_X9_markStates_26 rfl f1 ⟨_, _, rfl⟩ ⟨Nat.le_refl _, Nat.le_refl _⟩ (Nat.le_of_ble_eq_true rfl) rfl ?_
      refine jm_Cl.mono h (fun o m5 h hr _ => ?_)
      obtain ⟨r6, rfl⟩ := jm_rokI hr
      have h := h _ rfl
      refine jm_ishl d_X9_markStates_29 ?_
      refine jm_ior d_X9_markStates_30 ?_
      refine jm_iastore d_X9_markStates_31 (ixl_129 f4.1 f4.2) ?_
      have h := h _ rfl
      refine jm_iinc (L' := [some (jm_R _), some (jm_R _), some (jm_I _)]) d_X9_markStates_32 rfl rfl (Nat.le_of_ble_eq_true rfl) rfl ?_
      refine jm_goto (tgt := 2) d_X9_markStates_35 (by decide) ?_
      exact h
