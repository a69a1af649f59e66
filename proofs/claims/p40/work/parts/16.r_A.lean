/-! ('java/lang/Integer', 'bitCount', '(I)I') -/
theorem d_J6_bitCount_0f7a4_0 : decode m_J6_bitCount_0f7a4.2.1 0 = .ok (.iload_n 0, 1) := by decide +kernel
theorem d_J6_bitCount_0f7a4_1 : decode m_J6_bitCount_0f7a4.2.1 1 = .ok (.iload_n 0, 1) := by decide +kernel
theorem d_J6_bitCount_0f7a4_2 : decode m_J6_bitCount_0f7a4.2.1 2 = .ok (.iconst 1, 1) := by decide +kernel
theorem d_J6_bitCount_0f7a4_3 : decode m_J6_bitCount_0f7a4.2.1 3 = .ok (.iushr, 1) := by decide +kernel
theorem d_J6_bitCount_0f7a4_4 : decode m_J6_bitCount_0f7a4.2.1 4 = .ok (.ldc_w 265, 3) := by decide +kernel
theorem d_J6_bitCount_0f7a4_7 : decode m_J6_bitCount_0f7a4.2.1 7 = .ok (.iand, 1) := by decide +kernel
theorem d_J6_bitCount_0f7a4_8 : decode m_J6_bitCount_0f7a4.2.1 8 = .ok (.isub, 1) := by decide +kernel
theorem d_J6_bitCount_0f7a4_9 : decode m_J6_bitCount_0f7a4.2.1 9 = .ok (.istore_n 0, 1) := by decide +kernel
theorem d_J6_bitCount_0f7a4_10 : decode m_J6_bitCount_0f7a4.2.1 10 = .ok (.iload_n 0, 1) := by decide +kernel
theorem d_J6_bitCount_0f7a4_11 : decode m_J6_bitCount_0f7a4.2.1 11 = .ok (.ldc_w 266, 3) := by decide +kernel
theorem d_J6_bitCount_0f7a4_14 : decode m_J6_bitCount_0f7a4.2.1 14 = .ok (.iand, 1) := by decide +kernel
theorem d_J6_bitCount_0f7a4_15 : decode m_J6_bitCount_0f7a4.2.1 15 = .ok (.iload_n 0, 1) := by decide +kernel
theorem d_J6_bitCount_0f7a4_16 : decode m_J6_bitCount_0f7a4.2.1 16 = .ok (.iconst 2, 1) := by decide +kernel
theorem d_J6_bitCount_0f7a4_17 : decode m_J6_bitCount_0f7a4.2.1 17 = .ok (.iushr, 1) := by decide +kernel
theorem d_J6_bitCount_0f7a4_18 : decode m_J6_bitCount_0f7a4.2.1 18 = .ok (.ldc_w 266, 3) := by decide +kernel
theorem d_J6_bitCount_0f7a4_21 : decode m_J6_bitCount_0f7a4.2.1 21 = .ok (.iand, 1) := by decide +kernel
theorem d_J6_bitCount_0f7a4_22 : decode m_J6_bitCount_0f7a4.2.1 22 = .ok (.iadd, 1) := by decide +kernel
theorem d_J6_bitCount_0f7a4_23 : decode m_J6_bitCount_0f7a4.2.1 23 = .ok (.istore_n 0, 1) := by decide +kernel
theorem d_J6_bitCount_0f7a4_24 : decode m_J6_bitCount_0f7a4.2.1 24 = .ok (.iload_n 0, 1) := by decide +kernel
theorem d_J6_bitCount_0f7a4_25 : decode m_J6_bitCount_0f7a4.2.1 25 = .ok (.iload_n 0, 1) := by decide +kernel
theorem d_J6_bitCount_0f7a4_26 : decode m_J6_bitCount_0f7a4.2.1 26 = .ok (.iconst 4, 1) := by decide +kernel
theorem d_J6_bitCount_0f7a4_27 : decode m_J6_bitCount_0f7a4.2.1 27 = .ok (.iushr, 1) := by decide +kernel
theorem d_J6_bitCount_0f7a4_28 : decode m_J6_bitCount_0f7a4.2.1 28 = .ok (.iadd, 1) := by decide +kernel
theorem d_J6_bitCount_0f7a4_29 : decode m_J6_bitCount_0f7a4.2.1 29 = .ok (.ldc_w 267, 3) := by decide +kernel
theorem d_J6_bitCount_0f7a4_32 : decode m_J6_bitCount_0f7a4.2.1 32 = .ok (.iand, 1) := by decide +kernel
theorem d_J6_bitCount_0f7a4_33 : decode m_J6_bitCount_0f7a4.2.1 33 = .ok (.istore_n 0, 1) := by decide +kernel
theorem d_J6_bitCount_0f7a4_34 : decode m_J6_bitCount_0f7a4.2.1 34 = .ok (.iload_n 0, 1) := by decide +kernel
theorem d_J6_bitCount_0f7a4_35 : decode m_J6_bitCount_0f7a4.2.1 35 = .ok (.iload_n 0, 1) := by decide +kernel
theorem d_J6_bitCount_0f7a4_36 : decode m_J6_bitCount_0f7a4.2.1 36 = .ok (.bipush 8, 2) := by decide +kernel
theorem d_J6_bitCount_0f7a4_38 : decode m_J6_bitCount_0f7a4.2.1 38 = .ok (.iushr, 1) := by decide +kernel
theorem d_J6_bitCount_0f7a4_39 : decode m_J6_bitCount_0f7a4.2.1 39 = .ok (.iadd, 1) := by decide +kernel
theorem d_J6_bitCount_0f7a4_40 : decode m_J6_bitCount_0f7a4.2.1 40 = .ok (.istore_n 0, 1) := by decide +kernel
theorem d_J6_bitCount_0f7a4_41 : decode m_J6_bitCount_0f7a4.2.1 41 = .ok (.iload_n 0, 1) := by decide +kernel
theorem d_J6_bitCount_0f7a4_42 : decode m_J6_bitCount_0f7a4.2.1 42 = .ok (.iload_n 0, 1) := by decide +kernel
theorem d_J6_bitCount_0f7a4_43 : decode m_J6_bitCount_0f7a4.2.1 43 = .ok (.bipush 16, 2) := by decide +kernel
theorem d_J6_bitCount_0f7a4_45 : decode m_J6_bitCount_0f7a4.2.1 45 = .ok (.iushr, 1) := by decide +kernel
theorem d_J6_bitCount_0f7a4_46 : decode m_J6_bitCount_0f7a4.2.1 46 = .ok (.iadd, 1) := by decide +kernel
theorem d_J6_bitCount_0f7a4_47 : decode m_J6_bitCount_0f7a4.2.1 47 = .ok (.istore_n 0, 1) := by decide +kernel
theorem d_J6_bitCount_0f7a4_48 : decode m_J6_bitCount_0f7a4.2.1 48 = .ok (.iload_n 0, 1) := by decide +kernel
theorem d_J6_bitCount_0f7a4_49 : decode m_J6_bitCount_0f7a4.2.1 49 = .ok (.bipush 63, 2) := by decide +kernel
theorem d_J6_bitCount_0f7a4_51 : decode m_J6_bitCount_0f7a4.2.1 51 = .ok (.iand, 1) := by decide +kernel
theorem d_J6_bitCount_0f7a4_52 : decode m_J6_bitCount_0f7a4.2.1 52 = .ok (.ireturn, 1) := by decide +kernel
set_option maxRecDepth 20000 in
theorem e_J6_bitCount_0f7a4 {E : jm_E} {d : Nat} {μ : jm_M} {Q : Option jm_V → jm_M → Prop} {v0 : Int} (h : (∀ v ∈ ([jm_I v0] : List jm_V), jm_ok v) →
  ∀ x1 : Int, x1 = jm_wr (v0 - (jm_and (jm_ushr v0 1) 1431655765)) →
  ∀ x2 : Int, x2 = jm_wr ((jm_and x1 858993459) + (jm_and (jm_ushr x1 2) 858993459)) →
  ∀ x3 : Int, x3 = jm_and (jm_wr (x2 + (jm_ushr x2 4))) 252645135 →
  ∀ x4 : Int, x4 = jm_wr (x3 + (jm_ushr x3 8)) →
  ∀ x5 : Int, x5 = jm_wr (x4 + (jm_ushr x4 16)) →
  Q (some (jm_I (jm_and x5 63))) μ) : jc E m_J6_bitCount_0f7a4 (d + 1) [jm_I v0] μ Q := by
  refine jm_Cl.of2 (by decide +kernel) (L0 := [some (jm_I v0)]) rfl (Nat.le_of_ble_eq_true rfl) (fun hok => ?_)
  have h := h hok
  refine jm_iloadn d_J6_bitCount_0f7a4_0 rfl ?_
  refine jm_iloadn d_J6_bitCount_0f7a4_1 rfl ?_
  refine jm_iconst (v := 1) d_J6_bitCount_0f7a4_2 rfl (jm_okI (by decide) (by decide)) ?_
  refine jm_iushr d_J6_bitCount_0f7a4_3 ?_
  refine jm_ldcw (v := 1431655765) d_J6_bitCount_0f7a4_4 k_J6_265 (jm_okI (by decide) (by decide)) ?_
  refine jm_iand d_J6_bitCount_0f7a4_7 ?_
  refine jm_isub d_J6_bitCount_0f7a4_8 ?_
  have h := h _ rfl
  refine jm_istoren (L' := [some (jm_I _)]) d_J6_bitCount_0f7a4_9 (Nat.le_of_ble_eq_true rfl) rfl ?_
  refine jm_iloadn d_J6_bitCount_0f7a4_10 rfl ?_
  refine jm_ldcw (v := 858993459) d_J6_bitCount_0f7a4_11 k_J6_266 (jm_okI (by decide) (by decide)) ?_
  refine jm_iand d_J6_bitCount_0f7a4_14 ?_
  refine jm_iloadn d_J6_bitCount_0f7a4_15 rfl ?_
  refine jm_iconst (v := 2) d_J6_bitCount_0f7a4_16 rfl (jm_okI (by decide) (by decide)) ?_
  refine jm_iushr d_J6_bitCount_0f7a4_17 ?_
  refine jm_ldcw (v := 858993459) d_J6_bitCount_0f7a4_18 k_J6_266 (jm_okI (by decide) (by decide)) ?_
  refine jm_iand d_J6_bitCount_0f7a4_21 ?_
  refine jm_iadd d_J6_bitCount_0f7a4_22 ?_
  have h := h _ rfl
  refine jm_istoren (L' := [some (jm_I _)]) d_J6_bitCount_0f7a4_23 (Nat.le_of_ble_eq_true rfl) rfl ?_
  refine jm_iloadn d_J6_bitCount_0f7a4_24 rfl ?_
  refine jm_iloadn d_J6_bitCount_0f7a4_25 rfl ?_
  refine jm_iconst (v := 4) d_J6_bitCount_0f7a4_26 rfl (jm_okI (by decide) (by decide)) ?_
  refine jm_iushr d_J6_bitCount_0f7a4_27 ?_
  refine jm_iadd d_J6_bitCount_0f7a4_28 ?_
  refine jm_ldcw (v := 252645135) d_J6_bitCount_0f7a4_29 k_J6_267 (jm_okI (by decide) (by decide)) ?_
  refine jm_iand d_J6_bitCount_0f7a4_32 ?_
  have h := h _ rfl
  refine jm_istoren (L' := [some (jm_I _)]) d_J6_bitCount_0f7a4_33 (Nat.le_of_ble_eq_true rfl) rfl ?_
  refine jm_iloadn d_J6_bitCount_0f7a4_34 rfl ?_
  refine jm_iloadn d_J6_bitCount_0f7a4_35 rfl ?_
  refine jm_bipush (v := 8) d_J6_bitCount_0f7a4_36 rfl (jm_okI (by decide) (by decide)) ?_
  refine jm_iushr d_J6_bitCount_0f7a4_38 ?_
  refine jm_iadd d_J6_bitCount_0f7a4_39 ?_
  have h := h _ rfl
  refine jm_istoren (L' := [some (jm_I _)]) d_J6_bitCount_0f7a4_40 (Nat.le_of_ble_eq_true rfl) rfl ?_
  refine jm_iloadn d_J6_bitCount_0f7a4_41 rfl ?_
  refine jm_iloadn d_J6_bitCount_0f7a4_42 rfl ?_
  refine jm_bipush (v := 16) d_J6_bitCount_0f7a4_43 rfl (jm_okI (by decide) (by decide)) ?_
  refine jm_iushr d_J6_bitCount_0f7a4_45 ?_
  refine jm_iadd d_J6_bitCount_0f7a4_46 ?_
  have h := h _ rfl
  refine jm_istoren (L' := [some (jm_I _)]) d_J6_bitCount_0f7a4_47 (Nat.le_of_ble_eq_true rfl) rfl ?_
  refine jm_iloadn d_J6_bitCount_0f7a4_48 rfl ?_
  refine jm_bipush (v := 63) d_J6_bitCount_0f7a4_49 rfl (jm_okI (by decide) (by decide)) ?_
  refine jm_iand d_J6_bitCount_0f7a4_51 ?_
  exact jm_ret (o := some (jm_I _)) d_J6_bitCount_0f7a4_52 rfl ⟨Nat.le_refl _, Nat.le_refl _⟩ jm_r_I h rfl
/-! ('CombTable$Term', 'withLetter', '(JI)J') -/
theorem d_X8_withLetter_0 : decode m_X8_withLetter.2.1 0 = .ok (.lload_n 0, 1) := by decide +kernel
theorem d_X8_withLetter_1 : decode m_X8_withLetter.2.1 1 = .ok (.ldc2_w 123, 3) := by decide +kernel
theorem d_X8_withLetter_4 : decode m_X8_withLetter.2.1 4 = .ok (.lmul, 1) := by decide +kernel
theorem d_X8_withLetter_5 : decode m_X8_withLetter.2.1 5 = .ok (.iload_n 2, 1) := by decide +kernel
theorem d_X8_withLetter_6 : decode m_X8_withLetter.2.1 6 = .ok (.bipush 97, 2) := by decide +kernel
theorem d_X8_withLetter_8 : decode m_X8_withLetter.2.1 8 = .ok (.isub, 1) := by decide +kernel
theorem d_X8_withLetter_9 : decode m_X8_withLetter.2.1 9 = .ok (.iconst 1, 1) := by decide +kernel
theorem d_X8_withLetter_10 : decode m_X8_withLetter.2.1 10 = .ok (.iadd, 1) := by decide +kernel
theorem d_X8_withLetter_11 : decode m_X8_withLetter.2.1 11 = .ok (.i2l, 1) := by decide +kernel
theorem d_X8_withLetter_12 : decode m_X8_withLetter.2.1 12 = .ok (.ladd, 1) := by decide +kernel
theorem d_X8_withLetter_13 : decode m_X8_withLetter.2.1 13 = .ok (.lreturn, 1) := by decide +kernel
set_option maxRecDepth 20000 in
theorem e_X8_withLetter {E : jm_E} {d : Nat} {μ : jm_M} {Q : Option jm_V → jm_M → Prop} {v0 v2 : Int} (h : (∀ v ∈ ([jm_L v0, jm_I v2] : List jm_V), jm_ok v) →
  Q (some (jm_L (jm_wl ((jm_wl (v0 * 32)) + (jm_wr ((jm_wr (v2 - 97)) + 1)))))) μ) : jc E m_X8_withLetter (d + 1) [jm_L v0, jm_I v2] μ Q := by
  refine jm_Cl.of2 (by decide +kernel) (L0 := [some (jm_L v0), none, some (jm_I v2)]) rfl (Nat.le_of_ble_eq_true rfl) (fun hok => ?_)
  have h := h hok
  refine jm_lloadn d_X8_withLetter_0 rfl ?_
  refine jm_ldc2 (v := 32) d_X8_withLetter_1 k_X8_123 (jm_okL (by decide) (by decide)) ?_
  refine jm_lmul d_X8_withLetter_4 ?_
  refine jm_iloadn d_X8_withLetter_5 rfl ?_
  refine jm_bipush (v := 97) d_X8_withLetter_6 rfl (jm_okI (by decide) (by decide)) ?_
  refine jm_isub d_X8_withLetter_8 ?_
  refine jm_iconst (v := 1) d_X8_withLetter_9 rfl (jm_okI (by decide) (by decide)) ?_
  refine jm_iadd d_X8_withLetter_10 ?_
  refine jm_i2l d_X8_withLetter_11 ?_
  refine jm_ladd d_X8_withLetter_12 ?_
  exact jm_ret (o := some (jm_L _)) d_X8_withLetter_13 rfl ⟨Nat.le_refl _, Nat.le_refl _⟩ jm_r_L h rfl
-- X7_init: by hand (objinit)
/-! ('CombTable$Tape', 'put', '(I)V') -/
theorem d_X7_put_0 : decode m_X7_put.2.1 0 = .ok (.bipush 24, 2) := by decide +kernel
theorem d_X7_put_2 : decode m_X7_put.2.1 2 = .ok (.istore_n 2, 1) := by decide +kernel
theorem d_X7_put_3 : decode m_X7_put.2.1 3 = .ok (.iload_n 2, 1) := by decide +kernel
theorem d_X7_put_4 : decode m_X7_put.2.1 4 = .ok (.ifCond .lt 42, 3) := by decide +kernel
theorem d_X7_put_7 : decode m_X7_put.2.1 7 = .ok (.aload_n 0, 1) := by decide +kernel
theorem d_X7_put_8 : decode m_X7_put.2.1 8 = .ok (.getfield 24, 3) := by decide +kernel
theorem d_X7_put_11 : decode m_X7_put.2.1 11 = .ok (.sipush 940, 3) := by decide +kernel
theorem d_X7_put_14 : decode m_X7_put.2.1 14 = .ok (.if_icmp .ge 32, 3) := by decide +kernel
theorem d_X7_put_17 : decode m_X7_put.2.1 17 = .ok (.aload_n 0, 1) := by decide +kernel
theorem d_X7_put_18 : decode m_X7_put.2.1 18 = .ok (.getfield 11, 3) := by decide +kernel
theorem d_X7_put_21 : decode m_X7_put.2.1 21 = .ok (.aload_n 0, 1) := by decide +kernel
theorem d_X7_put_22 : decode m_X7_put.2.1 22 = .ok (.getfield 24, 3) := by decide +kernel
theorem d_X7_put_25 : decode m_X7_put.2.1 25 = .ok (.iload_n 1, 1) := by decide +kernel
theorem d_X7_put_26 : decode m_X7_put.2.1 26 = .ok (.iload_n 2, 1) := by decide +kernel
theorem d_X7_put_27 : decode m_X7_put.2.1 27 = .ok (.ishr, 1) := by decide +kernel
theorem d_X7_put_28 : decode m_X7_put.2.1 28 = .ok (.i2b, 1) := by decide +kernel
theorem d_X7_put_29 : decode m_X7_put.2.1 29 = .ok (.bastore, 1) := by decide +kernel
theorem d_X7_put_30 : decode m_X7_put.2.1 30 = .ok (.aload_n 0, 1) := by decide +kernel
theorem d_X7_put_31 : decode m_X7_put.2.1 31 = .ok (.dup, 1) := by decide +kernel
theorem d_X7_put_32 : decode m_X7_put.2.1 32 = .ok (.getfield 24, 3) := by decide +kernel
theorem d_X7_put_35 : decode m_X7_put.2.1 35 = .ok (.iconst 1, 1) := by decide +kernel
theorem d_X7_put_36 : decode m_X7_put.2.1 36 = .ok (.iadd, 1) := by decide +kernel
theorem d_X7_put_37 : decode m_X7_put.2.1 37 = .ok (.putfield 24, 3) := by decide +kernel
theorem d_X7_put_40 : decode m_X7_put.2.1 40 = .ok (.iinc 2 (-8), 3) := by decide +kernel
theorem d_X7_put_43 : decode m_X7_put.2.1 43 = .ok (.goto (-40), 3) := by decide +kernel
theorem d_X7_put_46 : decode m_X7_put.2.1 46 = .ok (.return_, 1) := by decide +kernel
set_option maxRecDepth 20000 in
theorem e_X7_put {E : jm_E} {d : Nat} {μ : jm_M} {Q : Option jm_V → jm_M → Prop} {v1 : Int} (h : (∀ v ∈ ([jm_R 1, jm_I v1] : List jm_V), jm_ok v) →
  jg E m_X7_put d 3 [some (jm_R 1), some (jm_I v1), some (jm_I 24)] [] μ Q) : jc E m_X7_put (d + 1) [jm_R 1, jm_I v1] μ Q := by
  refine jm_Cl.of2 (by decide +kernel) (L0 := [some (jm_R 1), some (jm_I v1), none]) rfl (Nat.le_of_ble_eq_true rfl) (fun hok => ?_)
  have h := h hok
  refine jm_bipush (v := 24) d_X7_put_0 rfl (jm_okI (by decide) (by decide)) ?_
  refine jm_istoren (L' := [some (jm_R _), some (jm_I _), some (jm_I _)]) d_X7_put_2 (Nat.le_of_ble_eq_true rfl) rfl ?_
  exact h
set_option maxRecDepth 20000 in
theorem r_X7_put_3 {E : jm_E} {d : Nat} {μ : jm_M} {Q : Option jm_V → jm_M → Prop} {v1 v2 : Int} (h :
  ((v2 < 0 →
    Q none μ) ∧
   (¬ (v2 < 0) →
    ((940 ≤ μ 1 1 →
      Q none μ) ∧
     (¬ (940 ≤ μ 1 1) →
      (0 ≤ μ 1 1 ∧ μ 1 1 < 940) ∧
      ∀ m4 : jm_M, m4 = (jm_up μ 2 (μ 1 1) (jm_i2b (jm_i2b (jm_shr v1 v2)))) →
      jg E m_X7_put d 3 [some (jm_R 1), some (jm_I v1), some (jm_I (jm_wr (v2 + (-8))))] [] (jm_up m4 1 1 (jm_wr ((m4 1 1) + 1))) Q))))) : jg E m_X7_put d 3 [some (jm_R 1), some (jm_I v1), some (jm_I v2)] [] μ Q := by
  refine jm_iloadn d_X7_put_3 rfl ?_
  refine jm_if_lt (tgt := 46) d_X7_put_4 (by decide) (fun c1 => ?_) (fun c1 => ?_)
  · have h := h.1 c1
    exact jm_ret (o := none) d_X7_put_46 rfl ⟨Nat.le_refl _, Nat.le_refl _⟩ jm_r_V h rfl
  · have h := h.2 c1
    refine jm_aloadn d_X7_put_7 rfl ?_
    refine jm_getI (k := 1) (ki := 1) cf_X7 (Nat.le_of_ble_eq_true rfl) f_X7_24 d_X7_put_8 rfl rfl is_1 rfl ?_
    refine jm_sipush (v := 940) d_X7_put_11 rfl (jm_okI (by decide) (by decide)) ?_
    refine jm_icmp_ge (tgt := 46) d_X7_put_14 (by decide) (fun c2 => ?_) (fun c2 => ?_)
    · have h := h.1 c2
      exact jm_ret (o := none) d_X7_put_46 rfl ⟨Nat.le_refl _, Nat.le_refl _⟩ jm_r_V h rfl
    · have h := h.2 c2
      refine jm_aloadn d_X7_put_17 rfl ?_
      refine jm_getF (k := 0) (ki := 0) rfl cf_X7 (Nat.le_of_ble_eq_true rfl) f_X7_11 d_X7_put_18 rfl rfl is_1 fr_1_0 ?_
      refine jm_aloadn d_X7_put_21 rfl ?_
      refine jm_getI (k := 1) (ki := 1) cf_X7 (Nat.le_of_ble_eq_true rfl) f_X7_24 d_X7_put_22 rfl rfl is_1 rfl ?_
      refine jm_iloadn d_X7_put_25 rfl ?_
      refine jm_iloadn d_X7_put_26 rfl ?_
      refine jm_ishr d_X7_put_27 ?_
      refine jm_i2bt d_X7_put_28 ?_
      obtain ⟨f3, h⟩ := h
      refine jm_bastore d_X7_put_29 (ixl_2 f3.1 f3.2) ?_
      have h := h _ rfl
      refine jm_aloadn d_X7_put_30 rfl ?_
      refine jm_dup rfl d_X7_put_31 ?_
      refine jm_getI (k := 1) (ki := 1) cf_X7 (Nat.le_of_ble_eq_true rfl) f_X7_24 d_X7_put_32 rfl rfl is_1 rfl ?_
      refine jm_iconst (v := 1) d_X7_put_35 rfl (jm_okI (by decide) (by decide)) ?_
      refine jm_iadd d_X7_put_36 ?_
      refine jm_putI (k := 1) (ki := 1) cf_X7 (Nat.le_of_ble_eq_true rfl) f_X7_24 d_X7_put_37 (fun z => absurd z (by decide)) rfl rfl rfl (fun _ => rfl) is_1 ?_
      refine jm_iinc (L' := [some (jm_R _), some (jm_I _), some (jm_I _)]) d_X7_put_40 rfl rfl (Nat.le_of_ble_eq_true rfl) rfl ?_
      refine jm_goto (tgt := 3) d_X7_put_43 (by decide) ?_
      exact h
/-! ('CombTable$Tape', 'open', '(I)V') -/
theorem d_X7_open_0 : decode m_X7_open.2.1 0 = .ok (.aload_n 0, 1) := by decide +kernel
theorem d_X7_open_1 : decode m_X7_open.2.1 1 = .ok (.iload_n 1, 1) := by decide +kernel
theorem d_X7_open_2 : decode m_X7_open.2.1 2 = .ok (.putfield 28, 3) := by decide +kernel
theorem d_X7_open_5 : decode m_X7_open.2.1 5 = .ok (.aload_n 0, 1) := by decide +kernel
theorem d_X7_open_6 : decode m_X7_open.2.1 6 = .ok (.iconst 0, 1) := by decide +kernel
theorem d_X7_open_7 : decode m_X7_open.2.1 7 = .ok (.putfield 31, 3) := by decide +kernel
theorem d_X7_open_10 : decode m_X7_open.2.1 10 = .ok (.aload_n 0, 1) := by decide +kernel
theorem d_X7_open_11 : decode m_X7_open.2.1 11 = .ok (.iconst 0, 1) := by decide +kernel
theorem d_X7_open_12 : decode m_X7_open.2.1 12 = .ok (.putfield 34, 3) := by decide +kernel
theorem d_X7_open_15 : decode m_X7_open.2.1 15 = .ok (.aload_n 0, 1) := by decide +kernel
theorem d_X7_open_16 : decode m_X7_open.2.1 16 = .ok (.iconst 0, 1) := by decide +kernel
theorem d_X7_open_17 : decode m_X7_open.2.1 17 = .ok (.putfield 37, 3) := by decide +kernel
theorem d_X7_open_20 : decode m_X7_open.2.1 20 = .ok (.aload_n 0, 1) := by decide +kernel
theorem d_X7_open_21 : decode m_X7_open.2.1 21 = .ok (.invokevirtual 40, 3) := by decide +kernel
theorem d_X7_open_24 : decode m_X7_open.2.1 24 = .ok (.return_, 1) := by decide +kernel
set_option maxRecDepth 20000 in
theorem e_X7_open {E : jm_E} {d : Nat} {μ : jm_M} {Q : Option jm_V → jm_M → Prop} {v1 : Int} (h : (∀ v ∈ ([jm_R 1, jm_I v1] : List jm_V), jm_ok v) →
  jc E m_X7_advance d [jm_R 1] (jm_up (jm_up (jm_up (jm_up μ 1 2 v1) 1 3 0) 1 9 0) 1 10 0) (fun (o : Option jm_V) (m1 : jm_M) => o = none →
  Q none m1)) : jc E m_X7_open (d + 1) [jm_R 1, jm_I v1] μ Q := by
  refine jm_Cl.of2 (by decide +kernel) (L0 := [some (jm_R 1), some (jm_I v1)]) rfl (Nat.le_of_ble_eq_true rfl) (fun hok => ?_)
  have h := h hok
  refine jm_aloadn d_X7_open_0 rfl ?_
  refine jm_iloadn d_X7_open_1 rfl ?_
  refine jm_putI (k := 2) (ki := 2) cf_X7 (Nat.le_of_ble_eq_true rfl) f_X7_28 d_X7_open_2 (fun z => absurd z (by decide)) rfl rfl rfl (fun _ => rfl) is_1 ?_
  refine jm_aloadn d_X7_open_5 rfl ?_
  refine jm_iconst (v := 0) d_X7_open_6 rfl (jm_okI (by decide) (by decide)) ?_
  refine jm_putI (k := 3) (ki := 3) cf_X7 (Nat.le_of_ble_eq_true rfl) f_X7_31 d_X7_open_7 (fun z => absurd z (by decide)) rfl rfl rfl (fun _ => rfl) is_1 ?_
  refine jm_aloadn d_X7_open_10 rfl ?_
  refine jm_iconst (v := 0) d_X7_open_11 rfl (jm_okI (by decide) (by decide)) ?_
  refine jm_putI (k := 9) (ki := 9) cf_X7 (Nat.le_of_ble_eq_true rfl) f_X7_34 d_X7_open_12 (fun z => absurd z (by decide)) rfl rfl rfl (fun _ => rfl) is_1 ?_
  refine jm_aloadn d_X7_open_15 rfl ?_
  refine jm_iconst (v := 0) d_X7_open_16 rfl (jm_okI (by decide) (by decide)) ?_
  refine jm_putI (k := 10) (ki := 10) cf_X7 (Nat.le_of_ble_eq_true rfl) f_X7_37 d_X7_open_17 (fun z => absurd z (by decide)) rfl rfl rfl (fun _ => rfl) is_1 ?_
  refine jm_aloadn d_X7_open_20 rfl ?_
  refine jm_invV (n1 := jm_N) (mc := 0) (ms := 0) (av := []) w_X7_advance l_X7_40 d_X7_open_21 rfl is_1 ⟨_, _, rfl⟩ ⟨Nat.le_refl _, Nat.le_refl _⟩ (Nat.le_of_ble_eq_true rfl) rfl ?_
  refine jm_Cl.mono h (fun o m1 h hr _ => ?_)
  obtain rfl := jm_rokV hr
  have h := h rfl
  exact jm_ret (o := none) d_X7_open_24 rfl ⟨Nat.le_refl _, Nat.le_refl _⟩ jm_r_V h rfl
/-! ('CombTable$Tape', 'advance', '()V') -/
theorem d_X7_advance_0 : decode m_X7_advance.2.1 0 = .ok (.aload_n 0, 1) := by decide +kernel
theorem d_X7_advance_1 : decode m_X7_advance.2.1 1 = .ok (.getfield 24, 3) := by decide +kernel
theorem d_X7_advance_4 : decode m_X7_advance.2.1 4 = .ok (.aload_n 0, 1) := by decide +kernel
theorem d_X7_advance_5 : decode m_X7_advance.2.1 5 = .ok (.getfield 28, 3) := by decide +kernel
theorem d_X7_advance_8 : decode m_X7_advance.2.1 8 = .ok (.invokestatic 43, 3) := by decide +kernel
theorem d_X7_advance_11 : decode m_X7_advance.2.1 11 = .ok (.istore_n 1, 1) := by decide +kernel
theorem d_X7_advance_12 : decode m_X7_advance.2.1 12 = .ok (.aload_n 0, 1) := by decide +kernel
theorem d_X7_advance_13 : decode m_X7_advance.2.1 13 = .ok (.getfield 31, 3) := by decide +kernel
theorem d_X7_advance_16 : decode m_X7_advance.2.1 16 = .ok (.iload_n 1, 1) := by decide +kernel
theorem d_X7_advance_17 : decode m_X7_advance.2.1 17 = .ok (.if_icmp .ge 44, 3) := by decide +kernel
theorem d_X7_advance_20 : decode m_X7_advance.2.1 20 = .ok (.aload_n 0, 1) := by decide +kernel
theorem d_X7_advance_21 : decode m_X7_advance.2.1 21 = .ok (.getfield 11, 3) := by decide +kernel
theorem d_X7_advance_24 : decode m_X7_advance.2.1 24 = .ok (.aload_n 0, 1) := by decide +kernel
theorem d_X7_advance_25 : decode m_X7_advance.2.1 25 = .ok (.getfield 31, 3) := by decide +kernel
theorem d_X7_advance_28 : decode m_X7_advance.2.1 28 = .ok (.baload, 1) := by decide +kernel
theorem d_X7_advance_29 : decode m_X7_advance.2.1 29 = .ok (.bipush 32, 2) := by decide +kernel
theorem d_X7_advance_31 : decode m_X7_advance.2.1 31 = .ok (.if_icmp .eq 17, 3) := by decide +kernel
theorem d_X7_advance_34 : decode m_X7_advance.2.1 34 = .ok (.aload_n 0, 1) := by decide +kernel
theorem d_X7_advance_35 : decode m_X7_advance.2.1 35 = .ok (.getfield 11, 3) := by decide +kernel
theorem d_X7_advance_38 : decode m_X7_advance.2.1 38 = .ok (.aload_n 0, 1) := by decide +kernel
theorem d_X7_advance_39 : decode m_X7_advance.2.1 39 = .ok (.getfield 31, 3) := by decide +kernel
theorem d_X7_advance_42 : decode m_X7_advance.2.1 42 = .ok (.baload, 1) := by decide +kernel
theorem d_X7_advance_43 : decode m_X7_advance.2.1 43 = .ok (.bipush 10, 2) := by decide +kernel
theorem d_X7_advance_45 : decode m_X7_advance.2.1 45 = .ok (.if_icmp .ne 16, 3) := by decide +kernel
theorem d_X7_advance_48 : decode m_X7_advance.2.1 48 = .ok (.aload_n 0, 1) := by decide +kernel
theorem d_X7_advance_49 : decode m_X7_advance.2.1 49 = .ok (.dup, 1) := by decide +kernel
theorem d_X7_advance_50 : decode m_X7_advance.2.1 50 = .ok (.getfield 31, 3) := by decide +kernel
theorem d_X7_advance_53 : decode m_X7_advance.2.1 53 = .ok (.iconst 1, 1) := by decide +kernel
theorem d_X7_advance_54 : decode m_X7_advance.2.1 54 = .ok (.iadd, 1) := by decide +kernel
theorem d_X7_advance_55 : decode m_X7_advance.2.1 55 = .ok (.putfield 31, 3) := by decide +kernel
theorem d_X7_advance_58 : decode m_X7_advance.2.1 58 = .ok (.goto (-46), 3) := by decide +kernel
theorem d_X7_advance_61 : decode m_X7_advance.2.1 61 = .ok (.aload_n 0, 1) := by decide +kernel
theorem d_X7_advance_62 : decode m_X7_advance.2.1 62 = .ok (.getfield 31, 3) := by decide +kernel
theorem d_X7_advance_65 : decode m_X7_advance.2.1 65 = .ok (.iload_n 1, 1) := by decide +kernel
theorem d_X7_advance_66 : decode m_X7_advance.2.1 66 = .ok (.if_icmp .lt 14, 3) := by decide +kernel
theorem d_X7_advance_69 : decode m_X7_advance.2.1 69 = .ok (.aload_n 0, 1) := by decide +kernel
theorem d_X7_advance_70 : decode m_X7_advance.2.1 70 = .ok (.iconst 0, 1) := by decide +kernel
theorem d_X7_advance_71 : decode m_X7_advance.2.1 71 = .ok (.putfield 49, 3) := by decide +kernel
theorem d_X7_advance_74 : decode m_X7_advance.2.1 74 = .ok (.aload_n 0, 1) := by decide +kernel
theorem d_X7_advance_75 : decode m_X7_advance.2.1 75 = .ok (.iload_n 1, 1) := by decide +kernel
theorem d_X7_advance_76 : decode m_X7_advance.2.1 76 = .ok (.putfield 52, 3) := by decide +kernel
theorem d_X7_advance_79 : decode m_X7_advance.2.1 79 = .ok (.return_, 1) := by decide +kernel
theorem d_X7_advance_80 : decode m_X7_advance.2.1 80 = .ok (.aload_n 0, 1) := by decide +kernel
theorem d_X7_advance_81 : decode m_X7_advance.2.1 81 = .ok (.aload_n 0, 1) := by decide +kernel
theorem d_X7_advance_82 : decode m_X7_advance.2.1 82 = .ok (.getfield 31, 3) := by decide +kernel
theorem d_X7_advance_85 : decode m_X7_advance.2.1 85 = .ok (.putfield 52, 3) := by decide +kernel
theorem d_X7_advance_88 : decode m_X7_advance.2.1 88 = .ok (.aload_n 0, 1) := by decide +kernel
theorem d_X7_advance_89 : decode m_X7_advance.2.1 89 = .ok (.getfield 11, 3) := by decide +kernel
theorem d_X7_advance_92 : decode m_X7_advance.2.1 92 = .ok (.aload_n 0, 1) := by decide +kernel
theorem d_X7_advance_93 : decode m_X7_advance.2.1 93 = .ok (.getfield 31, 3) := by decide +kernel
theorem d_X7_advance_96 : decode m_X7_advance.2.1 96 = .ok (.baload, 1) := by decide +kernel
theorem d_X7_advance_97 : decode m_X7_advance.2.1 97 = .ok (.istore_n 2, 1) := by decide +kernel
theorem d_X7_advance_98 : decode m_X7_advance.2.1 98 = .ok (.iload_n 2, 1) := by decide +kernel
theorem d_X7_advance_99 : decode m_X7_advance.2.1 99 = .ok (.invokestatic 55, 3) := by decide +kernel
theorem d_X7_advance_102 : decode m_X7_advance.2.1 102 = .ok (.ifCond .ne 10, 3) := by decide +kernel
theorem d_X7_advance_105 : decode m_X7_advance.2.1 105 = .ok (.iload_n 2, 1) := by decide +kernel
theorem d_X7_advance_106 : decode m_X7_advance.2.1 106 = .ok (.invokestatic 59, 3) := by decide +kernel
theorem d_X7_advance_109 : decode m_X7_advance.2.1 109 = .ok (.ifCond .eq 8, 3) := by decide +kernel
theorem d_X7_advance_112 : decode m_X7_advance.2.1 112 = .ok (.aload_n 0, 1) := by decide +kernel
theorem d_X7_advance_113 : decode m_X7_advance.2.1 113 = .ok (.invokevirtual 62, 3) := by decide +kernel
theorem d_X7_advance_116 : decode m_X7_advance.2.1 116 = .ok (.return_, 1) := by decide +kernel
theorem d_X7_advance_117 : decode m_X7_advance.2.1 117 = .ok (.aload_n 0, 1) := by decide +kernel
theorem d_X7_advance_118 : decode m_X7_advance.2.1 118 = .ok (.iload_n 2, 1) := by decide +kernel
theorem d_X7_advance_119 : decode m_X7_advance.2.1 119 = .ok (.bipush 59, 2) := by decide +kernel
theorem d_X7_advance_121 : decode m_X7_advance.2.1 121 = .ok (.if_icmp .eq 33, 3) := by decide +kernel
theorem d_X7_advance_124 : decode m_X7_advance.2.1 124 = .ok (.iload_n 2, 1) := by decide +kernel
theorem d_X7_advance_125 : decode m_X7_advance.2.1 125 = .ok (.bipush 60, 2) := by decide +kernel
theorem d_X7_advance_127 : decode m_X7_advance.2.1 127 = .ok (.if_icmp .eq 27, 3) := by decide +kernel
theorem d_X7_advance_130 : decode m_X7_advance.2.1 130 = .ok (.iload_n 2, 1) := by decide +kernel
theorem d_X7_advance_131 : decode m_X7_advance.2.1 131 = .ok (.bipush 61, 2) := by decide +kernel
theorem d_X7_advance_133 : decode m_X7_advance.2.1 133 = .ok (.if_icmp .eq 21, 3) := by decide +kernel
theorem d_X7_advance_136 : decode m_X7_advance.2.1 136 = .ok (.iload_n 2, 1) := by decide +kernel
theorem d_X7_advance_137 : decode m_X7_advance.2.1 137 = .ok (.bipush 62, 2) := by decide +kernel
theorem d_X7_advance_139 : decode m_X7_advance.2.1 139 = .ok (.if_icmp .eq 15, 3) := by decide +kernel
theorem d_X7_advance_142 : decode m_X7_advance.2.1 142 = .ok (.iload_n 2, 1) := by decide +kernel
theorem d_X7_advance_143 : decode m_X7_advance.2.1 143 = .ok (.bipush 40, 2) := by decide +kernel
theorem d_X7_advance_145 : decode m_X7_advance.2.1 145 = .ok (.if_icmp .eq 9, 3) := by decide +kernel
theorem d_X7_advance_148 : decode m_X7_advance.2.1 148 = .ok (.iload_n 2, 1) := by decide +kernel
theorem d_X7_advance_149 : decode m_X7_advance.2.1 149 = .ok (.bipush 41, 2) := by decide +kernel
theorem d_X7_advance_151 : decode m_X7_advance.2.1 151 = .ok (.if_icmp .ne 7, 3) := by decide +kernel
theorem d_X7_advance_154 : decode m_X7_advance.2.1 154 = .ok (.iconst 3, 1) := by decide +kernel
theorem d_X7_advance_155 : decode m_X7_advance.2.1 155 = .ok (.goto 4, 3) := by decide +kernel
theorem d_X7_advance_158 : decode m_X7_advance.2.1 158 = .ok (.iconst 4, 1) := by decide +kernel
theorem d_X7_advance_159 : decode m_X7_advance.2.1 159 = .ok (.putfield 49, 3) := by decide +kernel
theorem d_X7_advance_162 : decode m_X7_advance.2.1 162 = .ok (.aload_n 0, 1) := by decide +kernel
theorem d_X7_advance_163 : decode m_X7_advance.2.1 163 = .ok (.iload_n 2, 1) := by decide +kernel
theorem d_X7_advance_164 : decode m_X7_advance.2.1 164 = .ok (.putfield 65, 3) := by decide +kernel
theorem d_X7_advance_167 : decode m_X7_advance.2.1 167 = .ok (.aload_n 0, 1) := by decide +kernel
theorem d_X7_advance_168 : decode m_X7_advance.2.1 168 = .ok (.dup, 1) := by decide +kernel
theorem d_X7_advance_169 : decode m_X7_advance.2.1 169 = .ok (.getfield 31, 3) := by decide +kernel
theorem d_X7_advance_172 : decode m_X7_advance.2.1 172 = .ok (.iconst 1, 1) := by decide +kernel
theorem d_X7_advance_173 : decode m_X7_advance.2.1 173 = .ok (.iadd, 1) := by decide +kernel
theorem d_X7_advance_174 : decode m_X7_advance.2.1 174 = .ok (.putfield 31, 3) := by decide +kernel
theorem d_X7_advance_177 : decode m_X7_advance.2.1 177 = .ok (.return_, 1) := by decide +kernel
set_option maxRecDepth 20000 in
theorem e_X7_advance {E : jm_E} {d : Nat} {μ : jm_M} {Q : Option jm_V → jm_M → Prop}  (h : (∀ v ∈ ([jm_R 1] : List jm_V), jm_ok v) →
  ∀ x1 : Int, x1 = jm_mn (μ 1 1) (μ 1 2) →
  jg E m_X7_advance d 12 [some (jm_R 1), some (jm_I x1), none] [] μ Q) : jc E m_X7_advance (d + 1) [jm_R 1] μ Q := by
  refine jm_Cl.of2 (by decide +kernel) (L0 := [some (jm_R 1), none, none]) rfl (Nat.le_of_ble_eq_true rfl) (fun hok => ?_)
  have h := h hok
  refine jm_aloadn d_X7_advance_0 rfl ?_
  refine jm_getI (k := 1) (ki := 1) cf_X7 (Nat.le_of_ble_eq_true rfl) f_X7_24 d_X7_advance_1 rfl rfl is_1 rfl ?_
  refine jm_aloadn d_X7_advance_4 rfl ?_
  refine jm_getI (k := 2) (ki := 2) cf_X7 (Nat.le_of_ble_eq_true rfl) f_X7_28 d_X7_advance_5 rfl rfl is_1 rfl ?_
  refine jm_mmin l_X7_43 d_X7_advance_8 ⟨Nat.le_refl _, Nat.le_refl _⟩ (Nat.le_of_ble_eq_true rfl) ?_
  have h := h _ rfl
  refine jm_istoren (L' := [some (jm_R _), some (jm_I _), none]) d_X7_advance_11 (Nat.le_of_ble_eq_true rfl) rfl ?_
  exact h
set_option maxRecDepth 20000 in
theorem r_X7_advance_12 {E : jm_E} {d : Nat} {μ : jm_M} {Q : Option jm_V → jm_M → Prop} {v1 : Int} (h :
  ((v1 ≤ μ 1 3 →
    jg E m_X7_advance d 61 [some (jm_R 1), some (jm_I v1), none] [] μ Q) ∧
   (¬ (v1 ≤ μ 1 3) →
    (0 ≤ μ 1 3 ∧ μ 1 3 < 940) ∧
    (((μ 2 (μ 1 3)) = 32 →
      jg E m_X7_advance d 12 [some (jm_R 1), some (jm_I v1), none] [] (jm_up μ 1 3 (jm_wr ((μ 1 3) + 1))) Q) ∧
     (¬ ((μ 2 (μ 1 3)) = 32) →
      (((μ 2 (μ 1 3)) ≠ 10 →
        jg E m_X7_advance d 61 [some (jm_R 1), some (jm_I v1), none] [] μ Q) ∧
       (¬ ((μ 2 (μ 1 3)) ≠ 10) →
        jg E m_X7_advance d 12 [some (jm_R 1), some (jm_I v1), none] [] (jm_up μ 1 3 (jm_wr ((μ 1 3) + 1))) Q))))))) : jg E m_X7_advance d 12 [some (jm_R 1), some (jm_I v1), none] [] μ Q := by
  refine jm_aloadn d_X7_advance_12 rfl ?_
  refine jm_getI (k := 3) (ki := 3) cf_X7 (Nat.le_of_ble_eq_true rfl) f_X7_31 d_X7_advance_13 rfl rfl is_1 rfl ?_
  refine jm_iloadn d_X7_advance_16 rfl ?_
  refine jm_icmp_ge (tgt := 61) d_X7_advance_17 (by decide) (fun c1 => ?_) (fun c1 => ?_)
  · have h := h.1 c1
    exact h
  · have h := h.2 c1
    refine jm_aloadn d_X7_advance_20 rfl ?_
    refine jm_getF (k := 0) (ki := 0) rfl cf_X7 (Nat.le_of_ble_eq_true rfl) f_X7_11 d_X7_advance_21 rfl rfl is_1 fr_1_0 ?_
    refine jm_aloadn d_X7_advance_24 rfl ?_
    refine jm_getI (k := 3) (ki := 3) cf_X7 (Nat.le_of_ble_eq_true rfl) f_X7_31 d_X7_advance_25 rfl rfl is_1 rfl ?_
    obtain ⟨f2, h⟩ := h
    refine jm_baload d_X7_advance_28 (ixl_2 f2.1 f2.2) ?_
    refine jm_bipush (v := 32) d_X7_advance_29 rfl (jm_okI (by decide) (by decide)) ?_
    refine jm_icmp_eq (tgt := 48) d_X7_advance_31 (by decide) (fun c3 => ?_) (fun c3 => ?_)
    · have h := h.1 c3
      refine jm_aloadn d_X7_advance_48 rfl ?_
      refine jm_dup rfl d_X7_advance_49 ?_
      refine jm_getI (k := 3) (ki := 3) cf_X7 (Nat.le_of_ble_eq_true rfl) f_X7_31 d_X7_advance_50 rfl rfl is_1 rfl ?_
      refine jm_iconst (v := 1) d_X7_advance_53 rfl (jm_okI (by decide) (by decide)) ?_
      refine jm_iadd d_X7_advance_54 ?_
      refine jm_putI (k := 3) (ki := 3) cf_X7 (Nat.le_of_ble_eq_true rfl) f_X7_31 d_X7_advance_55 (fun z => absurd z (by decide)) rfl rfl rfl (fun _ => rfl) is_1 ?_
      refine jm_goto (tgt := 12) d_X7_advance_58 (by decide) ?_
      exact h
    · have h := h.2 c3
      refine jm_aloadn d_X7_advance_34 rfl ?_
      refine jm_getF (k := 0) (ki := 0) rfl cf_X7 (Nat.le_of_ble_eq_true rfl) f_X7_11 d_X7_advance_35 rfl rfl is_1 fr_1_0 ?_
      refine jm_aloadn d_X7_advance_38 rfl ?_
      refine jm_getI (k := 3) (ki := 3) cf_X7 (Nat.le_of_ble_eq_true rfl) f_X7_31 d_X7_advance_39 rfl rfl is_1 rfl ?_
      refine jm_baload d_X7_advance_42 (ixl_2 f2.1 f2.2) ?_
      refine jm_bipush (v := 10) d_X7_advance_43 rfl (jm_okI (by decide) (by decide)) ?_
      refine jm_icmp_ne (tgt := 61) d_X7_advance_45 (by decide) (fun c4 => ?_) (fun c4 => ?_)
      · have h := h.1 c4
        exact h
      · have h := h.2 c4
        refine jm_aloadn d_X7_advance_48 rfl ?_
        refine jm_dup rfl d_X7_advance_49 ?_
        refine jm_getI (k := 3) (ki := 3) cf_X7 (Nat.le_of_ble_eq_true rfl) f_X7_31 d_X7_advance_50 rfl rfl is_1 rfl ?_
        refine jm_iconst (v := 1) d_X7_advance_53 rfl (jm_okI (by decide) (by decide)) ?_
        refine jm_iadd d_X7_advance_54 ?_
        refine jm_putI (k := 3) (ki := 3) cf_X7 (Nat.le_of_ble_eq_true rfl) f_X7_31 d_X7_advance_55 (fun z => absurd z (by decide)) rfl rfl rfl (fun _ => rfl) is_1 ?_
        refine jm_goto (tgt := 12) d_X7_advance_58 (by decide) ?_
        exact h
set_option maxRecDepth 20000 in
theorem r_X7_advance_61 {E : jm_E} {d : Nat} {μ : jm_M} {Q : Option jm_V → jm_M → Prop} {v1 : Int} (h :
  ((μ 1 3 < v1 →
    (0 ≤ μ 1 3 ∧ μ 1 3 < 940) ∧
    ∀ x3 : Int, x3 = μ 2 (μ 1 3) →
    jc E m_X7_isLetter d [jm_I x3] (jm_up μ 1 5 (μ 1 3)) (fun (o : Option jm_V) (m4 : jm_M) => ∀ r5 : Int, o = some (jm_I r5) → (r5 = 0 ∨ r5 = 1) →
    ((r5 ≠ 0 →
      jc E m_X7_readRun d [jm_R 1] m4 (fun (o : Option jm_V) (m8 : jm_M) => o = none →
      Q none m8)) ∧
     (¬ (r5 ≠ 0) →
      jc E m_X7_isDigit d [jm_I x3] m4 (fun (o : Option jm_V) (m9 : jm_M) => ∀ r10 : Int, o = some (jm_I r10) → (r10 = 0 ∨ r10 = 1) →
      ((r10 = 0 →
        ((x3 = 59 →
          Q none (jm_up (jm_up (jm_up m9 1 4 3) 1 8 x3) 1 3 (jm_wr ((m9 1 3) + 1)))) ∧
         (¬ (x3 = 59) →
          ((x3 = 60 →
            Q none (jm_up (jm_up (jm_up m9 1 4 3) 1 8 x3) 1 3 (jm_wr ((m9 1 3) + 1)))) ∧
           (¬ (x3 = 60) →
            ((x3 = 61 →
              Q none (jm_up (jm_up (jm_up m9 1 4 3) 1 8 x3) 1 3 (jm_wr ((m9 1 3) + 1)))) ∧
             (¬ (x3 = 61) →
              ((x3 = 62 →
                Q none (jm_up (jm_up (jm_up m9 1 4 3) 1 8 x3) 1 3 (jm_wr ((m9 1 3) + 1)))) ∧
               (¬ (x3 = 62) →
                ((x3 = 40 →
                  Q none (jm_up (jm_up (jm_up m9 1 4 3) 1 8 x3) 1 3 (jm_wr ((m9 1 3) + 1)))) ∧
                 (¬ (x3 = 40) →
                  ((x3 ≠ 41 →
                    Q none (jm_up (jm_up (jm_up m9 1 4 4) 1 8 x3) 1 3 (jm_wr ((m9 1 3) + 1)))) ∧
                   (¬ (x3 ≠ 41) →
                    Q none (jm_up (jm_up (jm_up m9 1 4 3) 1 8 x3) 1 3 (jm_wr ((m9 1 3) + 1)))))))))))))))) ∧
       (¬ (r10 = 0) →
        jc E m_X7_readRun d [jm_R 1] m9 (fun (o : Option jm_V) (m19 : jm_M) => o = none →
        Q none m19)))))))) ∧
   (¬ (μ 1 3 < v1) →
    Q none (jm_up (jm_up μ 1 4 0) 1 5 v1)))) : jg E m_X7_advance d 61 [some (jm_R 1), some (jm_I v1), none] [] μ Q := by
  refine jm_aloadn d_X7_advance_61 rfl ?_
  refine jm_getI (k := 3) (ki := 3) cf_X7 (Nat.le_of_ble_eq_true rfl) f_X7_31 d_X7_advance_62 rfl rfl is_1 rfl ?_
  refine jm_iloadn d_X7_advance_65 rfl ?_
  refine jm_icmp_lt (tgt := 80) d_X7_advance_66 (by decide) (fun c1 => ?_) (fun c1 => ?_)
  · have h := h.1 c1
    refine jm_aloadn d_X7_advance_80 rfl ?_
    refine jm_aloadn d_X7_advance_81 rfl ?_
    refine jm_getI (k := 3) (ki := 3) cf_X7 (Nat.le_of_ble_eq_true rfl) f_X7_31 d_X7_advance_82 rfl rfl is_1 rfl ?_
    refine jm_putI (k := 5) (ki := 5) cf_X7 (Nat.le_of_ble_eq_true rfl) f_X7_52 d_X7_advance_85 (fun z => absurd z (by decide)) rfl rfl rfl (fun _ => rfl) is_1 ?_
    refine jm_aloadn d_X7_advance_88 rfl ?_
    refine jm_getF (k := 0) (ki := 0) rfl cf_X7 (Nat.le_of_ble_eq_true rfl) f_X7_11 d_X7_advance_89 rfl rfl is_1 fr_1_0 ?_
    refine jm_aloadn d_X7_advance_92 rfl ?_
    refine jm_getI (k := 3) (ki := 3) cf_X7 (Nat.le_of_ble_eq_true rfl) f_X7_31 d_X7_advance_93 rfl rfl is_1 ((jm_up_i (by decide)).trans rfl) ?_
    obtain ⟨f2, h⟩ := h
    refine jm_baloadv d_X7_advance_96 (ixl_2 f2.1 f2.2) ((jm_up_lj (by decide)).trans rfl) ?_
    have h := h _ rfl
    refine jm_istoren (L' := [some (jm_R _), some (jm_I _), some (jm_I _)]) d_X7_advance_97 (Nat.le_of_ble_eq_true rfl) rfl ?_
    refine jm_iloadn d_X7_advance_98 rfl ?_
    refine jm_invS (n1 := jm_N) (mc := 0) (ms := 0) (av := [jm_I _]) w_X7_isLetter l_X7_55 d_X7_advance_99 rfl ⟨Nat.le_refl _, Nat.le_refl _⟩ (Nat.le_of_ble_eq_true rfl) rfl ?_
    refine jm_Cl.mono h (fun o m4 h hr _ => ?_)
    obtain ⟨r5, rfl, z6⟩ := jm_rokZ hr
    have h := h _ rfl z6
    refine jm_if_ne (tgt := 112) d_X7_advance_102 (by decide) (fun c7 => ?_) (fun c7 => ?_)
    · have h := h.1 c7
      refine jm_aloadn d_X7_advance_112 rfl ?_
      refine jm_invV (n1 := jm_N) (mc := 0) (ms := 0) (av := []) w_X7_readRun l_X7_62 d_X7_advance_113 rfl is_1 ⟨_, _, rfl⟩ ⟨Nat.le_refl _, Nat.le_refl _⟩ (Nat.le_of_ble_eq_true rfl) rfl ?_
      refine jm_Cl.mono h (fun o m8 h hr _ => ?_)
      obtain rfl := jm_rokV hr
      have h := h rfl
      exact jm_ret (o := none) d_X7_advance_116 rfl ⟨Nat.le_refl _, Nat.le_refl _⟩ jm_r_V h rfl
    · have h := h.2 c7
      refine jm_iloadn d_X7_advance_105 rfl ?_
      refine jm_invS (n1 := jm_N) (mc := 0) (ms := 0) (av := [jm_I _]) w_X7_isDigit l_X7_59 d_X7_advance_106 rfl ⟨Nat.le_refl _, Nat.le_refl _⟩ (Nat.le_of_ble_eq_true rfl) rfl ?_
      refine jm_Cl.mono h (fun o m9 h hr _ => ?_)
      obtain ⟨r10, rfl, z11⟩ := jm_rokZ hr
      have h := h _ rfl z11
      refine jm_if_eq (tgt := 117) d_X7_advance_109 (by decide) (fun c12 => ?_) (fun c12 => ?_)
      · have h := h.1 c12
        refine jm_aloadn d_X7_advance_117 rfl ?_
        refine jm_iloadn d_X7_advance_118 rfl ?_
        refine jm_bipush (v := 59) d_X7_advance_119 rfl (jm_okI (by decide) (by decide)) ?_
        refine jm_icmp_eq (tgt := 154) d_X7_advance_121 (by decide) (fun c13 => ?_) (fun c13 => ?_)
        · have h := h.1 c13
          refine jm_iconst (v := 3) d_X7_advance_154 rfl (jm_okI (by decide) (by decide)) ?_
          refine jm_goto (tgt := 159) d_X7_advance_155 (by decide) ?_
          refine jm_putI (k := 4) (ki := 4) cf_X7 (Nat.le_of_ble_eq_true rfl) f_X7_49 d_X7_advance_159 (fun z => absurd z (by decide)) rfl rfl rfl (fun _ => rfl) is_1 ?_
          refine jm_aloadn d_X7_advance_162 rfl ?_
          refine jm_iloadn d_X7_advance_163 rfl ?_
          refine jm_putI (k := 8) (ki := 8) cf_X7 (Nat.le_of_ble_eq_true rfl) f_X7_65 d_X7_advance_164 (fun z => absurd z (by decide)) rfl rfl rfl (fun _ => rfl) is_1 ?_
          refine jm_aloadn d_X7_advance_167 rfl ?_
          refine jm_dup rfl d_X7_advance_168 ?_
          refine jm_getI (k := 3) (ki := 3) cf_X7 (Nat.le_of_ble_eq_true rfl) f_X7_31 d_X7_advance_169 rfl rfl is_1 ((jm_up_i (by decide)).trans ((jm_up_i (by decide)).trans rfl)) ?_
          refine jm_iconst (v := 1) d_X7_advance_172 rfl (jm_okI (by decide) (by decide)) ?_
          refine jm_iadd d_X7_advance_173 ?_
          refine jm_putI (k := 3) (ki := 3) cf_X7 (Nat.le_of_ble_eq_true rfl) f_X7_31 d_X7_advance_174 (fun z => absurd z (by decide)) rfl rfl rfl (fun _ => rfl) is_1 ?_
          exact jm_ret (o := none) d_X7_advance_177 rfl ⟨Nat.le_refl _, Nat.le_refl _⟩ jm_r_V h rfl
        · have h := h.2 c13
          refine jm_iloadn d_X7_advance_124 rfl ?_
          refine jm_bipush (v := 60) d_X7_advance_125 rfl (jm_okI (by decide) (by decide)) ?_
          refine jm_icmp_eq (tgt := 154) d_X7_advance_127 (by decide) (fun c14 => ?_) (fun c14 => ?_)
          · have h := h.1 c14
            refine jm_iconst (v := 3) d_X7_advance_154 rfl (jm_okI (by decide) (by decide)) ?_
            refine jm_goto (tgt := 159) d_X7_advance_155 (by decide) ?_
            refine jm_putI (k := 4) (ki := 4) cf_X7 (Nat.le_of_ble_eq_true rfl) f_X7_49 d_X7_advance_159 (fun z => absurd z (by decide)) rfl rfl rfl (fun _ => rfl) is_1 ?_
            refine jm_aloadn d_X7_advance_162 rfl ?_
            refine jm_iloadn d_X7_advance_163 rfl ?_
            refine jm_putI (k := 8) (ki := 8) cf_X7 (Nat.le_of_ble_eq_true rfl) f_X7_65 d_X7_advance_164 (fun z => absurd z (by decide)) rfl rfl rfl (fun _ => rfl) is_1 ?_
            refine jm_aloadn d_X7_advance_167 rfl ?_
            refine jm_dup rfl d_X7_advance_168 ?_
            refine jm_getI (k := 3) (ki := 3) cf_X7 (Nat.le_of_ble_eq_true rfl) f_X7_31 d_X7_advance_169 rfl rfl is_1 ((jm_up_i (by decide)).trans ((jm_up_i (by decide)).trans rfl)) ?_
            refine jm_iconst (v := 1) d_X7_advance_172 rfl (jm_okI (by decide) (by decide)) ?_
            refine jm_iadd d_X7_advance_173 ?_
            refine jm_putI (k := 3) (ki := 3) cf_X7 (Nat.le_of_ble_eq_true rfl) f_X7_31 d_X7_advance_174 (fun z => absurd z (by decide)) rfl rfl rfl (fun _ => rfl) is_1 ?_
            exact jm_ret (o := none) d_X7_advance_177 rfl ⟨Nat.le_refl _, Nat.le_refl _⟩ jm_r_V h rfl
          · have h := h.2 c14
            refine jm_iloadn d_X7_advance_130 rfl ?_
            refine jm_bipush (v := 61) d_X7_advance_131 rfl (jm_okI (by decide) (by decide)) ?_
            refine jm_icmp_eq (tgt := 154) d_X7_advance_133 (by decide) (fun c15 => ?_) (fun c15 => ?_)
            · have h := h.1 c15
              refine jm_iconst (v := 3) d_X7_advance_154 rfl (jm_okI (by decide) (by decide)) ?_
              refine jm_goto (tgt := 159) d_X7_advance_155 (by decide) ?_
              refine jm_putI (k := 4) (ki := 4) cf_X7 (Nat.le_of_ble_eq_true rfl) f_X7_49 d_X7_advance_159 (fun z => absurd z (by decide)) rfl rfl rfl (fun _ => rfl) is_1 ?_
              refine jm_aloadn d_X7_advance_162 rfl ?_
              refine jm_iloadn d_X7_advance_163 rfl ?_
              refine jm_putI (k := 8) (ki := 8) cf_X7 (Nat.le_of_ble_eq_true rfl) f_X7_65 d_X7_advance_164 (fun z => absurd z (by decide)) rfl rfl rfl (fun _ => rfl) is_1 ?_
              refine jm_aloadn d_X7_advance_167 rfl ?_
              refine jm_dup rfl d_X7_advance_168 ?_
              refine jm_getI (k := 3) (ki := 3) cf_X7 (Nat.le_of_ble_eq_true rfl) f_X7_31 d_X7_advance_169 rfl rfl is_1 ((jm_up_i (by decide)).trans ((jm_up_i (by decide)).trans rfl)) ?_
              refine jm_iconst (v := 1) d_X7_advance_172 rfl (jm_okI (by decide) (by decide)) ?_
              refine jm_iadd d_X7_advance_173 ?_
              refine jm_putI (k := 3) (ki := 3) cf_X7 (Nat.le_of_ble_eq_true rfl) f_X7_31 d_X7_advance_174 (fun z => absurd z (by decide)) rfl rfl rfl (fun _ => rfl) is_1 ?_
              exact jm_ret (o := none) d_X7_advance_177 rfl ⟨Nat.le_refl _, Nat.le_refl _⟩ jm_r_V h rfl
            · have h := h.2 c15
              refine jm_iloadn d_X7_advance_136 rfl ?_
              refine jm_bipush (v := 62) d_X7_advance_137 rfl (jm_okI (by decide) (by decide)) ?_
              refine jm_icmp_eq (tgt := 154) d_X7_advance_139 (by decide) (fun c16 => ?_) (fun c16 => ?_)
              · have h := h.1 c16
                refine jm_iconst (v := 3) d_X7_advance_154 rfl (jm_okI (by decide) (by decide)) ?_
                refine jm_goto (tgt := 159) d_X7_advance_155 (by decide) ?_
                refine jm_putI (k := 4) (ki := 4) cf_X7 (Nat.le_of_ble_eq_true rfl) f_X7_49 d_X7_advance_159 (fun z => absurd z (by decide)) rfl rfl rfl (fun _ => rfl) is_1 ?_
                refine jm_aloadn d_X7_advance_162 rfl ?_
                refine jm_iloadn d_X7_advance_163 rfl ?_
                refine jm_putI (k := 8) (ki := 8) cf_X7 (Nat.le_of_ble_eq_true rfl) f_X7_65 d_X7_advance_164 (fun z => absurd z (by decide)) rfl rfl rfl (fun _ => rfl) is_1 ?_
                refine jm_aloadn d_X7_advance_167 rfl ?_
                refine jm_dup rfl d_X7_advance_168 ?_
                refine jm_getI (k := 3) (ki := 3) cf_X7 (Nat.le_of_ble_eq_true rfl) f_X7_31 d_X7_advance_169 rfl rfl is_1 ((jm_up_i (by decide)).trans ((jm_up_i (by decide)).trans rfl)) ?_
                refine jm_iconst (v := 1) d_X7_advance_172 rfl (jm_okI (by decide) (by decide)) ?_
                refine jm_iadd d_X7_advance_173 ?_
                refine jm_putI (k := 3) (ki := 3) cf_X7 (Nat.le_of_ble_eq_true rfl) f_X7_31 d_X7_advance_174 (fun z => absurd z (by decide)) rfl rfl rfl (fun _ => rfl) is_1 ?_
                exact jm_ret (o := none) d_X7_advance_177 rfl ⟨Nat.le_refl _, Nat.le_refl _⟩ jm_r_V h rfl
              · have h := h.2 c16
                refine jm_iloadn d_X7_advance_142 rfl ?_
                refine jm_bipush (v := 40) d_X7_advance_143 rfl (jm_okI (by decide) (by decide)) ?_
                refine jm_icmp_eq (tgt := 154) d_X7_advance_145 (by decide) (fun c17 => ?_) (fun c17 => ?_)
                · have h := h.1 c17
                  refine jm_iconst (v := 3) d_X7_advance_154 rfl (jm_okI (by decide) (by decide)) ?_
                  refine jm_goto (tgt := 159) d_X7_advance_155 (by decide) ?_
                  refine jm_putI (k := 4) (ki := 4) cf_X7 (Nat.le_of_ble_eq_true rfl) f_X7_49 d_X7_advance_159 (fun z => absurd z (by decide)) rfl rfl rfl (fun _ => rfl) is_1 ?_
                  refine jm_aloadn d_X7_advance_162 rfl ?_
                  refine jm_iloadn d_X7_advance_163 rfl ?_
                  refine jm_putI (k := 8) (ki := 8) cf_X7 (Nat.le_of_ble_eq_true rfl) f_X7_65 d_X7_advance_164 (fun z => absurd z (by decide)) rfl rfl rfl (fun _ => rfl) is_1 ?_
                  refine jm_aloadn d_X7_advance_167 rfl ?_
                  refine jm_dup rfl d_X7_advance_168 ?_
                  refine jm_getI (k := 3) (ki := 3) cf_X7 (Nat.le_of_ble_eq_true rfl) f_X7_31 d_X7_advance_169 rfl rfl is_1 ((jm_up_i (by decide)).trans ((jm_up_i (by decide)).trans rfl)) ?_
                  refine jm_iconst (v := 1) d_X7_advance_172 rfl (jm_okI (by decide) (by decide)) ?_
                  refine jm_iadd d_X7_advance_173 ?_
                  refine jm_putI (k := 3) (ki := 3) cf_X7 (Nat.le_of_ble_eq_true rfl) f_X7_31 d_X7_advance_174 (fun z => absurd z (by decide)) rfl rfl rfl (fun _ => rfl) is_1 ?_
                  exact jm_ret (o := none) d_X7_advance_177 rfl ⟨Nat.le_refl _, Nat.le_refl _⟩ jm_r_V h rfl
                · have h := h.2 c17
                  refine jm_iloadn d_X7_advance_148 rfl ?_
                  refine jm_bipush (v := 41) d_X7_advance_149 rfl (jm_okI (by decide) (by decide)) ?_
                  refine jm_icmp_ne (tgt := 158) d_X7_advance_151 (by decide) (fun c18 => ?_) (fun c18 => ?_)
                  · have h := h.1 c18
                    refine jm_iconst (v := 4) d_X7_advance_158 rfl (jm_okI (by decide) (by decide)) ?_
                    refine jm_putI (k := 4) (ki := 4) cf_X7 (Nat.le_of_ble_eq_true rfl) f_X7_49 d_X7_advance_159 (fun z => absurd z (by decide)) rfl rfl rfl (fun _ => rfl) is_1 ?_
                    refine jm_aloadn d_X7_advance_162 rfl ?_
                    refine jm_iloadn d_X7_advance_163 rfl ?_
                    refine jm_putI (k := 8) (ki := 8) cf_X7 (Nat.le_of_ble_eq_true rfl) f_X7_65 d_X7_advance_164 (fun z => absurd z (by decide)) rfl rfl rfl (fun _ => rfl) is_1 ?_
                    refine jm_aloadn d_X7_advance_167 rfl ?_
                    refine jm_dup rfl d_X7_advance_168 ?_
                    refine jm_getI (k := 3) (ki := 3) cf_X7 (Nat.le_of_ble_eq_true rfl) f_X7_31 d_X7_advance_169 rfl rfl is_1 ((jm_up_i (by decide)).trans ((jm_up_i (by decide)).trans rfl)) ?_
                    refine jm_iconst (v := 1) d_X7_advance_172 rfl (jm_okI (by decide) (by decide)) ?_
                    refine jm_iadd d_X7_advance_173 ?_
                    refine jm_putI (k := 3) (ki := 3) cf_X7 (Nat.le_of_ble_eq_true rfl) f_X7_31 d_X7_advance_174 (fun z => absurd z (by decide)) rfl rfl rfl (fun _ => rfl) is_1 ?_
                    exact jm_ret (o := none) d_X7_advance_177 rfl ⟨Nat.le_refl _, Nat.le_refl _⟩ jm_r_V h rfl
                  · have h := h.2 c18
                    refine jm_iconst (v := 3) d_X7_advance_154 rfl (jm_okI (by decide) (by decide)) ?_
                    refine jm_goto (tgt := 159) d_X7_advance_155 (by decide) ?_
                    refine jm_putI (k := 4) (ki := 4) cf_X7 (Nat.le_of_ble_eq_true rfl) f_X7_49 d_X7_advance_159 (fun z => absurd z (by decide)) rfl rfl rfl (fun _ => rfl) is_1 ?_
                    refine jm_aloadn d_X7_advance_162 rfl ?_
                    refine jm_iloadn d_X7_advance_163 rfl ?_
                    refine jm_putI (k := 8) (ki := 8) cf_X7 (Nat.le_of_ble_eq_true rfl) f_X7_65 d_X7_advance_164 (fun z => absurd z (by decide)) rfl rfl rfl (fun _ => rfl) is_1 ?_
                    refine jm_aloadn d_X7_advance_167 rfl ?_
                    refine jm_dup rfl d_X7_advance_168 ?_
                    refine jm_getI (k := 3) (ki := 3) cf_X7 (Nat.le_of_ble_eq_true rfl) f_X7_31 d_X7_advance_169 rfl rfl is_1 ((jm_up_i (by decide)).trans ((jm_up_i (by decide)).trans rfl)) ?_
                    refine jm_iconst (v := 1) d_X7_advance_172 rfl (jm_okI (by decide) (by decide)) ?_
                    refine jm_iadd d_X7_advance_173 ?_
                    refine jm_putI (k := 3) (ki := 3) cf_X7 (Nat.le_of_ble_eq_true rfl) f_X7_31 d_X7_advance_174 (fun z => absurd z (by decide)) rfl rfl rfl (fun _ => rfl) is_1 ?_
                    exact jm_ret (o := none) d_X7_advance_177 rfl ⟨Nat.le_refl _, Nat.le_refl _⟩ jm_r_V h rfl
      · have h := h.2 c12
        refine jm_aloadn d_X7_advance_112 rfl ?_
        refine jm_invV (n1 := jm_N) (mc := 0) (ms := 0) (av := []) w_X7_readRun l_X7_62 d_X7_advance_113 rfl is_1 ⟨_, _, rfl⟩ ⟨Nat.le_refl _, Nat.le_refl _⟩ (Nat.le_of_ble_eq_true rfl) rfl ?_
        refine jm_Cl.mono h (fun o m19 h hr _ => ?_)
        obtain rfl := jm_rokV hr
        have h := h rfl
        exact jm_ret (o := none) d_X7_advance_116 rfl ⟨Nat.le_refl _, Nat.le_refl _⟩ jm_r_V h rfl
  · have h := h.2 c1
    refine jm_aloadn d_X7_advance_69 rfl ?_
    refine jm_iconst (v := 0) d_X7_advance_70 rfl (jm_okI (by decide) (by decide)) ?_
    refine jm_putI (k := 4) (ki := 4) cf_X7 (Nat.le_of_ble_eq_true rfl) f_X7_49 d_X7_advance_71 (fun z => absurd z (by decide)) rfl rfl rfl (fun _ => rfl) is_1 ?_
    refine jm_aloadn d_X7_advance_74 rfl ?_
    refine jm_iloadn d_X7_advance_75 rfl ?_
    refine jm_putI (k := 5) (ki := 5) cf_X7 (Nat.le_of_ble_eq_true rfl) f_X7_52 d_X7_advance_76 (fun z => absurd z (by decide)) rfl rfl rfl (fun _ => rfl) is_1 ?_
    exact jm_ret (o := none) d_X7_advance_79 rfl ⟨Nat.le_refl _, Nat.le_refl _⟩ jm_r_V h rfl
/-! ('CombTable$Tape', 'readRun', '()V') -/
theorem d_X7_readRun_0 : decode m_X7_readRun.2.1 0 = .ok (.iconst 0, 1) := by decide +kernel
theorem d_X7_readRun_1 : decode m_X7_readRun.2.1 1 = .ok (.istore_n 1, 1) := by decide +kernel
theorem d_X7_readRun_2 : decode m_X7_readRun.2.1 2 = .ok (.iconst 0, 1) := by decide +kernel
theorem d_X7_readRun_3 : decode m_X7_readRun.2.1 3 = .ok (.istore_n 2, 1) := by decide +kernel
theorem d_X7_readRun_4 : decode m_X7_readRun.2.1 4 = .ok (.aload_n 0, 1) := by decide +kernel
theorem d_X7_readRun_5 : decode m_X7_readRun.2.1 5 = .ok (.lconst 0, 1) := by decide +kernel
theorem d_X7_readRun_6 : decode m_X7_readRun.2.1 6 = .ok (.putfield 68, 3) := by decide +kernel
theorem d_X7_readRun_9 : decode m_X7_readRun.2.1 9 = .ok (.aload_n 0, 1) := by decide +kernel
theorem d_X7_readRun_10 : decode m_X7_readRun.2.1 10 = .ok (.iconst 0, 1) := by decide +kernel
theorem d_X7_readRun_11 : decode m_X7_readRun.2.1 11 = .ok (.putfield 65, 3) := by decide +kernel
theorem d_X7_readRun_14 : decode m_X7_readRun.2.1 14 = .ok (.aload_n 0, 1) := by decide +kernel
theorem d_X7_readRun_15 : decode m_X7_readRun.2.1 15 = .ok (.getfield 31, 3) := by decide +kernel
theorem d_X7_readRun_18 : decode m_X7_readRun.2.1 18 = .ok (.aload_n 0, 1) := by decide +kernel
theorem d_X7_readRun_19 : decode m_X7_readRun.2.1 19 = .ok (.getfield 24, 3) := by decide +kernel
theorem d_X7_readRun_22 : decode m_X7_readRun.2.1 22 = .ok (.if_icmp .ge 77, 3) := by decide +kernel
theorem d_X7_readRun_25 : decode m_X7_readRun.2.1 25 = .ok (.aload_n 0, 1) := by decide +kernel
theorem d_X7_readRun_26 : decode m_X7_readRun.2.1 26 = .ok (.getfield 11, 3) := by decide +kernel
theorem d_X7_readRun_29 : decode m_X7_readRun.2.1 29 = .ok (.aload_n 0, 1) := by decide +kernel
theorem d_X7_readRun_30 : decode m_X7_readRun.2.1 30 = .ok (.getfield 31, 3) := by decide +kernel
theorem d_X7_readRun_33 : decode m_X7_readRun.2.1 33 = .ok (.baload, 1) := by decide +kernel
theorem d_X7_readRun_34 : decode m_X7_readRun.2.1 34 = .ok (.istore_n 3, 1) := by decide +kernel
theorem d_X7_readRun_35 : decode m_X7_readRun.2.1 35 = .ok (.iload_n 3, 1) := by decide +kernel
theorem d_X7_readRun_36 : decode m_X7_readRun.2.1 36 = .ok (.invokestatic 55, 3) := by decide +kernel
theorem d_X7_readRun_39 : decode m_X7_readRun.2.1 39 = .ok (.ifCond .eq 21, 3) := by decide +kernel
theorem d_X7_readRun_42 : decode m_X7_readRun.2.1 42 = .ok (.iinc 1 1, 3) := by decide +kernel
theorem d_X7_readRun_45 : decode m_X7_readRun.2.1 45 = .ok (.aload_n 0, 1) := by decide +kernel
theorem d_X7_readRun_46 : decode m_X7_readRun.2.1 46 = .ok (.aload_n 0, 1) := by decide +kernel
theorem d_X7_readRun_47 : decode m_X7_readRun.2.1 47 = .ok (.getfield 68, 3) := by decide +kernel
theorem d_X7_readRun_50 : decode m_X7_readRun.2.1 50 = .ok (.iload_n 3, 1) := by decide +kernel
theorem d_X7_readRun_51 : decode m_X7_readRun.2.1 51 = .ok (.invokestatic 72, 3) := by decide +kernel
theorem d_X7_readRun_54 : decode m_X7_readRun.2.1 54 = .ok (.putfield 68, 3) := by decide +kernel
theorem d_X7_readRun_57 : decode m_X7_readRun.2.1 57 = .ok (.goto 29, 3) := by decide +kernel
theorem d_X7_readRun_60 : decode m_X7_readRun.2.1 60 = .ok (.iload_n 3, 1) := by decide +kernel
theorem d_X7_readRun_61 : decode m_X7_readRun.2.1 61 = .ok (.invokestatic 59, 3) := by decide +kernel
theorem d_X7_readRun_64 : decode m_X7_readRun.2.1 64 = .ok (.ifCond .eq 35, 3) := by decide +kernel
theorem d_X7_readRun_67 : decode m_X7_readRun.2.1 67 = .ok (.iinc 2 1, 3) := by decide +kernel
theorem d_X7_readRun_70 : decode m_X7_readRun.2.1 70 = .ok (.aload_n 0, 1) := by decide +kernel
theorem d_X7_readRun_71 : decode m_X7_readRun.2.1 71 = .ok (.aload_n 0, 1) := by decide +kernel
theorem d_X7_readRun_72 : decode m_X7_readRun.2.1 72 = .ok (.getfield 65, 3) := by decide +kernel
theorem d_X7_readRun_75 : decode m_X7_readRun.2.1 75 = .ok (.bipush 10, 2) := by decide +kernel
theorem d_X7_readRun_77 : decode m_X7_readRun.2.1 77 = .ok (.imul, 1) := by decide +kernel
theorem d_X7_readRun_78 : decode m_X7_readRun.2.1 78 = .ok (.iload_n 3, 1) := by decide +kernel
theorem d_X7_readRun_79 : decode m_X7_readRun.2.1 79 = .ok (.bipush 48, 2) := by decide +kernel
theorem d_X7_readRun_81 : decode m_X7_readRun.2.1 81 = .ok (.isub, 1) := by decide +kernel
theorem d_X7_readRun_82 : decode m_X7_readRun.2.1 82 = .ok (.iadd, 1) := by decide +kernel
theorem d_X7_readRun_83 : decode m_X7_readRun.2.1 83 = .ok (.putfield 65, 3) := by decide +kernel
theorem d_X7_readRun_86 : decode m_X7_readRun.2.1 86 = .ok (.aload_n 0, 1) := by decide +kernel
theorem d_X7_readRun_87 : decode m_X7_readRun.2.1 87 = .ok (.dup, 1) := by decide +kernel
theorem d_X7_readRun_88 : decode m_X7_readRun.2.1 88 = .ok (.getfield 31, 3) := by decide +kernel
theorem d_X7_readRun_91 : decode m_X7_readRun.2.1 91 = .ok (.iconst 1, 1) := by decide +kernel
theorem d_X7_readRun_92 : decode m_X7_readRun.2.1 92 = .ok (.iadd, 1) := by decide +kernel
theorem d_X7_readRun_93 : decode m_X7_readRun.2.1 93 = .ok (.putfield 31, 3) := by decide +kernel
theorem d_X7_readRun_96 : decode m_X7_readRun.2.1 96 = .ok (.goto (-82), 3) := by decide +kernel
theorem d_X7_readRun_99 : decode m_X7_readRun.2.1 99 = .ok (.iload_n 2, 1) := by decide +kernel
theorem d_X7_readRun_100 : decode m_X7_readRun.2.1 100 = .ok (.ifCond .ne 28, 3) := by decide +kernel
theorem d_X7_readRun_103 : decode m_X7_readRun.2.1 103 = .ok (.iload_n 1, 1) := by decide +kernel
theorem d_X7_readRun_104 : decode m_X7_readRun.2.1 104 = .ok (.bipush 7, 2) := by decide +kernel
theorem d_X7_readRun_106 : decode m_X7_readRun.2.1 106 = .ok (.if_icmp .gt 22, 3) := by decide +kernel
theorem d_X7_readRun_109 : decode m_X7_readRun.2.1 109 = .ok (.aload_n 0, 1) := by decide +kernel
theorem d_X7_readRun_110 : decode m_X7_readRun.2.1 110 = .ok (.iconst 1, 1) := by decide +kernel
theorem d_X7_readRun_111 : decode m_X7_readRun.2.1 111 = .ok (.putfield 49, 3) := by decide +kernel
theorem d_X7_readRun_114 : decode m_X7_readRun.2.1 114 = .ok (.aload_n 0, 1) := by decide +kernel
theorem d_X7_readRun_115 : decode m_X7_readRun.2.1 115 = .ok (.aload_n 0, 1) := by decide +kernel
theorem d_X7_readRun_116 : decode m_X7_readRun.2.1 116 = .ok (.getfield 68, 3) := by decide +kernel
theorem d_X7_readRun_119 : decode m_X7_readRun.2.1 119 = .ok (.invokestatic 76, 3) := by decide +kernel
theorem d_X7_readRun_122 : decode m_X7_readRun.2.1 122 = .ok (.putfield 21, 3) := by decide +kernel
theorem d_X7_readRun_125 : decode m_X7_readRun.2.1 125 = .ok (.goto 21, 3) := by decide +kernel
theorem d_X7_readRun_128 : decode m_X7_readRun.2.1 128 = .ok (.aload_n 0, 1) := by decide +kernel
theorem d_X7_readRun_129 : decode m_X7_readRun.2.1 129 = .ok (.iload_n 1, 1) := by decide +kernel
theorem d_X7_readRun_130 : decode m_X7_readRun.2.1 130 = .ok (.ifCond .ne 12, 3) := by decide +kernel
theorem d_X7_readRun_133 : decode m_X7_readRun.2.1 133 = .ok (.iload_n 2, 1) := by decide +kernel
theorem d_X7_readRun_134 : decode m_X7_readRun.2.1 134 = .ok (.iconst 3, 1) := by decide +kernel
theorem d_X7_readRun_135 : decode m_X7_readRun.2.1 135 = .ok (.if_icmp .gt 7, 3) := by decide +kernel
theorem d_X7_readRun_138 : decode m_X7_readRun.2.1 138 = .ok (.iconst 2, 1) := by decide +kernel
theorem d_X7_readRun_139 : decode m_X7_readRun.2.1 139 = .ok (.goto 4, 3) := by decide +kernel
theorem d_X7_readRun_142 : decode m_X7_readRun.2.1 142 = .ok (.iconst 4, 1) := by decide +kernel
theorem d_X7_readRun_143 : decode m_X7_readRun.2.1 143 = .ok (.putfield 49, 3) := by decide +kernel
theorem d_X7_readRun_146 : decode m_X7_readRun.2.1 146 = .ok (.return_, 1) := by decide +kernel
set_option maxRecDepth 20000 in
theorem e_X7_readRun {E : jm_E} {d : Nat} {μ : jm_M} {Q : Option jm_V → jm_M → Prop}  (h : (∀ v ∈ ([jm_R 1] : List jm_V), jm_ok v) →
  jg E m_X7_readRun d 14 [some (jm_R 1), some (jm_I 0), some (jm_I 0), none] [] (jm_up (jm_up μ 1 6 0) 1 8 0) Q) : jc E m_X7_readRun (d + 1) [jm_R 1] μ Q := by
  refine jm_Cl.of2 (by decide +kernel) (L0 := [some (jm_R 1), none, none, none]) rfl (Nat.le_of_ble_eq_true rfl) (fun hok => ?_)
  have h := h hok
  refine jm_iconst (v := 0) d_X7_readRun_0 rfl (jm_okI (by decide) (by decide)) ?_
  refine jm_istoren (L' := [some (jm_R _), some (jm_I _), none, none]) d_X7_readRun_1 (Nat.le_of_ble_eq_true rfl) rfl ?_
  refine jm_iconst (v := 0) d_X7_readRun_2 rfl (jm_okI (by decide) (by decide)) ?_
  refine jm_istoren (L' := [some (jm_R _), some (jm_I _), some (jm_I _), none]) d_X7_readRun_3 (Nat.le_of_ble_eq_true rfl) rfl ?_
  refine jm_aloadn d_X7_readRun_4 rfl ?_
  refine jm_lconst (v := 0) d_X7_readRun_5 rfl (jm_okL (by decide) (by decide)) ?_
  refine jm_putL (k := 6) (ki := 6) cf_X7 (Nat.le_of_ble_eq_true rfl) f_X7_68 d_X7_readRun_6 (fun z => absurd z (by decide)) rfl rfl rfl (fun _ => rfl) is_1 ?_
  refine jm_aloadn d_X7_readRun_9 rfl ?_
  refine jm_iconst (v := 0) d_X7_readRun_10 rfl (jm_okI (by decide) (by decide)) ?_
  refine jm_putI (k := 8) (ki := 8) cf_X7 (Nat.le_of_ble_eq_true rfl) f_X7_65 d_X7_readRun_11 (fun z => absurd z (by decide)) rfl rfl rfl (fun _ => rfl) is_1 ?_
  exact h
set_option maxRecDepth 20000 in
theorem r_X7_readRun_14 {E : jm_E} {d : Nat} {μ : jm_M} {Q : Option jm_V → jm_M → Prop} {v1 v2 : Int} (h :
  ((μ 1 1 ≤ μ 1 3 →
    jg E m_X7_readRun d 99 [some (jm_R 1), some (jm_I v1), some (jm_I v2), none] [] μ Q) ∧
   (¬ (μ 1 1 ≤ μ 1 3) →
    (0 ≤ μ 1 3 ∧ μ 1 3 < 940) ∧
    ∀ x3 : Int, x3 = μ 2 (μ 1 3) →
    jc E m_X7_isLetter d [jm_I x3] μ (fun (o : Option jm_V) (m4 : jm_M) => ∀ r5 : Int, o = some (jm_I r5) → (r5 = 0 ∨ r5 = 1) →
    ((r5 = 0 →
      jc E m_X7_isDigit d [jm_I x3] m4 (fun (o : Option jm_V) (m8 : jm_M) => ∀ r9 : Int, o = some (jm_I r9) → (r9 = 0 ∨ r9 = 1) →
      ((r9 = 0 →
        jg E m_X7_readRun d 99 [some (jm_R 1), some (jm_I v1), some (jm_I v2), none] [] m8 Q) ∧
       (¬ (r9 = 0) →
        ∀ x12 : Int, x12 = jm_wr ((jm_wr ((m8 1 8) * 10)) + (jm_wr (x3 - 48))) →
        jg E m_X7_readRun d 14 [some (jm_R 1), some (jm_I v1), some (jm_I (jm_wr (v2 + 1))), none] [] (jm_up (jm_up m8 1 8 x12) 1 3 (jm_wr ((m8 1 3) + 1))) Q)))) ∧
     (¬ (r5 = 0) →
      jc E m_X8_withLetter d [jm_L (m4 1 6), jm_I x3] m4 (fun (o : Option jm_V) (m13 : jm_M) => ∀ r14 : Int, o = some (jm_L r14) →
      jg E m_X7_readRun d 14 [some (jm_R 1), some (jm_I (jm_wr (v1 + 1))), some (jm_I v2), none] [] (jm_up (jm_up m13 1 6 r14) 1 3 (jm_wr ((m13 1 3) + 1))) Q))))))) : jg E m_X7_readRun d 14 [some (jm_R 1), some (jm_I v1), some (jm_I v2), none] [] μ Q := by
  refine jm_aloadn d_X7_readRun_14 rfl ?_
  refine jm_getI (k := 3) (ki := 3) cf_X7 (Nat.le_of_ble_eq_true rfl) f_X7_31 d_X7_readRun_15 rfl rfl is_1 rfl ?_
  refine jm_aloadn d_X7_readRun_18 rfl ?_
  refine jm_getI (k := 1) (ki := 1) cf_X7 (Nat.le_of_ble_eq_true rfl) f_X7_24 d_X7_readRun_19 rfl rfl is_1 rfl ?_
  refine jm_icmp_ge (tgt := 99) d_X7_readRun_22 (by decide) (fun c1 => ?_) (fun c1 => ?_)
  · have h := h.1 c1
    exact h
  · have h := h.2 c1
    refine jm_aloadn d_X7_readRun_25 rfl ?_
    refine jm_getF (k := 0) (ki := 0) rfl cf_X7 (Nat.le_of_ble_eq_true rfl) f_X7_11 d_X7_readRun_26 rfl rfl is_1 fr_1_0 ?_
    refine jm_aloadn d_X7_readRun_29 rfl ?_
    refine jm_getI (k := 3) (ki := 3) cf_X7 (Nat.le_of_ble_eq_true rfl) f_X7_31 d_X7_readRun_30 rfl rfl is_1 rfl ?_
    obtain ⟨f2, h⟩ := h
    refine jm_baload d_X7_readRun_33 (ixl_2 f2.1 f2.2) ?_
    have h := h _ rfl
    refine jm_istoren (L' := [some (jm_R _), some (jm_I _), some (jm_I _), some (jm_I _)]) d_X7_readRun_34 (Nat.le_of_ble_eq_true rfl) rfl ?_
    refine jm_iloadn d_X7_readRun_35 rfl ?_
    refine jm_invS (n1 := jm_N) (mc := 0) (ms := 0) (av := [jm_I _]) w_X7_isLetter l_X7_55 d_X7_readRun_36 rfl ⟨Nat.le_refl _, Nat.le_refl _⟩ (Nat.le_of_ble_eq_true rfl) rfl ?_
    refine jm_Cl.mono h (fun o m4 h hr _ => ?_)
    obtain ⟨r5, rfl, z6⟩ := jm_rokZ hr
    have h := h _ rfl z6
    refine jm_if_eq (tgt := 60) d_X7_readRun_39 (by decide) (fun c7 => ?_) (fun c7 => ?_)
    · have h := h.1 c7
      refine jm_iloadn d_X7_readRun_60 rfl ?_
      refine jm_invS (n1 := jm_N) (mc := 0) (ms := 0) (av := [jm_I _]) w_X7_isDigit l_X7_59 d_X7_readRun_61 rfl ⟨Nat.le_refl _, Nat.le_refl _⟩ (Nat.le_of_ble_eq_true rfl) rfl ?_
      refine jm_Cl.mono h (fun o m8 h hr _ => ?_)
      obtain ⟨r9, rfl, z10⟩ := jm_rokZ hr
      have h := h _ rfl z10
      refine jm_if_eq (tgt := 99) d_X7_readRun_64 (by decide) (fun c11 => ?_) (fun c11 => ?_)
      · have h := h.1 c11
        exact jm_weak2 h (And.intro rfl (And.intro rfl (And.intro rfl trivial)))
      · have h := h.2 c11
        refine jm_iinc (L' := [some (jm_R _), some (jm_I _), some (jm_I _), some (jm_I _)]) d_X7_readRun_67 rfl rfl (Nat.le_of_ble_eq_true rfl) rfl ?_
        refine jm_aloadn d_X7_readRun_70 rfl ?_
        refine jm_aloadn d_X7_readRun_71 rfl ?_
        refine jm_getI (k := 8) (ki := 8) cf_X7 (Nat.le_of_ble_eq_true rfl) f_X7_65 d_X7_readRun_72 rfl rfl is_1 rfl ?_
        refine jm_bipush (v := 10) d_X7_readRun_75 rfl (jm_okI (by decide) (by decide)) ?_
        refine jm_imul d_X7_readRun_77 ?_
        refine jm_iloadn d_X7_readRun_78 rfl ?_
        refine jm_bipush (v := 48) d_X7_readRun_79 rfl (jm_okI (by decide) (by decide)) ?_
        refine jm_isub d_X7_readRun_81 ?_
        refine jm_iadd d_X7_readRun_82 ?_
        have h := h _ rfl
        refine jm_putI (k := 8) (ki := 8) cf_X7 (Nat.le_of_ble_eq_true rfl) f_X7_65 d_X7_readRun_83 (fun z => absurd z (by decide)) rfl rfl rfl (fun _ => rfl) is_1 ?_
        refine jm_aloadn d_X7_readRun_86 rfl ?_
        refine jm_dup rfl d_X7_readRun_87 ?_
        refine jm_getI (k := 3) (ki := 3) cf_X7 (Nat.le_of_ble_eq_true rfl) f_X7_31 d_X7_readRun_88 rfl rfl is_1 ((jm_up_i (by decide)).trans rfl) ?_
        refine jm_iconst (v := 1) d_X7_readRun_91 rfl (jm_okI (by decide) (by decide)) ?_
        refine jm_iadd d_X7_readRun_92 ?_
        refine jm_putI (k := 3) (ki := 3) cf_X7 (Nat.le_of_ble_eq_true rfl) f_X7_31 d_X7_readRun_93 (fun z => absurd z (by decide)) rfl rfl rfl (fun _ => rfl) is_1 ?_
        refine jm_goto (tgt := 14) d_X7_readRun_96 (by decide) ?_
        exact jm_weak2 h (And.intro rfl (And.intro rfl (And.intro rfl trivial)))
    · have h := h.2 c7
      refine jm_iinc (L' := [some (jm_R _), some (jm_I _), some (jm_I _), some (jm_I _)]) d_X7_readRun_42 rfl rfl (Nat.le_of_ble_eq_true rfl) rfl ?_
      refine jm_aloadn d_X7_readRun_45 rfl ?_
      refine jm_aloadn d_X7_readRun_46 rfl ?_
      refine jm_getL (k := 6) (ki := 6) cf_X7 (Nat.le_of_ble_eq_true rfl) f_X7_68 d_X7_readRun_47 rfl rfl is_1 rfl ?_
      refine jm_iloadn d_X7_readRun_50 rfl ?_
      refine jm_invS (n1 := jm_N) (mc := 0) (ms := 0) (av := [jm_L _, jm_I _]) w_X8_withLetter l_X7_72 d_X7_readRun_51 rfl ⟨Nat.le_refl _, Nat.le_refl _⟩ (Nat.le_of_ble_eq_true rfl) rfl ?_
      refine jm_Cl.mono h (fun o m13 h hr _ => ?_)
      obtain ⟨r14, rfl⟩ := jm_rokL hr
      have h := h _ rfl
      refine jm_putL (k := 6) (ki := 6) cf_X7 (Nat.le_of_ble_eq_true rfl) f_X7_68 d_X7_readRun_54 (fun z => absurd z (by decide)) rfl rfl rfl (fun _ => rfl) is_1 ?_
      refine jm_goto (tgt := 86) d_X7_readRun_57 (by decide) ?_
      refine jm_aloadn d_X7_readRun_86 rfl ?_
      refine jm_dup rfl d_X7_readRun_87 ?_
      refine jm_getI (k := 3) (ki := 3) cf_X7 (Nat.le_of_ble_eq_true rfl) f_X7_31 d_X7_readRun_88 rfl rfl is_1 ((jm_up_i (by decide)).trans rfl) ?_
      refine jm_iconst (v := 1) d_X7_readRun_91 rfl (jm_okI (by decide) (by decide)) ?_
      refine jm_iadd d_X7_readRun_92 ?_
      refine jm_putI (k := 3) (ki := 3) cf_X7 (Nat.le_of_ble_eq_true rfl) f_X7_31 d_X7_readRun_93 (fun z => absurd z (by decide)) rfl rfl rfl (fun _ => rfl) is_1 ?_
      refine jm_goto (tgt := 14) d_X7_readRun_96 (by decide) ?_
      exact jm_weak2 h (And.intro rfl (And.intro rfl (And.intro rfl trivial)))
set_option maxRecDepth 20000 in
theorem r_X7_readRun_99 {E : jm_E} {d : Nat} {μ : jm_M} {Q : Option jm_V → jm_M → Prop} {v1 v2 : Int} (h :
  ((v2 ≠ 0 →
    ((v1 ≠ 0 →
      Q none (jm_up μ 1 4 4)) ∧
     (¬ (v1 ≠ 0) →
      ((3 < v2 →
        Q none (jm_up μ 1 4 4)) ∧
       (¬ (3 < v2) →
        Q none (jm_up μ 1 4 2)))))) ∧
   (¬ (v2 ≠ 0) →
    ((7 < v1 →
      ((v1 ≠ 0 →
        Q none (jm_up μ 1 4 4)) ∧
       (¬ (v1 ≠ 0) →
        ((3 < v2 →
          Q none (jm_up μ 1 4 4)) ∧
         (¬ (3 < v2) →
          Q none (jm_up μ 1 4 2)))))) ∧
     (¬ (7 < v1) →
      jc E m_X7_termOf d [jm_L (μ 1 6)] (jm_up μ 1 4 1) (fun (o : Option jm_V) (m7 : jm_M) => ∀ r8 : Int, o = some (jm_R r8) →
      Q none (jm_up m7 1 7 r8))))))) : jg E m_X7_readRun d 99 [some (jm_R 1), some (jm_I v1), some (jm_I v2), none] [] μ Q := by
  refine jm_iloadn d_X7_readRun_99 rfl ?_
  refine jm_if_ne (tgt := 128) d_X7_readRun_100 (by decide) (fun c1 => ?_) (fun c1 => ?_)
  · have h := h.1 c1
    refine jm_aloadn d_X7_readRun_128 rfl ?_
    refine jm_iloadn d_X7_readRun_129 rfl ?_
    refine jm_if_ne (tgt := 142) d_X7_readRun_130 (by decide) (fun c2 => ?_) (fun c2 => ?_)
    · have h := h.1 c2
      refine jm_iconst (v := 4) d_X7_readRun_142 rfl (jm_okI (by decide) (by decide)) ?_
      refine jm_putI (k := 4) (ki := 4) cf_X7 (Nat.le_of_ble_eq_true rfl) f_X7_49 d_X7_readRun_143 (fun z => absurd z (by decide)) rfl rfl rfl (fun _ => rfl) is_1 ?_
      exact jm_ret (o := none) d_X7_readRun_146 rfl ⟨Nat.le_refl _, Nat.le_refl _⟩ jm_r_V h rfl
    · have h := h.2 c2
      refine jm_iloadn d_X7_readRun_133 rfl ?_
      refine jm_iconst (v := 3) d_X7_readRun_134 rfl (jm_okI (by decide) (by decide)) ?_
      refine jm_icmp_gt (tgt := 142) d_X7_readRun_135 (by decide) (fun c3 => ?_) (fun c3 => ?_)
      · have h := h.1 c3
        refine jm_iconst (v := 4) d_X7_readRun_142 rfl (jm_okI (by decide) (by decide)) ?_
        refine jm_putI (k := 4) (ki := 4) cf_X7 (Nat.le_of_ble_eq_true rfl) f_X7_49 d_X7_readRun_143 (fun z => absurd z (by decide)) rfl rfl rfl (fun _ => rfl) is_1 ?_
        exact jm_ret (o := none) d_X7_readRun_146 rfl ⟨Nat.le_refl _, Nat.le_refl _⟩ jm_r_V h rfl
      · have h := h.2 c3
        refine jm_iconst (v := 2) d_X7_readRun_138 rfl (jm_okI (by decide) (by decide)) ?_
        refine jm_goto (tgt := 143) d_X7_readRun_139 (by decide) ?_
        refine jm_putI (k := 4) (ki := 4) cf_X7 (Nat.le_of_ble_eq_true rfl) f_X7_49 d_X7_readRun_143 (fun z => absurd z (by decide)) rfl rfl rfl (fun _ => rfl) is_1 ?_
        exact jm_ret (o := none) d_X7_readRun_146 rfl ⟨Nat.le_refl _, Nat.le_refl _⟩ jm_r_V h rfl
  · have h := h.2 c1
    refine jm_iloadn d_X7_readRun_103 rfl ?_
    refine jm_bipush (v := 7) d_X7_readRun_104 rfl (jm_okI (by decide) (by decide)) ?_
    refine jm_icmp_gt (tgt := 128) d_X7_readRun_106 (by decide) (fun c4 => ?_) (fun c4 => ?_)
    · have h := h.1 c4
      refine jm_aloadn d_X7_readRun_128 rfl ?_
      refine jm_iloadn d_X7_readRun_129 rfl ?_
      refine jm_if_ne (tgt := 142) d_X7_readRun_130 (by decide) (fun c5 => ?_) (fun c5 => ?_)
      · have h := h.1 c5
        refine jm_iconst (v := 4) d_X7_readRun_142 rfl (jm_okI (by decide) (by decide)) ?_
        refine jm_putI (k := 4) (ki := 4) cf_X7 (Nat.le_of_ble_eq_true rfl) f_X7_49 d_X7_readRun_143 (fun z => absurd z (by decide)) rfl rfl rfl (fun _ => rfl) is_1 ?_
        exact jm_ret (o := none) d_X7_readRun_146 rfl ⟨Nat.le_refl _, Nat.le_refl _⟩ jm_r_V h rfl
      · have h := h.2 c5
        refine jm_iloadn d_X7_readRun_133 rfl ?_
        refine jm_iconst (v := 3) d_X7_readRun_134 rfl (jm_okI (by decide) (by decide)) ?_
        refine jm_icmp_gt (tgt := 142) d_X7_readRun_135 (by decide) (fun c6 => ?_) (fun c6 => ?_)
        · have h := h.1 c6
          refine jm_iconst (v := 4) d_X7_readRun_142 rfl (jm_okI (by decide) (by decide)) ?_
          refine jm_putI (k := 4) (ki := 4) cf_X7 (Nat.le_of_ble_eq_true rfl) f_X7_49 d_X7_readRun_143 (fun z => absurd z (by decide)) rfl rfl rfl (fun _ => rfl) is_1 ?_
          exact jm_ret (o := none) d_X7_readRun_146 rfl ⟨Nat.le_refl _, Nat.le_refl _⟩ jm_r_V h rfl
        · have h := h.2 c6
          refine jm_iconst (v := 2) d_X7_readRun_138 rfl (jm_okI (by decide) (by decide)) ?_
          refine jm_goto (tgt := 143) d_X7_readRun_139 (by decide) ?_
          refine jm_putI (k := 4) (ki := 4) cf_X7 (Nat.le_of_ble_eq_true rfl) f_X7_49 d_X7_readRun_143 (fun z => absurd z (by decide)) rfl rfl rfl (fun _ => rfl) is_1 ?_
          exact jm_ret (o := none) d_X7_readRun_146 rfl ⟨Nat.le_refl _, Nat.le_refl _⟩ jm_r_V h rfl
    · have h := h.2 c4
      refine jm_aloadn d_X7_readRun_109 rfl ?_
      refine jm_iconst (v := 1) d_X7_readRun_110 rfl (jm_okI (by decide) (by decide)) ?_
      refine jm_putI (k := 4) (ki := 4) cf_X7 (Nat.le_of_ble_eq_true rfl) f_X7_49 d_X7_readRun_111 (fun z => absurd z (by decide)) rfl rfl rfl (fun _ => rfl) is_1 ?_
      refine jm_aloadn d_X7_readRun_114 rfl ?_
      refine jm_aloadn d_X7_readRun_115 rfl ?_
      refine jm_getL (k := 6) (ki := 6) cf_X7 (Nat.le_of_ble_eq_true rfl) f_X7_68 d_X7_readRun_116 rfl rfl is_1 ((jm_up_i (by decide)).trans rfl) ?_
      refine jm_invS (n1 := jm_N) (mc := 0) (ms := 0) (av := [jm_L _]) w_X7_termOf l_X7_76 d_X7_readRun_119 rfl ⟨Nat.le_refl _, Nat.le_refl _⟩ (Nat.le_of_ble_eq_true rfl) rfl ?_
      refine jm_Cl.mono h (fun o m7 h hr _ => ?_)
      obtain ⟨r8, rfl⟩ := jm_rokR hr
      have h := h _ rfl
      refine jm_putR (k := 7) (ki := 7) cf_X7 (Nat.le_of_ble_eq_true rfl) f_X7_21 d_X7_readRun_122 (fun z => absurd z (by decide)) rfl (Or.inl ⟨_, rfl⟩) rfl (fun _ => rfl) is_1 ?_
      refine jm_goto (tgt := 146) d_X7_readRun_125 (by decide) ?_
      exact jm_ret (o := none) d_X7_readRun_146 rfl ⟨Nat.le_refl _, Nat.le_refl _⟩ jm_r_V h rfl
/-! ('CombTable$Tape', 'termOf', '(J)LCombTable$Term;') -/
theorem d_X7_termOf_0 : decode m_X7_termOf.2.1 0 = .ok (.iconst 0, 1) := by decide +kernel
theorem d_X7_termOf_1 : decode m_X7_termOf.2.1 1 = .ok (.istore_n 2, 1) := by decide +kernel
theorem d_X7_termOf_2 : decode m_X7_termOf.2.1 2 = .ok (.iload_n 2, 1) := by decide +kernel
theorem d_X7_termOf_3 : decode m_X7_termOf.2.1 3 = .ok (.getstatic 80, 3) := by decide +kernel
theorem d_X7_termOf_6 : decode m_X7_termOf.2.1 6 = .ok (.arraylength, 1) := by decide +kernel
theorem d_X7_termOf_7 : decode m_X7_termOf.2.1 7 = .ok (.if_icmp .ge 28, 3) := by decide +kernel
theorem d_X7_termOf_10 : decode m_X7_termOf.2.1 10 = .ok (.getstatic 80, 3) := by decide +kernel
theorem d_X7_termOf_13 : decode m_X7_termOf.2.1 13 = .ok (.iload_n 2, 1) := by decide +kernel
theorem d_X7_termOf_14 : decode m_X7_termOf.2.1 14 = .ok (.aaload, 1) := by decide +kernel
theorem d_X7_termOf_15 : decode m_X7_termOf.2.1 15 = .ok (.getfield 84, 3) := by decide +kernel
theorem d_X7_termOf_18 : decode m_X7_termOf.2.1 18 = .ok (.lload_n 0, 1) := by decide +kernel
theorem d_X7_termOf_19 : decode m_X7_termOf.2.1 19 = .ok (.lcmp, 1) := by decide +kernel
theorem d_X7_termOf_20 : decode m_X7_termOf.2.1 20 = .ok (.ifCond .ne 9, 3) := by decide +kernel
theorem d_X7_termOf_23 : decode m_X7_termOf.2.1 23 = .ok (.getstatic 80, 3) := by decide +kernel
theorem d_X7_termOf_26 : decode m_X7_termOf.2.1 26 = .ok (.iload_n 2, 1) := by decide +kernel
theorem d_X7_termOf_27 : decode m_X7_termOf.2.1 27 = .ok (.aaload, 1) := by decide +kernel
theorem d_X7_termOf_28 : decode m_X7_termOf.2.1 28 = .ok (.areturn, 1) := by decide +kernel
theorem d_X7_termOf_29 : decode m_X7_termOf.2.1 29 = .ok (.iinc 2 1, 3) := by decide +kernel
theorem d_X7_termOf_32 : decode m_X7_termOf.2.1 32 = .ok (.goto (-30), 3) := by decide +kernel
theorem d_X7_termOf_35 : decode m_X7_termOf.2.1 35 = .ok (.getstatic 15, 3) := by decide +kernel
theorem d_X7_termOf_38 : decode m_X7_termOf.2.1 38 = .ok (.areturn, 1) := by decide +kernel
set_option maxRecDepth 20000 in
theorem e_X7_termOf {E : jm_E} {d : Nat} {μ : jm_M} {Q : Option jm_V → jm_M → Prop} {v0 : Int} (h : (∀ v ∈ ([jm_L v0] : List jm_V), jm_ok v) →
  jg E m_X7_termOf d 2 [some (jm_L v0), none, some (jm_I 0)] [] μ Q) : jc E m_X7_termOf (d + 1) [jm_L v0] μ Q := by
  refine jm_Cl.of2 (by decide +kernel) (L0 := [some (jm_L v0), none, none]) rfl (Nat.le_of_ble_eq_true rfl) (fun hok => ?_)
  have h := h hok
  refine jm_iconst (v := 0) d_X7_termOf_0 rfl (jm_okI (by decide) (by decide)) ?_
  refine jm_istoren (L' := [some (jm_L _), none, some (jm_I _)]) d_X7_termOf_1 (Nat.le_of_ble_eq_true rfl) rfl ?_
  exact h
set_option maxRecDepth 20000 in
theorem r_X7_termOf_2 {E : jm_E} {d : Nat} {μ : jm_M} {Q : Option jm_V → jm_M → Prop} {v0 v2 : Int} (h :
  ((26 ≤ v2 →
    Q (some (jm_R ((-11)))) μ) ∧
   (¬ (26 ≤ v2) →
    (0 ≤ v2 ∧ v2 < 26) ∧
    (jm_it (-11 - v2)) ∧
    (((jm_cmp (jm_le (-11 - v2)) v0) ≠ 0 →
      jg E m_X7_termOf d 2 [some (jm_L v0), none, some (jm_I (jm_wr (v2 + 1)))] [] μ Q) ∧
     (¬ ((jm_cmp (jm_le (-11 - v2)) v0) ≠ 0) →
      Q (some (jm_R (-11 - v2))) μ))))) : jg E m_X7_termOf d 2 [some (jm_L v0), none, some (jm_I v2)] [] μ Q := by
  refine jm_iloadn d_X7_termOf_2 rfl ?_
  refine jm_getTS f_X7_80 d_X7_termOf_3 ?_
  refine jm_TSlen d_X7_termOf_6 ?_
  refine jm_icmp_ge (tgt := 35) d_X7_termOf_7 (by decide) (fun c1 => ?_) (fun c1 => ?_)
  · have h := h.1 c1
    refine jm_getT (i := 0) (a := -11) (Nat.le_of_ble_eq_true rfl) (by decide) rfl f_X7_15 d_X7_termOf_35 ?_
    exact jm_ret (o := some (jm_R _)) d_X7_termOf_38 rfl ⟨Nat.le_refl _, Nat.le_refl _⟩ jm_r_R h rfl
  · have h := h.2 c1
    refine jm_getTS f_X7_80 d_X7_termOf_10 ?_
    refine jm_iloadn d_X7_termOf_13 rfl ?_
    obtain ⟨f2, h⟩ := h
    refine jm_TSld d_X7_termOf_14 f2.1 f2.2 ?_
    obtain ⟨f3, h⟩ := h
    refine jm_getTl f3 f_X7_84 d_X7_termOf_15 ?_
    refine jm_lloadn d_X7_termOf_18 rfl ?_
    refine jm_lcmp d_X7_termOf_19 ?_
    refine jm_if_ne (tgt := 29) d_X7_termOf_20 (by decide) (fun c4 => ?_) (fun c4 => ?_)
    · have h := h.1 c4
      refine jm_iinc (L' := [some (jm_L _), none, some (jm_I _)]) d_X7_termOf_29 rfl rfl (Nat.le_of_ble_eq_true rfl) rfl ?_
      refine jm_goto (tgt := 2) d_X7_termOf_32 (by decide) ?_
      exact h
    · have h := h.2 c4
      refine jm_getTS f_X7_80 d_X7_termOf_23 ?_
      refine jm_iloadn d_X7_termOf_26 rfl ?_
      refine jm_TSld d_X7_termOf_27 f2.1 f2.2 ?_
      exact jm_ret (o := some (jm_R _)) d_X7_termOf_28 rfl ⟨Nat.le_refl _, Nat.le_refl _⟩ jm_r_R h rfl
/-! ('CombTable$Tape', 'isLetter', '(I)Z') -/
theorem d_X7_isLetter_0 : decode m_X7_isLetter.2.1 0 = .ok (.iload_n 0, 1) := by decide +kernel
theorem d_X7_isLetter_1 : decode m_X7_isLetter.2.1 1 = .ok (.bipush 97, 2) := by decide +kernel
theorem d_X7_isLetter_3 : decode m_X7_isLetter.2.1 3 = .ok (.if_icmp .lt 13, 3) := by decide +kernel
theorem d_X7_isLetter_6 : decode m_X7_isLetter.2.1 6 = .ok (.iload_n 0, 1) := by decide +kernel
theorem d_X7_isLetter_7 : decode m_X7_isLetter.2.1 7 = .ok (.bipush 122, 2) := by decide +kernel
theorem d_X7_isLetter_9 : decode m_X7_isLetter.2.1 9 = .ok (.if_icmp .gt 7, 3) := by decide +kernel
theorem d_X7_isLetter_12 : decode m_X7_isLetter.2.1 12 = .ok (.iconst 1, 1) := by decide +kernel
theorem d_X7_isLetter_13 : decode m_X7_isLetter.2.1 13 = .ok (.goto 4, 3) := by decide +kernel
theorem d_X7_isLetter_16 : decode m_X7_isLetter.2.1 16 = .ok (.iconst 0, 1) := by decide +kernel
theorem d_X7_isLetter_17 : decode m_X7_isLetter.2.1 17 = .ok (.ireturn, 1) := by decide +kernel
set_option maxRecDepth 20000 in
theorem e_X7_isLetter {E : jm_E} {d : Nat} {μ : jm_M} {Q : Option jm_V → jm_M → Prop} {v0 : Int} (h : (∀ v ∈ ([jm_I v0] : List jm_V), jm_ok v) →
  ((v0 < 97 →
    Q (some (jm_I 0)) μ) ∧
   (¬ (v0 < 97) →
    ((122 < v0 →
      Q (some (jm_I 0)) μ) ∧
     (¬ (122 < v0) →
      Q (some (jm_I 1)) μ))))) : jc E m_X7_isLetter (d + 1) [jm_I v0] μ Q := by
  refine jm_Cl.of2 (by decide +kernel) (L0 := [some (jm_I v0)]) rfl (Nat.le_of_ble_eq_true rfl) (fun hok => ?_)
  have h := h hok
  refine jm_iloadn d_X7_isLetter_0 rfl ?_
  refine jm_bipush (v := 97) d_X7_isLetter_1 rfl (jm_okI (by decide) (by decide)) ?_
  refine jm_icmp_lt (tgt := 16) d_X7_isLetter_3 (by decide) (fun c1 => ?_) (fun c1 => ?_)
  · have h := h.1 c1
    refine jm_iconst (v := 0) d_X7_isLetter_16 rfl (jm_okI (by decide) (by decide)) ?_
    exact jm_ret (o := some (jm_I _)) d_X7_isLetter_17 rfl ⟨Nat.le_refl _, Nat.le_refl _⟩ (jm_r_Z (by decide)) h rfl
  · have h := h.2 c1
    refine jm_iloadn d_X7_isLetter_6 rfl ?_
    refine jm_bipush (v := 122) d_X7_isLetter_7 rfl (jm_okI (by decide) (by decide)) ?_
    refine jm_icmp_gt (tgt := 16) d_X7_isLetter_9 (by decide) (fun c2 => ?_) (fun c2 => ?_)
    · have h := h.1 c2
      refine jm_iconst (v := 0) d_X7_isLetter_16 rfl (jm_okI (by decide) (by decide)) ?_
      exact jm_ret (o := some (jm_I _)) d_X7_isLetter_17 rfl ⟨Nat.le_refl _, Nat.le_refl _⟩ (jm_r_Z (by decide)) h rfl
    · have h := h.2 c2
      refine jm_iconst (v := 1) d_X7_isLetter_12 rfl (jm_okI (by decide) (by decide)) ?_
      refine jm_goto (tgt := 17) d_X7_isLetter_13 (by decide) ?_
      exact jm_ret (o := some (jm_I _)) d_X7_isLetter_17 rfl ⟨Nat.le_refl _, Nat.le_refl _⟩ (jm_r_Z (by decide)) h rfl
/-! ('CombTable$Tape', 'isDigit', '(I)Z') -/
theorem d_X7_isDigit_0 : decode m_X7_isDigit.2.1 0 = .ok (.iload_n 0, 1) := by decide +kernel
theorem d_X7_isDigit_1 : decode m_X7_isDigit.2.1 1 = .ok (.bipush 48, 2) := by decide +kernel
theorem d_X7_isDigit_3 : decode m_X7_isDigit.2.1 3 = .ok (.if_icmp .lt 13, 3) := by decide +kernel
theorem d_X7_isDigit_6 : decode m_X7_isDigit.2.1 6 = .ok (.iload_n 0, 1) := by decide +kernel
theorem d_X7_isDigit_7 : decode m_X7_isDigit.2.1 7 = .ok (.bipush 57, 2) := by decide +kernel
theorem d_X7_isDigit_9 : decode m_X7_isDigit.2.1 9 = .ok (.if_icmp .gt 7, 3) := by decide +kernel
theorem d_X7_isDigit_12 : decode m_X7_isDigit.2.1 12 = .ok (.iconst 1, 1) := by decide +kernel
theorem d_X7_isDigit_13 : decode m_X7_isDigit.2.1 13 = .ok (.goto 4, 3) := by decide +kernel
theorem d_X7_isDigit_16 : decode m_X7_isDigit.2.1 16 = .ok (.iconst 0, 1) := by decide +kernel
theorem d_X7_isDigit_17 : decode m_X7_isDigit.2.1 17 = .ok (.ireturn, 1) := by decide +kernel
set_option maxRecDepth 20000 in
theorem e_X7_isDigit {E : jm_E} {d : Nat} {μ : jm_M} {Q : Option jm_V → jm_M → Prop} {v0 : Int} (h : (∀ v ∈ ([jm_I v0] : List jm_V), jm_ok v) →
  ((v0 < 48 →
    Q (some (jm_I 0)) μ) ∧
   (¬ (v0 < 48) →
    ((57 < v0 →
      Q (some (jm_I 0)) μ) ∧
     (¬ (57 < v0) →
      Q (some (jm_I 1)) μ))))) : jc E m_X7_isDigit (d + 1) [jm_I v0] μ Q := by
  refine jm_Cl.of2 (by decide +kernel) (L0 := [some (jm_I v0)]) rfl (Nat.le_of_ble_eq_true rfl) (fun hok => ?_)
  have h := h hok
  refine jm_iloadn d_X7_isDigit_0 rfl ?_
  refine jm_bipush (v := 48) d_X7_isDigit_1 rfl (jm_okI (by decide) (by decide)) ?_
  refine jm_icmp_lt (tgt := 16) d_X7_isDigit_3 (by decide) (fun c1 => ?_) (fun c1 => ?_)
  · have h := h.1 c1
    refine jm_iconst (v := 0) d_X7_isDigit_16 rfl (jm_okI (by decide) (by decide)) ?_
    exact jm_ret (o := some (jm_I _)) d_X7_isDigit_17 rfl ⟨Nat.le_refl _, Nat.le_refl _⟩ (jm_r_Z (by decide)) h rfl
  · have h := h.2 c1
    refine jm_iloadn d_X7_isDigit_6 rfl ?_
    refine jm_bipush (v := 57) d_X7_isDigit_7 rfl (jm_okI (by decide) (by decide)) ?_
    refine jm_icmp_gt (tgt := 16) d_X7_isDigit_9 (by decide) (fun c2 => ?_) (fun c2 => ?_)
    · have h := h.1 c2
      refine jm_iconst (v := 0) d_X7_isDigit_16 rfl (jm_okI (by decide) (by decide)) ?_
      exact jm_ret (o := some (jm_I _)) d_X7_isDigit_17 rfl ⟨Nat.le_refl _, Nat.le_refl _⟩ (jm_r_Z (by decide)) h rfl
    · have h := h.2 c2
      refine jm_iconst (v := 1) d_X7_isDigit_12 rfl (jm_okI (by decide) (by decide)) ?_
      refine jm_goto (tgt := 17) d_X7_isDigit_13 (by decide) ?_
      exact jm_ret (o := some (jm_I _)) d_X7_isDigit_17 rfl ⟨Nat.le_refl _, Nat.le_refl _⟩ (jm_r_Z (by decide)) h rfl
/-! ('CombTable$Tape', 'fails', '(II)Z') -/
theorem d_X7_fails_0 : decode m_X7_fails.2.1 0 = .ok (.aload_n 0, 1) := by decide +kernel
theorem d_X7_fails_1 : decode m_X7_fails.2.1 1 = .ok (.iload_n 1, 1) := by decide +kernel
theorem d_X7_fails_2 : decode m_X7_fails.2.1 2 = .ok (.putfield 34, 3) := by decide +kernel
theorem d_X7_fails_5 : decode m_X7_fails.2.1 5 = .ok (.aload_n 0, 1) := by decide +kernel
theorem d_X7_fails_6 : decode m_X7_fails.2.1 6 = .ok (.iload_n 2, 1) := by decide +kernel
theorem d_X7_fails_7 : decode m_X7_fails.2.1 7 = .ok (.putfield 37, 3) := by decide +kernel
theorem d_X7_fails_10 : decode m_X7_fails.2.1 10 = .ok (.iconst 0, 1) := by decide +kernel
theorem d_X7_fails_11 : decode m_X7_fails.2.1 11 = .ok (.ireturn, 1) := by decide +kernel
set_option maxRecDepth 20000 in
theorem e_X7_fails {E : jm_E} {d : Nat} {μ : jm_M} {Q : Option jm_V → jm_M → Prop} {v1 v2 : Int} (h : (∀ v ∈ ([jm_R 1, jm_I v1, jm_I v2] : List jm_V), jm_ok v) →
  Q (some (jm_I 0)) (jm_up (jm_up μ 1 9 v1) 1 10 v2)) : jc E m_X7_fails (d + 1) [jm_R 1, jm_I v1, jm_I v2] μ Q := by
  refine jm_Cl.of2 (by decide +kernel) (L0 := [some (jm_R 1), some (jm_I v1), some (jm_I v2)]) rfl (Nat.le_of_ble_eq_true rfl) (fun hok => ?_)
  have h := h hok
  refine jm_aloadn d_X7_fails_0 rfl ?_
  refine jm_iloadn d_X7_fails_1 rfl ?_
  refine jm_putI (k := 9) (ki := 9) cf_X7 (Nat.le_of_ble_eq_true rfl) f_X7_34 d_X7_fails_2 (fun z => absurd z (by decide)) rfl rfl rfl (fun _ => rfl) is_1 ?_
  refine jm_aloadn d_X7_fails_5 rfl ?_
  refine jm_iloadn d_X7_fails_6 rfl ?_
  refine jm_putI (k := 10) (ki := 10) cf_X7 (Nat.le_of_ble_eq_true rfl) f_X7_37 d_X7_fails_7 (fun z => absurd z (by decide)) rfl rfl rfl (fun _ => rfl) is_1 ?_
  refine jm_iconst (v := 0) d_X7_fails_10 rfl (jm_okI (by decide) (by decide)) ?_
  exact jm_ret (o := some (jm_I _)) d_X7_fails_11 rfl ⟨Nat.le_refl _, Nat.le_refl _⟩ (jm_r_Z (by decide)) h rfl
/-! ('CombTable$Tape', 'isTerm', '(LCombTable$Term;)Z') -/
theorem d_X7_isTerm_0 : decode m_X7_isTerm.2.1 0 = .ok (.aload_n 0, 1) := by decide +kernel
theorem d_X7_isTerm_1 : decode m_X7_isTerm.2.1 1 = .ok (.getfield 49, 3) := by decide +kernel
theorem d_X7_isTerm_4 : decode m_X7_isTerm.2.1 4 = .ok (.iconst 1, 1) := by decide +kernel
theorem d_X7_isTerm_5 : decode m_X7_isTerm.2.1 5 = .ok (.if_icmp .ne 15, 3) := by decide +kernel
theorem d_X7_isTerm_8 : decode m_X7_isTerm.2.1 8 = .ok (.aload_n 0, 1) := by decide +kernel
theorem d_X7_isTerm_9 : decode m_X7_isTerm.2.1 9 = .ok (.getfield 21, 3) := by decide +kernel
theorem d_X7_isTerm_12 : decode m_X7_isTerm.2.1 12 = .ok (.aload_n 1, 1) := by decide +kernel
theorem d_X7_isTerm_13 : decode m_X7_isTerm.2.1 13 = .ok (.if_acmp .ne 7, 3) := by decide +kernel
theorem d_X7_isTerm_16 : decode m_X7_isTerm.2.1 16 = .ok (.iconst 1, 1) := by decide +kernel
theorem d_X7_isTerm_17 : decode m_X7_isTerm.2.1 17 = .ok (.goto 4, 3) := by decide +kernel
theorem d_X7_isTerm_20 : decode m_X7_isTerm.2.1 20 = .ok (.iconst 0, 1) := by decide +kernel
theorem d_X7_isTerm_21 : decode m_X7_isTerm.2.1 21 = .ok (.ireturn, 1) := by decide +kernel
set_option maxRecDepth 20000 in
theorem e_X7_isTerm {E : jm_E} {d : Nat} {μ : jm_M} {Q : Option jm_V → jm_M → Prop} {v1 : Int} (h : (∀ v ∈ ([jm_R 1, jm_R v1] : List jm_V), jm_ok v) →
  ((μ 1 4 ≠ 1 →
    Q (some (jm_I 0)) μ) ∧
   (¬ (μ 1 4 ≠ 1) →
    (jm_it (μ 1 7)) ∧
    (jm_it v1) ∧
    (((μ 1 7) ≠ v1 →
      Q (some (jm_I 0)) μ) ∧
     (¬ ((μ 1 7) ≠ v1) →
      Q (some (jm_I 1)) μ))))) : jc E m_X7_isTerm (d + 1) [jm_R 1, jm_R v1] μ Q := by
  refine jm_Cl.of2 (by decide +kernel) (L0 := [some (jm_R 1), some (jm_R v1)]) rfl (Nat.le_of_ble_eq_true rfl) (fun hok => ?_)
  have h := h hok
  refine jm_aloadn d_X7_isTerm_0 rfl ?_
  refine jm_getI (k := 4) (ki := 4) cf_X7 (Nat.le_of_ble_eq_true rfl) f_X7_49 d_X7_isTerm_1 rfl rfl is_1 rfl ?_
  refine jm_iconst (v := 1) d_X7_isTerm_4 rfl (jm_okI (by decide) (by decide)) ?_
  refine jm_icmp_ne (tgt := 20) d_X7_isTerm_5 (by decide) (fun c1 => ?_) (fun c1 => ?_)
  · have h := h.1 c1
    refine jm_iconst (v := 0) d_X7_isTerm_20 rfl (jm_okI (by decide) (by decide)) ?_
    exact jm_ret (o := some (jm_I _)) d_X7_isTerm_21 rfl ⟨Nat.le_refl _, Nat.le_refl _⟩ (jm_r_Z (by decide)) h rfl
  · have h := h.2 c1
    refine jm_aloadn d_X7_isTerm_8 rfl ?_
    refine jm_getR (k := 7) (ki := 7) cf_X7 (Nat.le_of_ble_eq_true rfl) f_X7_21 d_X7_isTerm_9 rfl rfl is_1 rfl ?_
    refine jm_aloadn d_X7_isTerm_12 rfl ?_
    obtain ⟨f2, h⟩ := h
    obtain ⟨f3, h⟩ := h
    refine jm_acmp_ne (tgt := 20) d_X7_isTerm_13 (by decide) f2 f3 (fun c4 => ?_) (fun c4 => ?_)
    · have h := h.1 c4
      refine jm_iconst (v := 0) d_X7_isTerm_20 rfl (jm_okI (by decide) (by decide)) ?_
      exact jm_ret (o := some (jm_I _)) d_X7_isTerm_21 rfl ⟨Nat.le_refl _, Nat.le_refl _⟩ (jm_r_Z (by decide)) h rfl
    · have h := h.2 c4
      refine jm_iconst (v := 1) d_X7_isTerm_16 rfl (jm_okI (by decide) (by decide)) ?_
      refine jm_goto (tgt := 21) d_X7_isTerm_17 (by decide) ?_
      exact jm_ret (o := some (jm_I _)) d_X7_isTerm_21 rfl ⟨Nat.le_refl _, Nat.le_refl _⟩ (jm_r_Z (by decide)) h rfl
/-! ('CombTable$Tape', 'isName', '()Z') -/
theorem d_X7_isName_0 : decode m_X7_isName.2.1 0 = .ok (.aload_n 0, 1) := by decide +kernel
theorem d_X7_isName_1 : decode m_X7_isName.2.1 1 = .ok (.getfield 49, 3) := by decide +kernel
theorem d_X7_isName_4 : decode m_X7_isName.2.1 4 = .ok (.iconst 1, 1) := by decide +kernel
theorem d_X7_isName_5 : decode m_X7_isName.2.1 5 = .ok (.if_icmp .ne 17, 3) := by decide +kernel
theorem d_X7_isName_8 : decode m_X7_isName.2.1 8 = .ok (.aload_n 0, 1) := by decide +kernel
theorem d_X7_isName_9 : decode m_X7_isName.2.1 9 = .ok (.getfield 21, 3) := by decide +kernel
theorem d_X7_isName_12 : decode m_X7_isName.2.1 12 = .ok (.getstatic 15, 3) := by decide +kernel
theorem d_X7_isName_15 : decode m_X7_isName.2.1 15 = .ok (.if_acmp .ne 7, 3) := by decide +kernel
theorem d_X7_isName_18 : decode m_X7_isName.2.1 18 = .ok (.iconst 1, 1) := by decide +kernel
theorem d_X7_isName_19 : decode m_X7_isName.2.1 19 = .ok (.goto 4, 3) := by decide +kernel
theorem d_X7_isName_22 : decode m_X7_isName.2.1 22 = .ok (.iconst 0, 1) := by decide +kernel
theorem d_X7_isName_23 : decode m_X7_isName.2.1 23 = .ok (.ireturn, 1) := by decide +kernel
set_option maxRecDepth 20000 in
theorem e_X7_isName {E : jm_E} {d : Nat} {μ : jm_M} {Q : Option jm_V → jm_M → Prop}  (h : (∀ v ∈ ([jm_R 1] : List jm_V), jm_ok v) →
  ((μ 1 4 ≠ 1 →
    Q (some (jm_I 0)) μ) ∧
   (¬ (μ 1 4 ≠ 1) →
    (jm_it (μ 1 7)) ∧
    (jm_it ((-11))) ∧
    (((μ 1 7) ≠ ((-11)) →
      Q (some (jm_I 0)) μ) ∧
     (¬ ((μ 1 7) ≠ ((-11))) →
      Q (some (jm_I 1)) μ))))) : jc E m_X7_isName (d + 1) [jm_R 1] μ Q := by
  refine jm_Cl.of2 (by decide +kernel) (L0 := [some (jm_R 1)]) rfl (Nat.le_of_ble_eq_true rfl) (fun hok => ?_)
  have h := h hok
  refine jm_aloadn d_X7_isName_0 rfl ?_
  refine jm_getI (k := 4) (ki := 4) cf_X7 (Nat.le_of_ble_eq_true rfl) f_X7_49 d_X7_isName_1 rfl rfl is_1 rfl ?_
  refine jm_iconst (v := 1) d_X7_isName_4 rfl (jm_okI (by decide) (by decide)) ?_
  refine jm_icmp_ne (tgt := 22) d_X7_isName_5 (by decide) (fun c1 => ?_) (fun c1 => ?_)
  · have h := h.1 c1
    refine jm_iconst (v := 0) d_X7_isName_22 rfl (jm_okI (by decide) (by decide)) ?_
    exact jm_ret (o := some (jm_I _)) d_X7_isName_23 rfl ⟨Nat.le_refl _, Nat.le_refl _⟩ (jm_r_Z (by decide)) h rfl
  · have h := h.2 c1
    refine jm_aloadn d_X7_isName_8 rfl ?_
    refine jm_getR (k := 7) (ki := 7) cf_X7 (Nat.le_of_ble_eq_true rfl) f_X7_21 d_X7_isName_9 rfl rfl is_1 rfl ?_
    refine jm_getT (i := 0) (a := -11) (Nat.le_of_ble_eq_true rfl) (by decide) rfl f_X7_15 d_X7_isName_12 ?_
    obtain ⟨f2, h⟩ := h
    obtain ⟨f3, h⟩ := h
    refine jm_acmp_ne (tgt := 22) d_X7_isName_15 (by decide) f2 f3 (fun c4 => ?_) (fun c4 => ?_)
    · have h := h.1 c4
      refine jm_iconst (v := 0) d_X7_isName_22 rfl (jm_okI (by decide) (by decide)) ?_
      exact jm_ret (o := some (jm_I _)) d_X7_isName_23 rfl ⟨Nat.le_refl _, Nat.le_refl _⟩ (jm_r_Z (by decide)) h rfl
    · have h := h.2 c4
      refine jm_iconst (v := 1) d_X7_isName_18 rfl (jm_okI (by decide) (by decide)) ?_
      refine jm_goto (tgt := 23) d_X7_isName_19 (by decide) ?_
      exact jm_ret (o := some (jm_I _)) d_X7_isName_23 rfl ⟨Nat.le_refl _, Nat.le_refl _⟩ (jm_r_Z (by decide)) h rfl
/-! ('CombTable$Tape', 'isSign', '(C)Z') -/
theorem d_X7_isSign_0 : decode m_X7_isSign.2.1 0 = .ok (.aload_n 0, 1) := by decide +kernel
theorem d_X7_isSign_1 : decode m_X7_isSign.2.1 1 = .ok (.getfield 49, 3) := by decide +kernel
theorem d_X7_isSign_4 : decode m_X7_isSign.2.1 4 = .ok (.iconst 3, 1) := by decide +kernel
theorem d_X7_isSign_5 : decode m_X7_isSign.2.1 5 = .ok (.if_icmp .ne 15, 3) := by decide +kernel
theorem d_X7_isSign_8 : decode m_X7_isSign.2.1 8 = .ok (.aload_n 0, 1) := by decide +kernel
theorem d_X7_isSign_9 : decode m_X7_isSign.2.1 9 = .ok (.getfield 65, 3) := by decide +kernel
theorem d_X7_isSign_12 : decode m_X7_isSign.2.1 12 = .ok (.iload_n 1, 1) := by decide +kernel
theorem d_X7_isSign_13 : decode m_X7_isSign.2.1 13 = .ok (.if_icmp .ne 7, 3) := by decide +kernel
theorem d_X7_isSign_16 : decode m_X7_isSign.2.1 16 = .ok (.iconst 1, 1) := by decide +kernel
theorem d_X7_isSign_17 : decode m_X7_isSign.2.1 17 = .ok (.goto 4, 3) := by decide +kernel
theorem d_X7_isSign_20 : decode m_X7_isSign.2.1 20 = .ok (.iconst 0, 1) := by decide +kernel
theorem d_X7_isSign_21 : decode m_X7_isSign.2.1 21 = .ok (.ireturn, 1) := by decide +kernel
set_option maxRecDepth 20000 in
theorem e_X7_isSign {E : jm_E} {d : Nat} {μ : jm_M} {Q : Option jm_V → jm_M → Prop} {v1 : Int} (h : (∀ v ∈ ([jm_R 1, jm_I v1] : List jm_V), jm_ok v) →
  ((μ 1 4 ≠ 3 →
    Q (some (jm_I 0)) μ) ∧
   (¬ (μ 1 4 ≠ 3) →
    ((μ 1 8 ≠ v1 →
      Q (some (jm_I 0)) μ) ∧
     (¬ (μ 1 8 ≠ v1) →
      Q (some (jm_I 1)) μ))))) : jc E m_X7_isSign (d + 1) [jm_R 1, jm_I v1] μ Q := by
  refine jm_Cl.of2 (by decide +kernel) (L0 := [some (jm_R 1), some (jm_I v1)]) rfl (Nat.le_of_ble_eq_true rfl) (fun hok => ?_)
  have h := h hok
  refine jm_aloadn d_X7_isSign_0 rfl ?_
  refine jm_getI (k := 4) (ki := 4) cf_X7 (Nat.le_of_ble_eq_true rfl) f_X7_49 d_X7_isSign_1 rfl rfl is_1 rfl ?_
  refine jm_iconst (v := 3) d_X7_isSign_4 rfl (jm_okI (by decide) (by decide)) ?_
  refine jm_icmp_ne (tgt := 20) d_X7_isSign_5 (by decide) (fun c1 => ?_) (fun c1 => ?_)
  · have h := h.1 c1
    refine jm_iconst (v := 0) d_X7_isSign_20 rfl (jm_okI (by decide) (by decide)) ?_
    exact jm_ret (o := some (jm_I _)) d_X7_isSign_21 rfl ⟨Nat.le_refl _, Nat.le_refl _⟩ (jm_r_Z (by decide)) h rfl
  · have h := h.2 c1
    refine jm_aloadn d_X7_isSign_8 rfl ?_
    refine jm_getI (k := 8) (ki := 8) cf_X7 (Nat.le_of_ble_eq_true rfl) f_X7_65 d_X7_isSign_9 rfl rfl is_1 rfl ?_
    refine jm_iloadn d_X7_isSign_12 rfl ?_
    refine jm_icmp_ne (tgt := 20) d_X7_isSign_13 (by decide) (fun c2 => ?_) (fun c2 => ?_)
    · have h := h.1 c2
      refine jm_iconst (v := 0) d_X7_isSign_20 rfl (jm_okI (by decide) (by decide)) ?_
      exact jm_ret (o := some (jm_I _)) d_X7_isSign_21 rfl ⟨Nat.le_refl _, Nat.le_refl _⟩ (jm_r_Z (by decide)) h rfl
    · have h := h.2 c2
      refine jm_iconst (v := 1) d_X7_isSign_16 rfl (jm_okI (by decide) (by decide)) ?_
      refine jm_goto (tgt := 21) d_X7_isSign_17 (by decide) ?_
      exact jm_ret (o := some (jm_I _)) d_X7_isSign_21 rfl ⟨Nat.le_refl _, Nat.le_refl _⟩ (jm_r_Z (by decide)) h rfl
/-! ('CombTable$Tape', 'takes', '(C)Z') -/
theorem d_X7_takes_0 : decode m_X7_takes.2.1 0 = .ok (.aload_n 0, 1) := by decide +kernel
theorem d_X7_takes_1 : decode m_X7_takes.2.1 1 = .ok (.iload_n 1, 1) := by decide +kernel
theorem d_X7_takes_2 : decode m_X7_takes.2.1 2 = .ok (.invokevirtual 85, 3) := by decide +kernel
theorem d_X7_takes_5 : decode m_X7_takes.2.1 5 = .ok (.ifCond .ne 13, 3) := by decide +kernel
theorem d_X7_takes_8 : decode m_X7_takes.2.1 8 = .ok (.aload_n 0, 1) := by decide +kernel
theorem d_X7_takes_9 : decode m_X7_takes.2.1 9 = .ok (.iconst 1, 1) := by decide +kernel
theorem d_X7_takes_10 : decode m_X7_takes.2.1 10 = .ok (.aload_n 0, 1) := by decide +kernel
theorem d_X7_takes_11 : decode m_X7_takes.2.1 11 = .ok (.getfield 52, 3) := by decide +kernel
theorem d_X7_takes_14 : decode m_X7_takes.2.1 14 = .ok (.invokevirtual 89, 3) := by decide +kernel
theorem d_X7_takes_17 : decode m_X7_takes.2.1 17 = .ok (.ireturn, 1) := by decide +kernel
theorem d_X7_takes_18 : decode m_X7_takes.2.1 18 = .ok (.aload_n 0, 1) := by decide +kernel
theorem d_X7_takes_19 : decode m_X7_takes.2.1 19 = .ok (.invokevirtual 40, 3) := by decide +kernel
theorem d_X7_takes_22 : decode m_X7_takes.2.1 22 = .ok (.iconst 1, 1) := by decide +kernel
theorem d_X7_takes_23 : decode m_X7_takes.2.1 23 = .ok (.ireturn, 1) := by decide +kernel
set_option maxRecDepth 20000 in
theorem e_X7_takes {E : jm_E} {d : Nat} {μ : jm_M} {Q : Option jm_V → jm_M → Prop} {v1 : Int} (h : (∀ v ∈ ([jm_R 1, jm_I v1] : List jm_V), jm_ok v) →
  jc E m_X7_isSign d [jm_R 1, jm_I v1] μ (fun (o : Option jm_V) (m1 : jm_M) => ∀ r2 : Int, o = some (jm_I r2) → (r2 = 0 ∨ r2 = 1) →
  ((r2 ≠ 0 →
    jc E m_X7_advance d [jm_R 1] m1 (fun (o : Option jm_V) (m5 : jm_M) => o = none →
    Q (some (jm_I 1)) m5)) ∧
   (¬ (r2 ≠ 0) →
    jc E m_X7_fails d [jm_R 1, jm_I 1, jm_I (m1 1 5)] m1 (fun (o : Option jm_V) (m6 : jm_M) => ∀ r7 : Int, o = some (jm_I r7) → (r7 = 0 ∨ r7 = 1) →
    Q (some (jm_I r7)) m6))))) : jc E m_X7_takes (d + 1) [jm_R 1, jm_I v1] μ Q := by
  refine jm_Cl.of2 (by decide +kernel) (L0 := [some (jm_R 1), some (jm_I v1)]) rfl (Nat.le_of_ble_eq_true rfl) (fun hok => ?_)
  have h := h hok
  refine jm_aloadn d_X7_takes_0 rfl ?_
  refine jm_iloadn d_X7_takes_1 rfl ?_
  refine jm_invV (n1 := jm_N) (mc := 0) (ms := 0) (av := [jm_I _]) w_X7_isSign l_X7_85 d_X7_takes_2 rfl is_1 ⟨_, _, rfl⟩ ⟨Nat.le_refl _, Nat.le_refl _⟩ (Nat.le_of_ble_eq_true rfl) rfl ?_
  refine jm_Cl.mono h (fun o m1 h hr _ => ?_)
  obtain ⟨r2, rfl, z3⟩ := jm_rokZ hr
  have h := h _ rfl z3
  refine jm_if_ne (tgt := 18) d_X7_takes_5 (by decide) (fun c4 => ?_) (fun c4 => ?_)
  · have h := h.1 c4
    refine jm_aloadn d_X7_takes_18 rfl ?_
    refine jm_invV (n1 := jm_N) (mc := 0) (ms := 0) (av := []) w_X7_advance l_X7_40 d_X7_takes_19 rfl is_1 ⟨_, _, rfl⟩ ⟨Nat.le_refl _, Nat.le_refl _⟩ (Nat.le_of_ble_eq_true rfl) rfl ?_
    refine jm_Cl.mono h (fun o m5 h hr _ => ?_)
    obtain rfl := jm_rokV hr
    have h := h rfl
    refine jm_iconst (v := 1) d_X7_takes_22 rfl (jm_okI (by decide) (by decide)) ?_
    exact jm_ret (o := some (jm_I _)) d_X7_takes_23 rfl ⟨Nat.le_refl _, Nat.le_refl _⟩ (jm_r_Z (by decide)) h rfl
  · have h := h.2 c4
    refine jm_aloadn d_X7_takes_8 rfl ?_
    refine jm_iconst (v := 1) d_X7_takes_9 rfl (jm_okI (by decide) (by decide)) ?_
    refine jm_aloadn d_X7_takes_10 rfl ?_
    refine jm_getI (k := 5) (ki := 5) cf_X7 (Nat.le_of_ble_eq_true rfl) f_X7_52 d_X7_takes_11 rfl rfl is_1 rfl ?_
    refine jm_invV (n1 := jm_N) (mc := 0) (ms := 0) (av := [jm_I _, jm_I _]) w_X7_fails l_X7_89 d_X7_takes_14 rfl is_1 ⟨_, _, rfl⟩ ⟨Nat.le_refl _, Nat.le_refl _⟩ (Nat.le_of_ble_eq_true rfl) rfl ?_
    refine jm_Cl.mono h (fun o m6 h hr _ => ?_)
    obtain ⟨r7, rfl, z8⟩ := jm_rokZ hr
    have h := h _ rfl z8
    exact jm_ret (o := some (jm_I _)) d_X7_takes_17 rfl ⟨Nat.le_refl _, Nat.le_refl _⟩ (jm_r_Z z8) h rfl
/-! ('CombTable$Tape', 'isNumber', '(II)Z') -/
theorem d_X7_isNumber_0 : decode m_X7_isNumber.2.1 0 = .ok (.aload_n 0, 1) := by decide +kernel
theorem d_X7_isNumber_1 : decode m_X7_isNumber.2.1 1 = .ok (.getfield 49, 3) := by decide +kernel
theorem d_X7_isNumber_4 : decode m_X7_isNumber.2.1 4 = .ok (.iconst 2, 1) := by decide +kernel
theorem d_X7_isNumber_5 : decode m_X7_isNumber.2.1 5 = .ok (.if_icmp .eq 13, 3) := by decide +kernel
theorem d_X7_isNumber_8 : decode m_X7_isNumber.2.1 8 = .ok (.aload_n 0, 1) := by decide +kernel
theorem d_X7_isNumber_9 : decode m_X7_isNumber.2.1 9 = .ok (.iconst 1, 1) := by decide +kernel
theorem d_X7_isNumber_10 : decode m_X7_isNumber.2.1 10 = .ok (.aload_n 0, 1) := by decide +kernel
theorem d_X7_isNumber_11 : decode m_X7_isNumber.2.1 11 = .ok (.getfield 52, 3) := by decide +kernel
theorem d_X7_isNumber_14 : decode m_X7_isNumber.2.1 14 = .ok (.invokevirtual 89, 3) := by decide +kernel
theorem d_X7_isNumber_17 : decode m_X7_isNumber.2.1 17 = .ok (.ireturn, 1) := by decide +kernel
theorem d_X7_isNumber_18 : decode m_X7_isNumber.2.1 18 = .ok (.aload_n 0, 1) := by decide +kernel
theorem d_X7_isNumber_19 : decode m_X7_isNumber.2.1 19 = .ok (.getfield 65, 3) := by decide +kernel
theorem d_X7_isNumber_22 : decode m_X7_isNumber.2.1 22 = .ok (.iload_n 1, 1) := by decide +kernel
theorem d_X7_isNumber_23 : decode m_X7_isNumber.2.1 23 = .ok (.if_icmp .lt 11, 3) := by decide +kernel
theorem d_X7_isNumber_26 : decode m_X7_isNumber.2.1 26 = .ok (.aload_n 0, 1) := by decide +kernel
theorem d_X7_isNumber_27 : decode m_X7_isNumber.2.1 27 = .ok (.getfield 65, 3) := by decide +kernel
theorem d_X7_isNumber_30 : decode m_X7_isNumber.2.1 30 = .ok (.iload_n 2, 1) := by decide +kernel
theorem d_X7_isNumber_31 : decode m_X7_isNumber.2.1 31 = .ok (.if_icmp .le 15, 3) := by decide +kernel
theorem d_X7_isNumber_34 : decode m_X7_isNumber.2.1 34 = .ok (.aload_n 0, 1) := by decide +kernel
theorem d_X7_isNumber_35 : decode m_X7_isNumber.2.1 35 = .ok (.iconst 2, 1) := by decide +kernel
theorem d_X7_isNumber_36 : decode m_X7_isNumber.2.1 36 = .ok (.aload_n 0, 1) := by decide +kernel
theorem d_X7_isNumber_37 : decode m_X7_isNumber.2.1 37 = .ok (.getfield 52, 3) := by decide +kernel
theorem d_X7_isNumber_40 : decode m_X7_isNumber.2.1 40 = .ok (.invokevirtual 89, 3) := by decide +kernel
theorem d_X7_isNumber_43 : decode m_X7_isNumber.2.1 43 = .ok (.ifCond .eq 7, 3) := by decide +kernel
theorem d_X7_isNumber_46 : decode m_X7_isNumber.2.1 46 = .ok (.iconst 1, 1) := by decide +kernel
theorem d_X7_isNumber_47 : decode m_X7_isNumber.2.1 47 = .ok (.goto 4, 3) := by decide +kernel
theorem d_X7_isNumber_50 : decode m_X7_isNumber.2.1 50 = .ok (.iconst 0, 1) := by decide +kernel
theorem d_X7_isNumber_51 : decode m_X7_isNumber.2.1 51 = .ok (.ireturn, 1) := by decide +kernel
set_option maxRecDepth 20000 in
theorem e_X7_isNumber {E : jm_E} {d : Nat} {μ : jm_M} {Q : Option jm_V → jm_M → Prop} {v1 v2 : Int} (h : (∀ v ∈ ([jm_R 1, jm_I v1, jm_I v2] : List jm_V), jm_ok v) →
  ((μ 1 4 = 2 →
    ((μ 1 8 < v1 →
      jc E m_X7_fails d [jm_R 1, jm_I 2, jm_I (μ 1 5)] μ (fun (o : Option jm_V) (m3 : jm_M) => ∀ r4 : Int, o = some (jm_I r4) → (r4 = 0 ∨ r4 = 1) →
      ((r4 = 0 →
        Q (some (jm_I 0)) m3) ∧
       (¬ (r4 = 0) →
        Q (some (jm_I 1)) m3)))) ∧
     (¬ (μ 1 8 < v1) →
      ((μ 1 8 ≤ v2 →
        Q (some (jm_I 1)) μ) ∧
       (¬ (μ 1 8 ≤ v2) →
        jc E m_X7_fails d [jm_R 1, jm_I 2, jm_I (μ 1 5)] μ (fun (o : Option jm_V) (m8 : jm_M) => ∀ r9 : Int, o = some (jm_I r9) → (r9 = 0 ∨ r9 = 1) →
        ((r9 = 0 →
          Q (some (jm_I 0)) m8) ∧
         (¬ (r9 = 0) →
          Q (some (jm_I 1)) m8)))))))) ∧
   (¬ (μ 1 4 = 2) →
    jc E m_X7_fails d [jm_R 1, jm_I 1, jm_I (μ 1 5)] μ (fun (o : Option jm_V) (m12 : jm_M) => ∀ r13 : Int, o = some (jm_I r13) → (r13 = 0 ∨ r13 = 1) →
    Q (some (jm_I r13)) m12)))) : jc E m_X7_isNumber (d + 1) [jm_R 1, jm_I v1, jm_I v2] μ Q := by
  refine jm_Cl.of2 (by decide +kernel) (L0 := [some (jm_R 1), some (jm_I v1), some (jm_I v2)]) rfl (Nat.le_of_ble_eq_true rfl) (fun hok => ?_)
  have h := h hok
  refine jm_aloadn d_X7_isNumber_0 rfl ?_
  refine jm_getI (k := 4) (ki := 4) cf_X7 (Nat.le_of_ble_eq_true rfl) f_X7_49 d_X7_isNumber_1 rfl rfl is_1 rfl ?_
  refine jm_iconst (v := 2) d_X7_isNumber_4 rfl (jm_okI (by decide) (by decide)) ?_
  refine jm_icmp_eq (tgt := 18) d_X7_isNumber_5 (by decide) (fun c1 => ?_) (fun c1 => ?_)
  · have h := h.1 c1
    refine jm_aloadn d_X7_isNumber_18 rfl ?_
    refine jm_getI (k := 8) (ki := 8) cf_X7 (Nat.le_of_ble_eq_true rfl) f_X7_65 d_X7_isNumber_19 rfl rfl is_1 rfl ?_
    refine jm_iloadn d_X7_isNumber_22 rfl ?_
    refine jm_icmp_lt (tgt := 34) d_X7_isNumber_23 (by decide) (fun c2 => ?_) (fun c2 => ?_)
    · have h := h.1 c2
      refine jm_aloadn d_X7_isNumber_34 rfl ?_
      refine jm_iconst (v := 2) d_X7_isNumber_35 rfl (jm_okI (by decide) (by decide)) ?_
      refine jm_aloadn d_X7_isNumber_36 rfl ?_
      refine jm_getI (k := 5) (ki := 5) cf_X7 (Nat.le_of_ble_eq_true rfl) f_X7_52 d_X7_isNumber_37 rfl rfl is_1 rfl ?_
      refine jm_invV (n1 := jm_N) (mc := 0) (ms := 0) (av := [jm_I _, jm_I _]) w_X7_fails l_X7_89 d_X7_isNumber_40 rfl is_1 ⟨_, _, rfl⟩ ⟨Nat.le_refl _, Nat.le_refl _⟩ (Nat.le_of_ble_eq_true rfl) rfl ?_
      refine jm_Cl.mono h (fun o m3 h hr _ => ?_)
      obtain ⟨r4, rfl, z5⟩ := jm_rokZ hr
      have h := h _ rfl z5
      refine jm_if_eq (tgt := 50) d_X7_isNumber_43 (by decide) (fun c6 => ?_) (fun c6 => ?_)
      · have h := h.1 c6
        refine jm_iconst (v := 0) d_X7_isNumber_50 rfl (jm_okI (by decide) (by decide)) ?_
        exact jm_ret (o := some (jm_I _)) d_X7_isNumber_51 rfl ⟨Nat.le_refl _, Nat.le_refl _⟩ (jm_r_Z (by decide)) h rfl
      · have h := h.2 c6
        refine jm_iconst (v := 1) d_X7_isNumber_46 rfl (jm_okI (by decide) (by decide)) ?_
        refine jm_goto (tgt := 51) d_X7_isNumber_47 (by decide) ?_
        exact jm_ret (o := some (jm_I _)) d_X7_isNumber_51 rfl ⟨Nat.le_refl _, Nat.le_refl _⟩ (jm_r_Z (by decide)) h rfl
    · have h := h.2 c2
      refine jm_aloadn d_X7_isNumber_26 rfl ?_
      refine jm_getI (k := 8) (ki := 8) cf_X7 (Nat.le_of_ble_eq_true rfl) f_X7_65 d_X7_isNumber_27 rfl rfl is_1 rfl ?_
      refine jm_iloadn d_X7_isNumber_30 rfl ?_
      refine jm_icmp_le (tgt := 46) d_X7_isNumber_31 (by decide) (fun c7 => ?_) (fun c7 => ?_)
      · have h := h.1 c7
        refine jm_iconst (v := 1) d_X7_isNumber_46 rfl (jm_okI (by decide) (by decide)) ?_
        refine jm_goto (tgt := 51) d_X7_isNumber_47 (by decide) ?_
        exact jm_ret (o := some (jm_I _)) d_X7_isNumber_51 rfl ⟨Nat.le_refl _, Nat.le_refl _⟩ (jm_r_Z (by decide)) h rfl
      · have h := h.2 c7
        refine jm_aloadn d_X7_isNumber_34 rfl ?_
        refine jm_iconst (v := 2) d_X7_isNumber_35 rfl (jm_okI (by decide) (by decide)) ?_
        refine jm_aloadn d_X7_isNumber_36 rfl ?_
        refine jm_getI (k := 5) (ki := 5) cf_X7 (Nat.le_of_ble_eq_true rfl) f_X7_52 d_X7_isNumber_37 rfl rfl is_1 rfl ?_
        refine jm_invV (n1 := jm_N) (mc := 0) (ms := 0) (av := [jm_I _, jm_I _]) w_X7_fails l_X7_89 d_X7_isNumber_40 rfl is_1 ⟨_, _, rfl⟩ ⟨Nat.le_refl _, Nat.le_refl _⟩ (Nat.le_of_ble_eq_true rfl) rfl ?_
        refine jm_Cl.mono h (fun o m8 h hr _ => ?_)
        obtain ⟨r9, rfl, z10⟩ := jm_rokZ hr
        have h := h _ rfl z10
        refine jm_if_eq (tgt := 50) d_X7_isNumber_43 (by decide) (fun c11 => ?_) (fun c11 => ?_)
        · have h := h.1 c11
          refine jm_iconst (v := 0) d_X7_isNumber_50 rfl (jm_okI (by decide) (by decide)) ?_
          exact jm_ret (o := some (jm_I _)) d_X7_isNumber_51 rfl ⟨Nat.le_refl _, Nat.le_refl _⟩ (jm_r_Z (by decide)) h rfl
        · have h := h.2 c11
          refine jm_iconst (v := 1) d_X7_isNumber_46 rfl (jm_okI (by decide) (by decide)) ?_
          refine jm_goto (tgt := 51) d_X7_isNumber_47 (by decide) ?_
          exact jm_ret (o := some (jm_I _)) d_X7_isNumber_51 rfl ⟨Nat.le_refl _, Nat.le_refl _⟩ (jm_r_Z (by decide)) h rfl
  · have h := h.2 c1
    refine jm_aloadn d_X7_isNumber_8 rfl ?_
    refine jm_iconst (v := 1) d_X7_isNumber_9 rfl (jm_okI (by decide) (by decide)) ?_
    refine jm_aloadn d_X7_isNumber_10 rfl ?_
    refine jm_getI (k := 5) (ki := 5) cf_X7 (Nat.le_of_ble_eq_true rfl) f_X7_52 d_X7_isNumber_11 rfl rfl is_1 rfl ?_
    refine jm_invV (n1 := jm_N) (mc := 0) (ms := 0) (av := [jm_I _, jm_I _]) w_X7_fails l_X7_89 d_X7_isNumber_14 rfl is_1 ⟨_, _, rfl⟩ ⟨Nat.le_refl _, Nat.le_refl _⟩ (Nat.le_of_ble_eq_true rfl) rfl ?_
    refine jm_Cl.mono h (fun o m12 h hr _ => ?_)
    obtain ⟨r13, rfl, z14⟩ := jm_rokZ hr
    have h := h _ rfl z14
    exact jm_ret (o := some (jm_I _)) d_X7_isNumber_17 rfl ⟨Nat.le_refl _, Nat.le_refl _⟩ (jm_r_Z z14) h rfl
/-! ('CombTable$Tape', 'closes', '()Z') -/
theorem d_X7_closes_0 : decode m_X7_closes.2.1 0 = .ok (.aload_n 0, 1) := by decide +kernel
theorem d_X7_closes_1 : decode m_X7_closes.2.1 1 = .ok (.getfield 49, 3) := by decide +kernel
theorem d_X7_closes_4 : decode m_X7_closes.2.1 4 = .ok (.ifCond .ne 14, 3) := by decide +kernel
theorem d_X7_closes_7 : decode m_X7_closes.2.1 7 = .ok (.aload_n 0, 1) := by decide +kernel
theorem d_X7_closes_8 : decode m_X7_closes.2.1 8 = .ok (.getfield 24, 3) := by decide +kernel
theorem d_X7_closes_11 : decode m_X7_closes.2.1 11 = .ok (.aload_n 0, 1) := by decide +kernel
theorem d_X7_closes_12 : decode m_X7_closes.2.1 12 = .ok (.getfield 28, 3) := by decide +kernel
theorem d_X7_closes_15 : decode m_X7_closes.2.1 15 = .ok (.if_icmp .le 15, 3) := by decide +kernel
theorem d_X7_closes_18 : decode m_X7_closes.2.1 18 = .ok (.aload_n 0, 1) := by decide +kernel
theorem d_X7_closes_19 : decode m_X7_closes.2.1 19 = .ok (.iconst 1, 1) := by decide +kernel
theorem d_X7_closes_20 : decode m_X7_closes.2.1 20 = .ok (.aload_n 0, 1) := by decide +kernel
theorem d_X7_closes_21 : decode m_X7_closes.2.1 21 = .ok (.getfield 52, 3) := by decide +kernel
theorem d_X7_closes_24 : decode m_X7_closes.2.1 24 = .ok (.invokevirtual 89, 3) := by decide +kernel
theorem d_X7_closes_27 : decode m_X7_closes.2.1 27 = .ok (.ifCond .eq 7, 3) := by decide +kernel
theorem d_X7_closes_30 : decode m_X7_closes.2.1 30 = .ok (.iconst 1, 1) := by decide +kernel
theorem d_X7_closes_31 : decode m_X7_closes.2.1 31 = .ok (.goto 4, 3) := by decide +kernel
theorem d_X7_closes_34 : decode m_X7_closes.2.1 34 = .ok (.iconst 0, 1) := by decide +kernel
theorem d_X7_closes_35 : decode m_X7_closes.2.1 35 = .ok (.ireturn, 1) := by decide +kernel
set_option maxRecDepth 20000 in
theorem e_X7_closes {E : jm_E} {d : Nat} {μ : jm_M} {Q : Option jm_V → jm_M → Prop}  (h : (∀ v ∈ ([jm_R 1] : List jm_V), jm_ok v) →
  ((μ 1 4 ≠ 0 →
    jc E m_X7_fails d [jm_R 1, jm_I 1, jm_I (μ 1 5)] μ (fun (o : Option jm_V) (m2 : jm_M) => ∀ r3 : Int, o = some (jm_I r3) → (r3 = 0 ∨ r3 = 1) →
    ((r3 = 0 →
      Q (some (jm_I 0)) m2) ∧
     (¬ (r3 = 0) →
      Q (some (jm_I 1)) m2)))) ∧
   (¬ (μ 1 4 ≠ 0) →
    ((μ 1 1 ≤ μ 1 2 →
      Q (some (jm_I 1)) μ) ∧
     (¬ (μ 1 1 ≤ μ 1 2) →
      jc E m_X7_fails d [jm_R 1, jm_I 1, jm_I (μ 1 5)] μ (fun (o : Option jm_V) (m7 : jm_M) => ∀ r8 : Int, o = some (jm_I r8) → (r8 = 0 ∨ r8 = 1) →
      ((r8 = 0 →
        Q (some (jm_I 0)) m7) ∧
       (¬ (r8 = 0) →
        Q (some (jm_I 1)) m7)))))))) : jc E m_X7_closes (d + 1) [jm_R 1] μ Q := by
  refine jm_Cl.of2 (by decide +kernel) (L0 := [some (jm_R 1)]) rfl (Nat.le_of_ble_eq_true rfl) (fun hok => ?_)
  have h := h hok
  refine jm_aloadn d_X7_closes_0 rfl ?_
  refine jm_getI (k := 4) (ki := 4) cf_X7 (Nat.le_of_ble_eq_true rfl) f_X7_49 d_X7_closes_1 rfl rfl is_1 rfl ?_
  refine jm_if_ne (tgt := 18) d_X7_closes_4 (by decide) (fun c1 => ?_) (fun c1 => ?_)
  · have h := h.1 c1
    refine jm_aloadn d_X7_closes_18 rfl ?_
    refine jm_iconst (v := 1) d_X7_closes_19 rfl (jm_okI (by decide) (by decide)) ?_
    refine jm_aloadn d_X7_closes_20 rfl ?_
    refine jm_getI (k := 5) (ki := 5) cf_X7 (Nat.le_of_ble_eq_true rfl) f_X7_52 d_X7_closes_21 rfl rfl is_1 rfl ?_
    refine jm_invV (n1 := jm_N) (mc := 0) (ms := 0) (av := [jm_I _, jm_I _]) w_X7_fails l_X7_89 d_X7_closes_24 rfl is_1 ⟨_, _, rfl⟩ ⟨Nat.le_refl _, Nat.le_refl _⟩ (Nat.le_of_ble_eq_true rfl) rfl ?_
    refine jm_Cl.mono h (fun o m2 h hr _ => ?_)
    obtain ⟨r3, rfl, z4⟩ := jm_rokZ hr
    have h := h _ rfl z4
    refine jm_if_eq (tgt := 34) d_X7_closes_27 (by decide) (fun c5 => ?_) (fun c5 => ?_)
    · have h := h.1 c5
      refine jm_iconst (v := 0) d_X7_closes_34 rfl (jm_okI (by decide) (by decide)) ?_
      exact jm_ret (o := some (jm_I _)) d_X7_closes_35 rfl ⟨Nat.le_refl _, Nat.le_refl _⟩ (jm_r_Z (by decide)) h rfl
    · have h := h.2 c5
      refine jm_iconst (v := 1) d_X7_closes_30 rfl (jm_okI (by decide) (by decide)) ?_
      refine jm_goto (tgt := 35) d_X7_closes_31 (by decide) ?_
      exact jm_ret (o := some (jm_I _)) d_X7_closes_35 rfl ⟨Nat.le_refl _, Nat.le_refl _⟩ (jm_r_Z (by decide)) h rfl
  · have h := h.2 c1
    refine jm_aloadn d_X7_closes_7 rfl ?_
    refine jm_getI (k := 1) (ki := 1) cf_X7 (Nat.le_of_ble_eq_true rfl) f_X7_24 d_X7_closes_8 rfl rfl is_1 rfl ?_
    refine jm_aloadn d_X7_closes_11 rfl ?_
    refine jm_getI (k := 2) (ki := 2) cf_X7 (Nat.le_of_ble_eq_true rfl) f_X7_28 d_X7_closes_12 rfl rfl is_1 rfl ?_
    refine jm_icmp_le (tgt := 30) d_X7_closes_15 (by decide) (fun c6 => ?_) (fun c6 => ?_)
    · have h := h.1 c6
      refine jm_iconst (v := 1) d_X7_closes_30 rfl (jm_okI (by decide) (by decide)) ?_
      refine jm_goto (tgt := 35) d_X7_closes_31 (by decide) ?_
      exact jm_ret (o := some (jm_I _)) d_X7_closes_35 rfl ⟨Nat.le_refl _, Nat.le_refl _⟩ (jm_r_Z (by decide)) h rfl
    · have h := h.2 c6
      refine jm_aloadn d_X7_closes_18 rfl ?_
      refine jm_iconst (v := 1) d_X7_closes_19 rfl (jm_okI (by decide) (by decide)) ?_
      refine jm_aloadn d_X7_closes_20 rfl ?_
      refine jm_getI (k := 5) (ki := 5) cf_X7 (Nat.le_of_ble_eq_true rfl) f_X7_52 d_X7_closes_21 rfl rfl is_1 rfl ?_
      refine jm_invV (n1 := jm_N) (mc := 0) (ms := 0) (av := [jm_I _, jm_I _]) w_X7_fails l_X7_89 d_X7_closes_24 rfl is_1 ⟨_, _, rfl⟩ ⟨Nat.le_refl _, Nat.le_refl _⟩ (Nat.le_of_ble_eq_true rfl) rfl ?_
      refine jm_Cl.mono h (fun o m7 h hr _ => ?_)
      obtain ⟨r8, rfl, z9⟩ := jm_rokZ hr
      have h := h _ rfl z9
      refine jm_if_eq (tgt := 34) d_X7_closes_27 (by decide) (fun c10 => ?_) (fun c10 => ?_)
      · have h := h.1 c10
        refine jm_iconst (v := 0) d_X7_closes_34 rfl (jm_okI (by decide) (by decide)) ?_
        exact jm_ret (o := some (jm_I _)) d_X7_closes_35 rfl ⟨Nat.le_refl _, Nat.le_refl _⟩ (jm_r_Z (by decide)) h rfl
      · have h := h.2 c10
        refine jm_iconst (v := 1) d_X7_closes_30 rfl (jm_okI (by decide) (by decide)) ?_
        refine jm_goto (tgt := 35) d_X7_closes_31 (by decide) ?_
        exact jm_ret (o := some (jm_I _)) d_X7_closes_35 rfl ⟨Nat.le_refl _, Nat.le_refl _⟩ (jm_r_Z (by decide)) h rfl
/-! ('CombTable$Tape', 'kindHere', '(LCombTable$Table;)I') -/
theorem d_X7_kindHere_0 : decode m_X7_kindHere.2.1 0 = .ok (.aload_n 0, 1) := by decide +kernel
theorem d_X7_kindHere_1 : decode m_X7_kindHere.2.1 1 = .ok (.invokevirtual 93, 3) := by decide +kernel
theorem d_X7_kindHere_4 : decode m_X7_kindHere.2.1 4 = .ok (.ifCond .eq 14, 3) := by decide +kernel
theorem d_X7_kindHere_7 : decode m_X7_kindHere.2.1 7 = .ok (.aload_n 1, 1) := by decide +kernel
theorem d_X7_kindHere_8 : decode m_X7_kindHere.2.1 8 = .ok (.aload_n 0, 1) := by decide +kernel
theorem d_X7_kindHere_9 : decode m_X7_kindHere.2.1 9 = .ok (.getfield 68, 3) := by decide +kernel
theorem d_X7_kindHere_12 : decode m_X7_kindHere.2.1 12 = .ok (.invokevirtual 103, 3) := by decide +kernel
theorem d_X7_kindHere_15 : decode m_X7_kindHere.2.1 15 = .ok (.goto 4, 3) := by decide +kernel
theorem d_X7_kindHere_18 : decode m_X7_kindHere.2.1 18 = .ok (.iconst (-1), 1) := by decide +kernel
theorem d_X7_kindHere_19 : decode m_X7_kindHere.2.1 19 = .ok (.istore_n 2, 1) := by decide +kernel
theorem d_X7_kindHere_20 : decode m_X7_kindHere.2.1 20 = .ok (.iload_n 2, 1) := by decide +kernel
theorem d_X7_kindHere_21 : decode m_X7_kindHere.2.1 21 = .ok (.iconst (-1), 1) := by decide +kernel
theorem d_X7_kindHere_22 : decode m_X7_kindHere.2.1 22 = .ok (.if_icmp .ne 24, 3) := by decide +kernel
theorem d_X7_kindHere_25 : decode m_X7_kindHere.2.1 25 = .ok (.aload_n 0, 1) := by decide +kernel
theorem d_X7_kindHere_26 : decode m_X7_kindHere.2.1 26 = .ok (.aload_n 0, 1) := by decide +kernel
theorem d_X7_kindHere_27 : decode m_X7_kindHere.2.1 27 = .ok (.invokevirtual 93, 3) := by decide +kernel
theorem d_X7_kindHere_30 : decode m_X7_kindHere.2.1 30 = .ok (.ifCond .eq 7, 3) := by decide +kernel
theorem d_X7_kindHere_33 : decode m_X7_kindHere.2.1 33 = .ok (.iconst 3, 1) := by decide +kernel
theorem d_X7_kindHere_34 : decode m_X7_kindHere.2.1 34 = .ok (.goto 4, 3) := by decide +kernel
theorem d_X7_kindHere_37 : decode m_X7_kindHere.2.1 37 = .ok (.iconst 1, 1) := by decide +kernel
theorem d_X7_kindHere_38 : decode m_X7_kindHere.2.1 38 = .ok (.aload_n 0, 1) := by decide +kernel
theorem d_X7_kindHere_39 : decode m_X7_kindHere.2.1 39 = .ok (.getfield 52, 3) := by decide +kernel
theorem d_X7_kindHere_42 : decode m_X7_kindHere.2.1 42 = .ok (.invokevirtual 89, 3) := by decide +kernel
theorem d_X7_kindHere_45 : decode m_X7_kindHere.2.1 45 = .ok (.pop, 1) := by decide +kernel
theorem d_X7_kindHere_46 : decode m_X7_kindHere.2.1 46 = .ok (.iload_n 2, 1) := by decide +kernel
theorem d_X7_kindHere_47 : decode m_X7_kindHere.2.1 47 = .ok (.ireturn, 1) := by decide +kernel
set_option maxRecDepth 20000 in
theorem e_X7_kindHere {E : jm_E} {d : Nat} {μ : jm_M} {Q : Option jm_V → jm_M → Prop} {v1 : Int} (h : (∀ v ∈ ([jm_R 1, jm_R v1] : List jm_V), jm_ok v) →
  jc E m_X7_isName d [jm_R 1] μ (fun (o : Option jm_V) (m1 : jm_M) => ∀ r2 : Int, o = some (jm_I r2) → (r2 = 0 ∨ r2 = 1) →
  ((r2 = 0 →
    jc E m_X7_isName d [jm_R 1] m1 (fun (o : Option jm_V) (m6 : jm_M) => ∀ r7 : Int, o = some (jm_I r7) → (r7 = 0 ∨ r7 = 1) →
    ((r7 = 0 →
      jc E m_X7_fails d [jm_R 1, jm_I 1, jm_I (m6 1 5)] m6 (fun (o : Option jm_V) (m10 : jm_M) => ∀ r11 : Int, o = some (jm_I r11) → (r11 = 0 ∨ r11 = 1) →
      Q (some (jm_I ((-1)))) m10)) ∧
     (¬ (r7 = 0) →
      jc E m_X7_fails d [jm_R 1, jm_I 3, jm_I (m6 1 5)] m6 (fun (o : Option jm_V) (m13 : jm_M) => ∀ r14 : Int, o = some (jm_I r14) → (r14 = 0 ∨ r14 = 1) →
      Q (some (jm_I ((-1)))) m13))))) ∧
   (¬ (r2 = 0) →
    (jm_is jm_N v1 1 5) ∧
    jc E m_X5_kindNamed d [jm_R v1, jm_L (m1 1 6)] m1 (fun (o : Option jm_V) (m16 : jm_M) => ∀ r18 : Int, o = some (jm_I r18) →
    ((r18 ≠ ((-1)) →
      Q (some (jm_I r18)) m16) ∧
     (¬ (r18 ≠ ((-1))) →
      jc E m_X7_isName d [jm_R 1] m16 (fun (o : Option jm_V) (m20 : jm_M) => ∀ r21 : Int, o = some (jm_I r21) → (r21 = 0 ∨ r21 = 1) →
      ((r21 = 0 →
        jc E m_X7_fails d [jm_R 1, jm_I 1, jm_I (m20 1 5)] m20 (fun (o : Option jm_V) (m24 : jm_M) => ∀ r25 : Int, o = some (jm_I r25) → (r25 = 0 ∨ r25 = 1) →
        Q (some (jm_I r18)) m24)) ∧
       (¬ (r21 = 0) →
        jc E m_X7_fails d [jm_R 1, jm_I 3, jm_I (m20 1 5)] m20 (fun (o : Option jm_V) (m27 : jm_M) => ∀ r28 : Int, o = some (jm_I r28) → (r28 = 0 ∨ r28 = 1) →
        Q (some (jm_I r18)) m27))))))))))) : jc E m_X7_kindHere (d + 1) [jm_R 1, jm_R v1] μ Q := by
  refine jm_Cl.of2 (by decide +kernel) (L0 := [some (jm_R 1), some (jm_R v1), none]) rfl (Nat.le_of_ble_eq_true rfl) (fun hok => ?_)
  have h := h hok
  refine jm_aloadn d_X7_kindHere_0 rfl ?_
  refine jm_invV (n1 := jm_N) (mc := 0) (ms := 0) (av := []) w_X7_isName l_X7_93 d_X7_kindHere_1 rfl is_1 ⟨_, _, rfl⟩ ⟨Nat.le_refl _, Nat.le_refl _⟩ (Nat.le_of_ble_eq_true rfl) rfl ?_
  refine jm_Cl.mono h (fun o m1 h hr _ => ?_)
  obtain ⟨r2, rfl, z3⟩ := jm_rokZ hr
  have h := h _ rfl z3
  refine jm_if_eq (tgt := 18) d_X7_kindHere_4 (by decide) (fun c4 => ?_) (fun c4 => ?_)
  · have h := h.1 c4
    refine jm_iconst (v := (-1)) d_X7_kindHere_18 rfl (jm_okI (by decide) (by decide)) ?_
    refine jm_istoren (L' := [some (jm_R _), some (jm_R _), some (jm_I _)]) d_X7_kindHere_19 (Nat.le_of_ble_eq_true rfl) rfl ?_
    refine jm_iloadn d_X7_kindHere_20 rfl ?_
    refine jm_iconst (v := (-1)) d_X7_kindHere_21 rfl (jm_okI (by decide) (by decide)) ?_
    refine jm_icmp_ne (tgt := 46) d_X7_kindHere_22 (by decide) (fun c5 => absurd c5 (by decide)) (fun _ => ?_)
    refine jm_aloadn d_X7_kindHere_25 rfl ?_
    refine jm_aloadn d_X7_kindHere_26 rfl ?_
    refine jm_invV (n1 := jm_N) (mc := 0) (ms := 0) (av := []) w_X7_isName l_X7_93 d_X7_kindHere_27 rfl is_1 ⟨_, _, rfl⟩ ⟨Nat.le_refl _, Nat.le_refl _⟩ (Nat.le_of_ble_eq_true rfl) rfl ?_
    refine jm_Cl.mono h (fun o m6 h hr _ => ?_)
    obtain ⟨r7, rfl, z8⟩ := jm_rokZ hr
    have h := h _ rfl z8
    refine jm_if_eq (tgt := 37) d_X7_kindHere_30 (by decide) (fun c9 => ?_) (fun c9 => ?_)
    · have h := h.1 c9
      refine jm_iconst (v := 1) d_X7_kindHere_37 rfl (jm_okI (by decide) (by decide)) ?_
      refine jm_aloadn d_X7_kindHere_38 rfl ?_
      refine jm_getI (k := 5) (ki := 5) cf_X7 (Nat.le_of_ble_eq_true rfl) f_X7_52 d_X7_kindHere_39 rfl rfl is_1 rfl ?_
      refine jm_invV (n1 := jm_N) (mc := 0) (ms := 0) (av := [jm_I _, jm_I _]) w_X7_fails l_X7_89 d_X7_kindHere_42 rfl is_1 ⟨_, _, rfl⟩ ⟨Nat.le_refl _, Nat.le_refl _⟩ (Nat.le_of_ble_eq_true rfl) rfl ?_
      refine jm_Cl.mono h (fun o m10 h hr _ => ?_)
      obtain ⟨r11, rfl, z12⟩ := jm_rokZ hr
      have h := h _ rfl z12
      refine jm_pop rfl d_X7_kindHere_45 ?_
      refine jm_iloadn d_X7_kindHere_46 rfl ?_
      exact jm_ret (o := some (jm_I _)) d_X7_kindHere_47 rfl ⟨Nat.le_refl _, Nat.le_refl _⟩ jm_r_I h rfl
    · have h := h.2 c9
      refine jm_iconst (v := 3) d_X7_kindHere_33 rfl (jm_okI (by decide) (by decide)) ?_
      refine jm_goto (tgt := 38) d_X7_kindHere_34 (by decide) ?_
      refine jm_aloadn d_X7_kindHere_38 rfl ?_
      refine jm_getI (k := 5) (ki := 5) cf_X7 (Nat.le_of_ble_eq_true rfl) f_X7_52 d_X7_kindHere_39 rfl rfl is_1 rfl ?_
      refine jm_invV (n1 := jm_N) (mc := 0) (ms := 0) (av := [jm_I _, jm_I _]) w_X7_fails l_X7_89 d_X7_kindHere_42 rfl is_1 ⟨_, _, rfl⟩ ⟨Nat.le_refl _, Nat.le_refl _⟩ (Nat.le_of_ble_eq_true rfl) rfl ?_
      refine jm_Cl.mono h (fun o m13 h hr _ => ?_)
      obtain ⟨r14, rfl, z15⟩ := jm_rokZ hr
      have h := h _ rfl z15
      refine jm_pop rfl d_X7_kindHere_45 ?_
      refine jm_iloadn d_X7_kindHere_46 rfl ?_
      exact jm_ret (o := some (jm_I _)) d_X7_kindHere_47 rfl ⟨Nat.le_refl _, Nat.le_refl _⟩ jm_r_I h rfl
  · have h := h.2 c4
    refine jm_aloadn d_X7_kindHere_7 rfl ?_
    refine jm_aloadn d_X7_kindHere_8 rfl ?_
    refine jm_getL (k := 6) (ki := 6) cf_X7 (Nat.le_of_ble_eq_true rfl) f_X7_68 d_X7_kindHere_9 rfl rfl is_1 rfl ?_
    obtain ⟨f17, h⟩ := h
    refine jm_invV (n1 := jm_N) (mc := 0) (ms := 0) (av := [jm_L _]) w_X5_kindNamed l_X7_103 d_X7_kindHere_12 rfl f17 ⟨_, _, rfl⟩ ⟨Nat.le_refl _, Nat.le_refl _⟩ (Nat.le_of_ble_eq_true rfl) rfl ?_
    refine jm_Cl.mono h (fun o m16 h hr _ => ?_)
    obtain ⟨r18, rfl⟩ := jm_rokI hr
    have h := h _ rfl
    refine jm_goto (tgt := 19) d_X7_kindHere_15 (by decide) ?_
    refine jm_istoren (L' := [some (jm_R _), some (jm_R _), some (jm_I _)]) d_X7_kindHere_19 (Nat.le_of_ble_eq_true rfl) rfl ?_
    refine jm_iloadn d_X7_kindHere_20 rfl ?_
    refine jm_iconst (v := (-1)) d_X7_kindHere_21 rfl (jm_okI (by decide) (by decide)) ?_
    refine jm_icmp_ne (tgt := 46) d_X7_kindHere_22 (by decide) (fun c19 => ?_) (fun c19 => ?_)
    · have h := h.1 c19
      refine jm_iloadn d_X7_kindHere_46 rfl ?_
      exact jm_ret (o := some (jm_I _)) d_X7_kindHere_47 rfl ⟨Nat.le_refl _, Nat.le_refl _⟩ jm_r_I h rfl
    · have h := h.2 c19
      refine jm_aloadn d_X7_kindHere_25 rfl ?_
      refine jm_aloadn d_X7_kindHere_26 rfl ?_
      refine jm_invV (n1 := jm_N) (mc := 0) (ms := 0) (av := []) w_X7_isName l_X7_93 d_X7_kindHere_27 rfl is_1 ⟨_, _, rfl⟩ ⟨Nat.le_refl _, Nat.le_refl _⟩ (Nat.le_of_ble_eq_true rfl) rfl ?_
      refine jm_Cl.mono h (fun o m20 h hr _ => ?_)
      obtain ⟨r21, rfl, z22⟩ := jm_rokZ hr
      have h := h _ rfl z22
      refine jm_if_eq (tgt := 37) d_X7_kindHere_30 (by decide) (fun c23 => ?_) (fun c23 => ?_)
      · have h := h.1 c23
        refine jm_iconst (v := 1) d_X7_kindHere_37 rfl (jm_okI (by decide) (by decide)) ?_
        refine jm_aloadn d_X7_kindHere_38 rfl ?_
        refine jm_getI (k := 5) (ki := 5) cf_X7 (Nat.le_of_ble_eq_true rfl) f_X7_52 d_X7_kindHere_39 rfl rfl is_1 rfl ?_
        refine jm_invV (n1 := jm_N) (mc := 0) (ms := 0) (av := [jm_I _, jm_I _]) w_X7_fails l_X7_89 d_X7_kindHere_42 rfl is_1 ⟨_, _, rfl⟩ ⟨Nat.le_refl _, Nat.le_refl _⟩ (Nat.le_of_ble_eq_true rfl) rfl ?_
        refine jm_Cl.mono h (fun o m24 h hr _ => ?_)
        obtain ⟨r25, rfl, z26⟩ := jm_rokZ hr
        have h := h _ rfl z26
        refine jm_pop rfl d_X7_kindHere_45 ?_
        refine jm_iloadn d_X7_kindHere_46 rfl ?_
        exact jm_ret (o := some (jm_I _)) d_X7_kindHere_47 rfl ⟨Nat.le_refl _, Nat.le_refl _⟩ jm_r_I h rfl
      · have h := h.2 c23
        refine jm_iconst (v := 3) d_X7_kindHere_33 rfl (jm_okI (by decide) (by decide)) ?_
        refine jm_goto (tgt := 38) d_X7_kindHere_34 (by decide) ?_
        refine jm_aloadn d_X7_kindHere_38 rfl ?_
        refine jm_getI (k := 5) (ki := 5) cf_X7 (Nat.le_of_ble_eq_true rfl) f_X7_52 d_X7_kindHere_39 rfl rfl is_1 rfl ?_
        refine jm_invV (n1 := jm_N) (mc := 0) (ms := 0) (av := [jm_I _, jm_I _]) w_X7_fails l_X7_89 d_X7_kindHere_42 rfl is_1 ⟨_, _, rfl⟩ ⟨Nat.le_refl _, Nat.le_refl _⟩ (Nat.le_of_ble_eq_true rfl) rfl ?_
        refine jm_Cl.mono h (fun o m27 h hr _ => ?_)
        obtain ⟨r28, rfl, z29⟩ := jm_rokZ hr
        have h := h _ rfl z29
        refine jm_pop rfl d_X7_kindHere_45 ?_
        refine jm_iloadn d_X7_kindHere_46 rfl ?_
        exact jm_ret (o := some (jm_I _)) d_X7_kindHere_47 rfl ⟨Nat.le_refl _, Nat.le_refl _⟩ jm_r_I h rfl
