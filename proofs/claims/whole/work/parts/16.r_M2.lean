/-! ('CombTableModel', 'layRules', '(I[II)V') -/
theorem d_X11_layRules_0 : decode m_X11_layRules.2.1 0 = .ok (.iconst 0, 1) := by decide +kernel
theorem d_X11_layRules_1 : decode m_X11_layRules.2.1 1 = .ok (.istore 4, 2) := by decide +kernel
theorem d_X11_layRules_3 : decode m_X11_layRules.2.1 3 = .ok (.iload 4, 2) := by decide +kernel
theorem d_X11_layRules_5 : decode m_X11_layRules.2.1 5 = .ok (.bipush 60, 2) := by decide +kernel
theorem d_X11_layRules_7 : decode m_X11_layRules.2.1 7 = .ok (.if_icmp .ge 27, 3) := by decide +kernel
theorem d_X11_layRules_10 : decode m_X11_layRules.2.1 10 = .ok (.aload_n 0, 1) := by decide +kernel
theorem d_X11_layRules_11 : decode m_X11_layRules.2.1 11 = .ok (.getfield 39, 3) := by decide +kernel
theorem d_X11_layRules_14 : decode m_X11_layRules.2.1 14 = .ok (.bipush 60, 2) := by decide +kernel
theorem d_X11_layRules_16 : decode m_X11_layRules.2.1 16 = .ok (.iload_n 1, 1) := by decide +kernel
theorem d_X11_layRules_17 : decode m_X11_layRules.2.1 17 = .ok (.imul, 1) := by decide +kernel
theorem d_X11_layRules_18 : decode m_X11_layRules.2.1 18 = .ok (.iload 4, 2) := by decide +kernel
theorem d_X11_layRules_20 : decode m_X11_layRules.2.1 20 = .ok (.iadd, 1) := by decide +kernel
theorem d_X11_layRules_21 : decode m_X11_layRules.2.1 21 = .ok (.aload_n 2, 1) := by decide +kernel
theorem d_X11_layRules_22 : decode m_X11_layRules.2.1 22 = .ok (.iload_n 3, 1) := by decide +kernel
theorem d_X11_layRules_23 : decode m_X11_layRules.2.1 23 = .ok (.iload 4, 2) := by decide +kernel
theorem d_X11_layRules_25 : decode m_X11_layRules.2.1 25 = .ok (.iadd, 1) := by decide +kernel
theorem d_X11_layRules_26 : decode m_X11_layRules.2.1 26 = .ok (.iaload, 1) := by decide +kernel
theorem d_X11_layRules_27 : decode m_X11_layRules.2.1 27 = .ok (.iastore, 1) := by decide +kernel
theorem d_X11_layRules_28 : decode m_X11_layRules.2.1 28 = .ok (.iinc 4 1, 3) := by decide +kernel
theorem d_X11_layRules_31 : decode m_X11_layRules.2.1 31 = .ok (.goto (-28), 3) := by decide +kernel
theorem d_X11_layRules_34 : decode m_X11_layRules.2.1 34 = .ok (.aload_n 0, 1) := by decide +kernel
theorem d_X11_layRules_35 : decode m_X11_layRules.2.1 35 = .ok (.getfield 60, 3) := by decide +kernel
theorem d_X11_layRules_38 : decode m_X11_layRules.2.1 38 = .ok (.iload_n 1, 1) := by decide +kernel
theorem d_X11_layRules_39 : decode m_X11_layRules.2.1 39 = .ok (.iconst 0, 1) := by decide +kernel
theorem d_X11_layRules_40 : decode m_X11_layRules.2.1 40 = .ok (.iastore, 1) := by decide +kernel
theorem d_X11_layRules_41 : decode m_X11_layRules.2.1 41 = .ok (.aload_n 0, 1) := by decide +kernel
theorem d_X11_layRules_42 : decode m_X11_layRules.2.1 42 = .ok (.getfield 63, 3) := by decide +kernel
theorem d_X11_layRules_45 : decode m_X11_layRules.2.1 45 = .ok (.iload_n 1, 1) := by decide +kernel
theorem d_X11_layRules_46 : decode m_X11_layRules.2.1 46 = .ok (.iconst 0, 1) := by decide +kernel
theorem d_X11_layRules_47 : decode m_X11_layRules.2.1 47 = .ok (.iastore, 1) := by decide +kernel
theorem d_X11_layRules_48 : decode m_X11_layRules.2.1 48 = .ok (.return_, 1) := by decide +kernel
set_option maxRecDepth 20000 in
theorem e_X11_layRules {E : jm_E} {d : Nat} {μ : jm_M} {Q : Option jm_V → jm_M → Prop} {v1 v2 v3 : Int} (h : (∀ v ∈ ([jm_R 133, jm_I v1, jm_R v2, jm_I v3] : List jm_V), jm_ok v) →
  jg E m_X11_layRules d 3 [some (jm_R 133), some (jm_I v1), some (jm_R v2), some (jm_I v3), some (jm_I 0)] [] μ Q) : jc E m_X11_layRules (d + 1) [jm_R 133, jm_I v1, jm_R v2, jm_I v3] μ Q := by
  refine jm_Cl.of2 (by decide +kernel) (L0 := [some (jm_R 133), some (jm_I v1), some (jm_R v2), some (jm_I v3), none]) rfl (Nat.le_of_ble_eq_true rfl) (fun hok => ?_)
  have h := h hok
  refine jm_iconst (v := 0) d_X11_layRules_0 rfl (jm_okI (by decide) (by decide)) ?_
  refine jm_istore (L' := [some (jm_R _), some (jm_I _), some (jm_R _), some (jm_I _), some (jm_I _)]) d_X11_layRules_1 (Nat.le_of_ble_eq_true rfl) rfl ?_
  exact h
set_option maxRecDepth 20000 in
theorem r_X11_layRules_3 {E : jm_E} {d : Nat} {μ : jm_M} {Q : Option jm_V → jm_M → Prop} {v1 v2 v3 v4 : Int} (h :
  ((60 ≤ v4 →
    (0 ≤ v1 ∧ v1 < 2) ∧
    ∀ m3 : jm_M, m3 = (jm_up μ 150 v1 0) →
    ∀ m4 : jm_M, m4 = (jm_up m3 151 v1 0) →
    Q none m4) ∧
   (¬ (60 ≤ v4) →
    (jm_ix jm_N v2 2 (jm_wr (v3 + v4))) ∧
    (0 ≤ jm_wr ((jm_wr (60 * v1)) + v4) ∧ jm_wr ((jm_wr (60 * v1)) + v4) < 120) ∧
    ∀ m7 : jm_M, m7 = (jm_up μ 143 (jm_wr ((jm_wr (60 * v1)) + v4)) (μ v2 (jm_wr (v3 + v4)))) →
    jg E m_X11_layRules d 3 [some (jm_R 133), some (jm_I v1), some (jm_R v2), some (jm_I v3), some (jm_I (jm_wr (v4 + 1)))] [] m7 Q))) : jg E m_X11_layRules d 3 [some (jm_R 133), some (jm_I v1), some (jm_R v2), some (jm_I v3), some (jm_I v4)] [] μ Q := by
  refine jm_iload d_X11_layRules_3 rfl ?_
  refine jm_bipush (v := 60) d_X11_layRules_5 rfl (jm_okI (by decide) (by decide)) ?_
  refine jm_icmp_ge (tgt := 34) d_X11_layRules_7 (by decide) (fun c1 => ?_) (fun c1 => ?_)
  · have h := h.1 c1
    refine jm_aloadn d_X11_layRules_34 rfl ?_
    refine jm_getF (k := 29) (ki := 29) rfl cf_X11 (Nat.le_of_ble_eq_true rfl) f_X11_60 d_X11_layRules_35 rfl rfl is_133 fr_133_29 ?_
    refine jm_iloadn d_X11_layRules_38 rfl ?_
    refine jm_iconst (v := 0) d_X11_layRules_39 rfl (jm_okI (by decide) (by decide)) ?_
    obtain ⟨f2, h⟩ := h
    refine jm_iastore d_X11_layRules_40 (ixl_150 f2.1 f2.2) ?_
    have h := h _ rfl
    refine jm_aloadn d_X11_layRules_41 rfl ?_
    refine jm_getF (k := 30) (ki := 30) rfl cf_X11 (Nat.le_of_ble_eq_true rfl) f_X11_63 d_X11_layRules_42 rfl rfl is_133 fr_133_30 ?_
    refine jm_iloadn d_X11_layRules_45 rfl ?_
    refine jm_iconst (v := 0) d_X11_layRules_46 rfl (jm_okI (by decide) (by decide)) ?_
    refine jm_iastore d_X11_layRules_47 (ixl_151 f2.1 f2.2) ?_
    have h := h _ rfl
    exact jm_ret (o := none) d_X11_layRules_48 rfl ⟨Nat.le_refl _, Nat.le_refl _⟩ jm_r_V h rfl
  · have h := h.2 c1
    refine jm_aloadn d_X11_layRules_10 rfl ?_
    refine jm_getF (k := 22) (ki := 22) rfl cf_X11 (Nat.le_of_ble_eq_true rfl) f_X11_39 d_X11_layRules_11 rfl rfl is_133 fr_133_22 ?_
    refine jm_bipush (v := 60) d_X11_layRules_14 rfl (jm_okI (by decide) (by decide)) ?_
    refine jm_iloadn d_X11_layRules_16 rfl ?_
    refine jm_imul d_X11_layRules_17 ?_
    refine jm_iload d_X11_layRules_18 rfl ?_
    refine jm_iadd d_X11_layRules_20 ?_
    refine jm_aloadn d_X11_layRules_21 rfl ?_
    refine jm_iloadn d_X11_layRules_22 rfl ?_
    refine jm_iload d_X11_layRules_23 rfl ?_
    refine jm_iadd d_X11_layRules_25 ?_
    obtain ⟨f5, h⟩ := h
    refine jm_iaload d_X11_layRules_26 f5 ?_
    obtain ⟨f6, h⟩ := h
    refine jm_iastore d_X11_layRules_27 (ixl_143 f6.1 f6.2) ?_
    have h := h _ rfl
    refine jm_iinc (L' := [some (jm_R _), some (jm_I _), some (jm_R _), some (jm_I _), some (jm_I _)]) d_X11_layRules_28 rfl rfl (Nat.le_of_ble_eq_true rfl) rfl ?_
    refine jm_goto (tgt := 3) d_X11_layRules_31 (by decide) ?_
    exact h
/-! ('CombTableModel', 'rule', '(II)I') -/
theorem d_X11_rule_0 : decode m_X11_rule.2.1 0 = .ok (.aload_n 0, 1) := by decide +kernel
theorem d_X11_rule_1 : decode m_X11_rule.2.1 1 = .ok (.getfield 39, 3) := by decide +kernel
theorem d_X11_rule_4 : decode m_X11_rule.2.1 4 = .ok (.bipush 60, 2) := by decide +kernel
theorem d_X11_rule_6 : decode m_X11_rule.2.1 6 = .ok (.iload_n 1, 1) := by decide +kernel
theorem d_X11_rule_7 : decode m_X11_rule.2.1 7 = .ok (.imul, 1) := by decide +kernel
theorem d_X11_rule_8 : decode m_X11_rule.2.1 8 = .ok (.iload_n 2, 1) := by decide +kernel
theorem d_X11_rule_9 : decode m_X11_rule.2.1 9 = .ok (.iadd, 1) := by decide +kernel
theorem d_X11_rule_10 : decode m_X11_rule.2.1 10 = .ok (.iaload, 1) := by decide +kernel
theorem d_X11_rule_11 : decode m_X11_rule.2.1 11 = .ok (.ireturn, 1) := by decide +kernel
set_option maxRecDepth 20000 in
theorem e_X11_rule {E : jm_E} {d : Nat} {μ : jm_M} {Q : Option jm_V → jm_M → Prop} {v1 v2 : Int} (h : (∀ v ∈ ([jm_R 133, jm_I v1, jm_I v2] : List jm_V), jm_ok v) →
  (0 ≤ jm_wr ((jm_wr (60 * v1)) + v2) ∧ jm_wr ((jm_wr (60 * v1)) + v2) < 120) ∧
  Q (some (jm_I (μ 143 (jm_wr ((jm_wr (60 * v1)) + v2))))) μ) : jc E m_X11_rule (d + 1) [jm_R 133, jm_I v1, jm_I v2] μ Q := by
  refine jm_Cl.of2 (by decide +kernel) (L0 := [some (jm_R 133), some (jm_I v1), some (jm_I v2)]) rfl (Nat.le_of_ble_eq_true rfl) (fun hok => ?_)
  have h := h hok
  refine jm_aloadn d_X11_rule_0 rfl ?_
  refine jm_getF (k := 22) (ki := 22) rfl cf_X11 (Nat.le_of_ble_eq_true rfl) f_X11_39 d_X11_rule_1 rfl rfl is_133 fr_133_22 ?_
  refine jm_bipush (v := 60) d_X11_rule_4 rfl (jm_okI (by decide) (by decide)) ?_
  refine jm_iloadn d_X11_rule_6 rfl ?_
  refine jm_imul d_X11_rule_7 ?_
  refine jm_iloadn d_X11_rule_8 rfl ?_
  refine jm_iadd d_X11_rule_9 ?_
  obtain ⟨f1, h⟩ := h
  refine jm_iaload d_X11_rule_10 (ixl_143 f1.1 f1.2) ?_
  exact jm_ret (o := some (jm_I _)) d_X11_rule_11 rfl ⟨Nat.le_refl _, Nat.le_refl _⟩ jm_r_I h rfl
/-! ('CombTableModel', 'ofKind', '(III)I') -/
theorem d_X11_ofKind_0 : decode m_X11_ofKind.2.1 0 = .ok (.aload_n 0, 1) := by decide +kernel
theorem d_X11_ofKind_1 : decode m_X11_ofKind.2.1 1 = .ok (.getfield 39, 3) := by decide +kernel
theorem d_X11_ofKind_4 : decode m_X11_ofKind.2.1 4 = .ok (.bipush 60, 2) := by decide +kernel
theorem d_X11_ofKind_6 : decode m_X11_ofKind.2.1 6 = .ok (.iload_n 1, 1) := by decide +kernel
theorem d_X11_ofKind_7 : decode m_X11_ofKind.2.1 7 = .ok (.imul, 1) := by decide +kernel
theorem d_X11_ofKind_8 : decode m_X11_ofKind.2.1 8 = .ok (.bipush 20, 2) := by decide +kernel
theorem d_X11_ofKind_10 : decode m_X11_ofKind.2.1 10 = .ok (.iadd, 1) := by decide +kernel
theorem d_X11_ofKind_11 : decode m_X11_ofKind.2.1 11 = .ok (.iconst 4, 1) := by decide +kernel
theorem d_X11_ofKind_12 : decode m_X11_ofKind.2.1 12 = .ok (.iload_n 2, 1) := by decide +kernel
theorem d_X11_ofKind_13 : decode m_X11_ofKind.2.1 13 = .ok (.imul, 1) := by decide +kernel
theorem d_X11_ofKind_14 : decode m_X11_ofKind.2.1 14 = .ok (.iadd, 1) := by decide +kernel
theorem d_X11_ofKind_15 : decode m_X11_ofKind.2.1 15 = .ok (.iload_n 3, 1) := by decide +kernel
theorem d_X11_ofKind_16 : decode m_X11_ofKind.2.1 16 = .ok (.iadd, 1) := by decide +kernel
theorem d_X11_ofKind_17 : decode m_X11_ofKind.2.1 17 = .ok (.iaload, 1) := by decide +kernel
theorem d_X11_ofKind_18 : decode m_X11_ofKind.2.1 18 = .ok (.ireturn, 1) := by decide +kernel
set_option maxRecDepth 20000 in
theorem e_X11_ofKind {E : jm_E} {d : Nat} {μ : jm_M} {Q : Option jm_V → jm_M → Prop} {v1 v2 v3 : Int} (h : (∀ v ∈ ([jm_R 133, jm_I v1, jm_I v2, jm_I v3] : List jm_V), jm_ok v) →
  (0 ≤ jm_wr ((jm_wr ((jm_wr ((jm_wr (60 * v1)) + 20)) + (jm_wr (4 * v2)))) + v3) ∧ jm_wr ((jm_wr ((jm_wr ((jm_wr (60 * v1)) + 20)) + (jm_wr (4 * v2)))) + v3) < 120) ∧
  Q (some (jm_I (μ 143 (jm_wr ((jm_wr ((jm_wr ((jm_wr (60 * v1)) + 20)) + (jm_wr (4 * v2)))) + v3))))) μ) : jc E m_X11_ofKind (d + 1) [jm_R 133, jm_I v1, jm_I v2, jm_I v3] μ Q := by
  refine jm_Cl.of2 (by decide +kernel) (L0 := [some (jm_R 133), some (jm_I v1), some (jm_I v2), some (jm_I v3)]) rfl (Nat.le_of_ble_eq_true rfl) (fun hok => ?_)
  have h := h hok
  refine jm_aloadn d_X11_ofKind_0 rfl ?_
  refine jm_getF (k := 22) (ki := 22) rfl cf_X11 (Nat.le_of_ble_eq_true rfl) f_X11_39 d_X11_ofKind_1 rfl rfl is_133 fr_133_22 ?_
  refine jm_bipush (v := 60) d_X11_ofKind_4 rfl (jm_okI (by decide) (by decide)) ?_
  refine jm_iloadn d_X11_ofKind_6 rfl ?_
  refine jm_imul d_X11_ofKind_7 ?_
  refine jm_bipush (v := 20) d_X11_ofKind_8 rfl (jm_okI (by decide) (by decide)) ?_
  refine jm_iadd d_X11_ofKind_10 ?_
  refine jm_iconst (v := 4) d_X11_ofKind_11 rfl (jm_okI (by decide) (by decide)) ?_
  refine jm_iloadn d_X11_ofKind_12 rfl ?_
  refine jm_imul d_X11_ofKind_13 ?_
  refine jm_iadd d_X11_ofKind_14 ?_
  refine jm_iloadn d_X11_ofKind_15 rfl ?_
  refine jm_iadd d_X11_ofKind_16 ?_
  obtain ⟨f1, h⟩ := h
  refine jm_iaload d_X11_ofKind_17 (ixl_143 f1.1 f1.2) ?_
  exact jm_ret (o := some (jm_I _)) d_X11_ofKind_18 rfl ⟨Nat.le_refl _, Nat.le_refl _⟩ jm_r_I h rfl
/-! ('CombTableModel', 'answers', '(III)I') -/
theorem d_X11_answers_0 : decode m_X11_answers.2.1 0 = .ok (.aload_n 0, 1) := by decide +kernel
theorem d_X11_answers_1 : decode m_X11_answers.2.1 1 = .ok (.iload_n 1, 1) := by decide +kernel
theorem d_X11_answers_2 : decode m_X11_answers.2.1 2 = .ok (.iload_n 3, 1) := by decide +kernel
theorem d_X11_answers_3 : decode m_X11_answers.2.1 3 = .ok (.iconst 0, 1) := by decide +kernel
theorem d_X11_answers_4 : decode m_X11_answers.2.1 4 = .ok (.invokevirtual 251, 3) := by decide +kernel
theorem d_X11_answers_7 : decode m_X11_answers.2.1 7 = .ok (.iconst 2, 1) := by decide +kernel
theorem d_X11_answers_8 : decode m_X11_answers.2.1 8 = .ok (.if_icmp .ne 5, 3) := by decide +kernel
theorem d_X11_answers_11 : decode m_X11_answers.2.1 11 = .ok (.iconst (-1), 1) := by decide +kernel
theorem d_X11_answers_12 : decode m_X11_answers.2.1 12 = .ok (.ireturn, 1) := by decide +kernel
theorem d_X11_answers_13 : decode m_X11_answers.2.1 13 = .ok (.aload_n 0, 1) := by decide +kernel
theorem d_X11_answers_14 : decode m_X11_answers.2.1 14 = .ok (.getfield 60, 3) := by decide +kernel
theorem d_X11_answers_17 : decode m_X11_answers.2.1 17 = .ok (.iload_n 1, 1) := by decide +kernel
theorem d_X11_answers_18 : decode m_X11_answers.2.1 18 = .ok (.iaload, 1) := by decide +kernel
theorem d_X11_answers_19 : decode m_X11_answers.2.1 19 = .ok (.istore 4, 2) := by decide +kernel
theorem d_X11_answers_21 : decode m_X11_answers.2.1 21 = .ok (.aload_n 0, 1) := by decide +kernel
theorem d_X11_answers_22 : decode m_X11_answers.2.1 22 = .ok (.iload_n 1, 1) := by decide +kernel
theorem d_X11_answers_23 : decode m_X11_answers.2.1 23 = .ok (.iconst 4, 1) := by decide +kernel
theorem d_X11_answers_24 : decode m_X11_answers.2.1 24 = .ok (.invokevirtual 255, 3) := by decide +kernel
theorem d_X11_answers_27 : decode m_X11_answers.2.1 27 = .ok (.ifCond .le 15, 3) := by decide +kernel
theorem d_X11_answers_30 : decode m_X11_answers.2.1 30 = .ok (.aload_n 0, 1) := by decide +kernel
theorem d_X11_answers_31 : decode m_X11_answers.2.1 31 = .ok (.iload_n 1, 1) := by decide +kernel
theorem d_X11_answers_32 : decode m_X11_answers.2.1 32 = .ok (.bipush 12, 2) := by decide +kernel
theorem d_X11_answers_34 : decode m_X11_answers.2.1 34 = .ok (.iload_n 2, 1) := by decide +kernel
theorem d_X11_answers_35 : decode m_X11_answers.2.1 35 = .ok (.iadd, 1) := by decide +kernel
theorem d_X11_answers_36 : decode m_X11_answers.2.1 36 = .ok (.invokevirtual 255, 3) := by decide +kernel
theorem d_X11_answers_39 : decode m_X11_answers.2.1 39 = .ok (.goto 33, 3) := by decide +kernel
theorem d_X11_answers_42 : decode m_X11_answers.2.1 42 = .ok (.aload_n 0, 1) := by decide +kernel
theorem d_X11_answers_43 : decode m_X11_answers.2.1 43 = .ok (.iload_n 1, 1) := by decide +kernel
theorem d_X11_answers_44 : decode m_X11_answers.2.1 44 = .ok (.iconst 3, 1) := by decide +kernel
theorem d_X11_answers_45 : decode m_X11_answers.2.1 45 = .ok (.invokevirtual 255, 3) := by decide +kernel
theorem d_X11_answers_48 : decode m_X11_answers.2.1 48 = .ok (.ifCond .ne 7, 3) := by decide +kernel
theorem d_X11_answers_51 : decode m_X11_answers.2.1 51 = .ok (.iconst 2, 1) := by decide +kernel
theorem d_X11_answers_52 : decode m_X11_answers.2.1 52 = .ok (.goto 20, 3) := by decide +kernel
theorem d_X11_answers_55 : decode m_X11_answers.2.1 55 = .ok (.aload_n 0, 1) := by decide +kernel
theorem d_X11_answers_56 : decode m_X11_answers.2.1 56 = .ok (.iload_n 1, 1) := by decide +kernel
theorem d_X11_answers_57 : decode m_X11_answers.2.1 57 = .ok (.bipush 6, 2) := by decide +kernel
theorem d_X11_answers_59 : decode m_X11_answers.2.1 59 = .ok (.iload 4, 2) := by decide +kernel
theorem d_X11_answers_61 : decode m_X11_answers.2.1 61 = .ok (.aload_n 0, 1) := by decide +kernel
theorem d_X11_answers_62 : decode m_X11_answers.2.1 62 = .ok (.iload_n 1, 1) := by decide +kernel
theorem d_X11_answers_63 : decode m_X11_answers.2.1 63 = .ok (.iconst 3, 1) := by decide +kernel
theorem d_X11_answers_64 : decode m_X11_answers.2.1 64 = .ok (.invokevirtual 255, 3) := by decide +kernel
theorem d_X11_answers_67 : decode m_X11_answers.2.1 67 = .ok (.irem, 1) := by decide +kernel
theorem d_X11_answers_68 : decode m_X11_answers.2.1 68 = .ok (.iadd, 1) := by decide +kernel
theorem d_X11_answers_69 : decode m_X11_answers.2.1 69 = .ok (.invokevirtual 255, 3) := by decide +kernel
theorem d_X11_answers_72 : decode m_X11_answers.2.1 72 = .ok (.istore 5, 2) := by decide +kernel
theorem d_X11_answers_74 : decode m_X11_answers.2.1 74 = .ok (.iload 4, 2) := by decide +kernel
theorem d_X11_answers_76 : decode m_X11_answers.2.1 76 = .ok (.iload 5, 2) := by decide +kernel
theorem d_X11_answers_78 : decode m_X11_answers.2.1 78 = .ok (.if_icmp .ge 7, 3) := by decide +kernel
theorem d_X11_answers_81 : decode m_X11_answers.2.1 81 = .ok (.iconst (-1), 1) := by decide +kernel
theorem d_X11_answers_82 : decode m_X11_answers.2.1 82 = .ok (.goto 8, 3) := by decide +kernel
theorem d_X11_answers_85 : decode m_X11_answers.2.1 85 = .ok (.iload 4, 2) := by decide +kernel
theorem d_X11_answers_87 : decode m_X11_answers.2.1 87 = .ok (.iload 5, 2) := by decide +kernel
theorem d_X11_answers_89 : decode m_X11_answers.2.1 89 = .ok (.isub, 1) := by decide +kernel
theorem d_X11_answers_90 : decode m_X11_answers.2.1 90 = .ok (.ireturn, 1) := by decide +kernel
set_option maxRecDepth 20000 in
theorem e_X11_answers {E : jm_E} {d : Nat} {μ : jm_M} {Q : Option jm_V → jm_M → Prop} {v1 v2 v3 : Int} (h : (∀ v ∈ ([jm_R 133, jm_I v1, jm_I v2, jm_I v3] : List jm_V), jm_ok v) →
  jc E m_X11_ofKind d [jm_R 133, jm_I v1, jm_I v3, jm_I 0] μ (fun (o : Option jm_V) (m1 : jm_M) => ∀ r2 : Int, o = some (jm_I r2) →
  ((r2 ≠ 2 →
    (0 ≤ v1 ∧ v1 < 2) ∧
    ∀ x5 : Int, x5 = m1 150 v1 →
    jc E m_X11_rule d [jm_R 133, jm_I v1, jm_I 4] m1 (fun (o : Option jm_V) (m6 : jm_M) => ∀ r7 : Int, o = some (jm_I r7) →
    ((r7 ≤ 0 →
      jc E m_X11_rule d [jm_R 133, jm_I v1, jm_I 3] m6 (fun (o : Option jm_V) (m9 : jm_M) => ∀ r10 : Int, o = some (jm_I r10) →
      ((r10 ≠ 0 →
        jc E m_X11_rule d [jm_R 133, jm_I v1, jm_I 3] m9 (fun (o : Option jm_V) (m12 : jm_M) => ∀ r13 : Int, o = some (jm_I r13) →
        (r13 ≠ 0) ∧
        jc E m_X11_rule d [jm_R 133, jm_I v1, jm_I (jm_wr (6 + (jm_rem x5 r13)))] m12 (fun (o : Option jm_V) (m15 : jm_M) => ∀ r16 : Int, o = some (jm_I r16) →
        ((r16 ≤ x5 →
          Q (some (jm_I (jm_wr (x5 - r16)))) m15) ∧
         (¬ (r16 ≤ x5) →
          Q (some (jm_I ((-1)))) m15))))) ∧
       (¬ (r10 ≠ 0) →
        ((2 ≤ x5 →
          Q (some (jm_I (jm_wr (x5 - 2)))) m9) ∧
         (¬ (2 ≤ x5) →
          Q (some (jm_I ((-1)))) m9)))))) ∧
     (¬ (r7 ≤ 0) →
      jc E m_X11_rule d [jm_R 133, jm_I v1, jm_I (jm_wr (12 + v2))] m6 (fun (o : Option jm_V) (m19 : jm_M) => ∀ r20 : Int, o = some (jm_I r20) →
      ((r20 ≤ x5 →
        Q (some (jm_I (jm_wr (x5 - r20)))) m19) ∧
       (¬ (r20 ≤ x5) →
        Q (some (jm_I ((-1)))) m19))))))) ∧
   (¬ (r2 ≠ 2) →
    Q (some (jm_I ((-1)))) m1)))) : jc E m_X11_answers (d + 1) [jm_R 133, jm_I v1, jm_I v2, jm_I v3] μ Q := by
  refine jm_Cl.of2 (by decide +kernel) (L0 := [some (jm_R 133), some (jm_I v1), some (jm_I v2), some (jm_I v3), none, none]) rfl (Nat.le_of_ble_eq_true rfl) (fun hok => ?_)
  have h := h hok
  refine jm_aloadn d_X11_answers_0 rfl ?_
  refine jm_iloadn d_X11_answers_1 rfl ?_
  refine jm_iloadn d_X11_answers_2 rfl ?_
  refine jm_iconst (v := 0) d_X11_answers_3 rfl (jm_okI (by decide) (by decide)) ?_
  refine jm_invV (n1 := jm_N) (mc := 0) (ms := 0) (av := [jm_I _, jm_I _, jm_I _]) w_X11_ofKind l_X11_251 d_X11_answers_4 rfl is_133 ⟨_, _, rfl⟩ ⟨Nat.le_refl _, Nat.le_refl _⟩ (Nat.le_of_ble_eq_true rfl) rfl ?_
  refine jm_Cl.mono h (fun o m1 h hr _ => ?_)
  obtain ⟨r2, rfl⟩ := jm_rokI hr
  have h := h _ rfl
  refine jm_iconst (v := 2) d_X11_answers_7 rfl (jm_okI (by decide) (by decide)) ?_
  refine jm_icmp_ne (tgt := 13) d_X11_answers_8 (by decide) (fun c3 => ?_) (fun c3 => ?_)
  · have h := h.1 c3
    refine jm_aloadn d_X11_answers_13 rfl ?_
    refine jm_getF (k := 29) (ki := 29) rfl cf_X11 (Nat.le_of_ble_eq_true rfl) f_X11_60 d_X11_answers_14 rfl rfl is_133 fr_133_29 ?_
    refine jm_iloadn d_X11_answers_17 rfl ?_
    obtain ⟨f4, h⟩ := h
    refine jm_iaload d_X11_answers_18 (ixl_150 f4.1 f4.2) ?_
    have h := h _ rfl
    refine jm_istore (L' := [some (jm_R _), some (jm_I _), some (jm_I _), some (jm_I _), some (jm_I _), none]) d_X11_answers_19 (Nat.le_of_ble_eq_true rfl) rfl ?_
    refine jm_aloadn d_X11_answers_21 rfl ?_
    refine jm_iloadn d_X11_answers_22 rfl ?_
    refine jm_iconst (v := 4) d_X11_answers_23 rfl (jm_okI (by decide) (by decide)) ?_
    refine jm_invV (n1 := jm_N) (mc := 0) (ms := 0) (av := [jm_I _, jm_I _]) w_X11_rule l_X11_255 d_X11_answers_24 rfl is_133 ⟨_, _, rfl⟩ ⟨Nat.le_refl _, Nat.le_refl _⟩ (Nat.le_of_ble_eq_true rfl) rfl ?_
    refine jm_Cl.mono h (fun o m6 h hr _ => ?_)
    obtain ⟨r7, rfl⟩ := jm_rokI hr
    have h := h _ rfl
    refine jm_if_le (tgt := 42) d_X11_answers_27 (by decide) (fun c8 => ?_) (fun c8 => ?_)
    · have h := h.1 c8
      refine jm_aloadn d_X11_answers_42 rfl ?_
      refine jm_iloadn d_X11_answers_43 rfl ?_
      refine jm_iconst (v := 3) d_X11_answers_44 rfl (jm_okI (by decide) (by decide)) ?_
      refine jm_invV (n1 := jm_N) (mc := 0) (ms := 0) (av := [jm_I _, jm_I _]) w_X11_rule l_X11_255 d_X11_answers_45 rfl is_133 ⟨_, _, rfl⟩ ⟨Nat.le_refl _, Nat.le_refl _⟩ (Nat.le_of_ble_eq_true rfl) rfl ?_
      refine jm_Cl.mono h (fun o m9 h hr _ => ?_)
      obtain ⟨r10, rfl⟩ := jm_rokI hr
      have h := h _ rfl
      refine jm_if_ne (tgt := 55) d_X11_answers_48 (by decide) (fun c11 => ?_) (fun c11 => ?_)
      · have h := h.1 c11
        refine jm_aloadn d_X11_answers_55 rfl ?_
        refine jm_iloadn d_X11_answers_56 rfl ?_
        refine jm_bipush (v := 6) d_X11_answers_57 rfl (jm_okI (by decide) (by decide)) ?_
        refine jm_iload d_X11_answers_59 rfl ?_
        refine jm_aloadn d_X11_answers_61 rfl ?_
        refine jm_iloadn d_X11_answers_62 rfl ?_
        refine jm_iconst (v := 3) d_X11_answers_63 rfl (jm_okI (by decide) (by decide)) ?_
        refine jm_invV (n1 := jm_N) (mc := 0) (ms := 0) (av := [jm_I _, jm_I _]) w_X11_rule l_X11_255 d_X11_answers_64 rfl is_133 ⟨_, _, rfl⟩ ⟨Nat.le_refl _, Nat.le_refl _⟩ (Nat.le_of_ble_eq_true rfl) rfl ?_
        refine jm_Cl.mono h (fun o m12 h hr _ => ?_)
        obtain ⟨r13, rfl⟩ := jm_rokI hr
        have h := h _ rfl
        obtain ⟨f14, h⟩ := h
        refine jm_irem d_X11_answers_67 f14 ?_
        refine jm_iadd d_X11_answers_68 ?_
        refine jm_invV (n1 := jm_N) (mc := 0) (ms := 0) (av := [jm_I _, jm_I _]) w_X11_rule l_X11_255 d_X11_answers_69 rfl is_133 ⟨_, _, rfl⟩ ⟨Nat.le_refl _, Nat.le_refl _⟩ (Nat.le_of_ble_eq_true rfl) rfl ?_
        refine jm_Cl.mono h (fun o m15 h hr _ => ?_)
        obtain ⟨r16, rfl⟩ := jm_rokI hr
        have h := h _ rfl
        refine jm_istore (L' := [some (jm_R _), some (jm_I _), some (jm_I _), some (jm_I _), some (jm_I _), some (jm_I _)]) d_X11_answers_72 (Nat.le_of_ble_eq_true rfl) rfl ?_
        refine jm_iload d_X11_answers_74 rfl ?_
        refine jm_iload d_X11_answers_76 rfl ?_
        refine jm_icmp_ge (tgt := 85) d_X11_answers_78 (by decide) (fun c17 => ?_) (fun c17 => ?_)
        · have h := h.1 c17
          refine jm_iload d_X11_answers_85 rfl ?_
          refine jm_iload d_X11_answers_87 rfl ?_
          refine jm_isub d_X11_answers_89 ?_
          exact jm_ret (o := some (jm_I _)) d_X11_answers_90 rfl ⟨Nat.le_refl _, Nat.le_refl _⟩ jm_r_I h rfl
        · have h := h.2 c17
          refine jm_iconst (v := (-1)) d_X11_answers_81 rfl (jm_okI (by decide) (by decide)) ?_
          refine jm_goto (tgt := 90) d_X11_answers_82 (by decide) ?_
          exact jm_ret (o := some (jm_I _)) d_X11_answers_90 rfl ⟨Nat.le_refl _, Nat.le_refl _⟩ jm_r_I h rfl
      · have h := h.2 c11
        refine jm_iconst (v := 2) d_X11_answers_51 rfl (jm_okI (by decide) (by decide)) ?_
        refine jm_goto (tgt := 72) d_X11_answers_52 (by decide) ?_
        refine jm_istore (L' := [some (jm_R _), some (jm_I _), some (jm_I _), some (jm_I _), some (jm_I _), some (jm_I _)]) d_X11_answers_72 (Nat.le_of_ble_eq_true rfl) rfl ?_
        refine jm_iload d_X11_answers_74 rfl ?_
        refine jm_iload d_X11_answers_76 rfl ?_
        refine jm_icmp_ge (tgt := 85) d_X11_answers_78 (by decide) (fun c18 => ?_) (fun c18 => ?_)
        · have h := h.1 c18
          refine jm_iload d_X11_answers_85 rfl ?_
          refine jm_iload d_X11_answers_87 rfl ?_
          refine jm_isub d_X11_answers_89 ?_
          exact jm_ret (o := some (jm_I _)) d_X11_answers_90 rfl ⟨Nat.le_refl _, Nat.le_refl _⟩ jm_r_I h rfl
        · have h := h.2 c18
          refine jm_iconst (v := (-1)) d_X11_answers_81 rfl (jm_okI (by decide) (by decide)) ?_
          refine jm_goto (tgt := 90) d_X11_answers_82 (by decide) ?_
          exact jm_ret (o := some (jm_I _)) d_X11_answers_90 rfl ⟨Nat.le_refl _, Nat.le_refl _⟩ jm_r_I h rfl
    · have h := h.2 c8
      refine jm_aloadn d_X11_answers_30 rfl ?_
      refine jm_iloadn d_X11_answers_31 rfl ?_
      refine jm_bipush (v := 12) d_X11_answers_32 rfl (jm_okI (by decide) (by decide)) ?_
      refine jm_iloadn d_X11_answers_34 rfl ?_
      refine jm_iadd d_X11_answers_35 ?_
      refine jm_invV (n1 := jm_N) (mc := 0) (ms := 0) (av := [jm_I _, jm_I _]) w_X11_rule l_X11_255 d_X11_answers_36 rfl is_133 ⟨_, _, rfl⟩ ⟨Nat.le_refl _, Nat.le_refl _⟩ (Nat.le_of_ble_eq_true rfl) rfl ?_
      refine jm_Cl.mono h (fun o m19 h hr _ => ?_)
      obtain ⟨r20, rfl⟩ := jm_rokI hr
      have h := h _ rfl
      refine jm_goto (tgt := 72) d_X11_answers_39 (by decide) ?_
      refine jm_istore (L' := [some (jm_R _), some (jm_I _), some (jm_I _), some (jm_I _), some (jm_I _), some (jm_I _)]) d_X11_answers_72 (Nat.le_of_ble_eq_true rfl) rfl ?_
      refine jm_iload d_X11_answers_74 rfl ?_
      refine jm_iload d_X11_answers_76 rfl ?_
      refine jm_icmp_ge (tgt := 85) d_X11_answers_78 (by decide) (fun c21 => ?_) (fun c21 => ?_)
      · have h := h.1 c21
        refine jm_iload d_X11_answers_85 rfl ?_
        refine jm_iload d_X11_answers_87 rfl ?_
        refine jm_isub d_X11_answers_89 ?_
        exact jm_ret (o := some (jm_I _)) d_X11_answers_90 rfl ⟨Nat.le_refl _, Nat.le_refl _⟩ jm_r_I h rfl
      · have h := h.2 c21
        refine jm_iconst (v := (-1)) d_X11_answers_81 rfl (jm_okI (by decide) (by decide)) ?_
        refine jm_goto (tgt := 90) d_X11_answers_82 (by decide) ?_
        exact jm_ret (o := some (jm_I _)) d_X11_answers_90 rfl ⟨Nat.le_refl _, Nat.le_refl _⟩ jm_r_I h rfl
  · have h := h.2 c3
    refine jm_iconst (v := (-1)) d_X11_answers_11 rfl (jm_okI (by decide) (by decide)) ?_
    exact jm_ret (o := some (jm_I _)) d_X11_answers_12 rfl ⟨Nat.le_refl _, Nat.le_refl _⟩ jm_r_I h rfl
/-! ('CombTableModel', 'wrongOf', '(III)I') -/
theorem d_X11_wrongOf_0 : decode m_X11_wrongOf.2.1 0 = .ok (.aload_n 0, 1) := by decide +kernel
theorem d_X11_wrongOf_1 : decode m_X11_wrongOf.2.1 1 = .ok (.getfield 60, 3) := by decide +kernel
theorem d_X11_wrongOf_4 : decode m_X11_wrongOf.2.1 4 = .ok (.iload_n 1, 1) := by decide +kernel
theorem d_X11_wrongOf_5 : decode m_X11_wrongOf.2.1 5 = .ok (.iaload, 1) := by decide +kernel
theorem d_X11_wrongOf_6 : decode m_X11_wrongOf.2.1 6 = .ok (.istore 4, 2) := by decide +kernel
theorem d_X11_wrongOf_8 : decode m_X11_wrongOf.2.1 8 = .ok (.sipush 400, 3) := by decide +kernel
theorem d_X11_wrongOf_11 : decode m_X11_wrongOf.2.1 11 = .ok (.iload_n 1, 1) := by decide +kernel
theorem d_X11_wrongOf_12 : decode m_X11_wrongOf.2.1 12 = .ok (.imul, 1) := by decide +kernel
theorem d_X11_wrongOf_13 : decode m_X11_wrongOf.2.1 13 = .ok (.istore 5, 2) := by decide +kernel
theorem d_X11_wrongOf_15 : decode m_X11_wrongOf.2.1 15 = .ok (.aload_n 0, 1) := by decide +kernel
theorem d_X11_wrongOf_16 : decode m_X11_wrongOf.2.1 16 = .ok (.iload_n 1, 1) := by decide +kernel
theorem d_X11_wrongOf_17 : decode m_X11_wrongOf.2.1 17 = .ok (.iload_n 2, 1) := by decide +kernel
theorem d_X11_wrongOf_18 : decode m_X11_wrongOf.2.1 18 = .ok (.iload_n 3, 1) := by decide +kernel
theorem d_X11_wrongOf_19 : decode m_X11_wrongOf.2.1 19 = .ok (.invokevirtual 259, 3) := by decide +kernel
theorem d_X11_wrongOf_22 : decode m_X11_wrongOf.2.1 22 = .ok (.istore 6, 2) := by decide +kernel
theorem d_X11_wrongOf_24 : decode m_X11_wrongOf.2.1 24 = .ok (.aload_n 0, 1) := by decide +kernel
theorem d_X11_wrongOf_25 : decode m_X11_wrongOf.2.1 25 = .ok (.iload_n 1, 1) := by decide +kernel
theorem d_X11_wrongOf_26 : decode m_X11_wrongOf.2.1 26 = .ok (.iload_n 3, 1) := by decide +kernel
theorem d_X11_wrongOf_27 : decode m_X11_wrongOf.2.1 27 = .ok (.iconst 1, 1) := by decide +kernel
theorem d_X11_wrongOf_28 : decode m_X11_wrongOf.2.1 28 = .ok (.invokevirtual 251, 3) := by decide +kernel
theorem d_X11_wrongOf_31 : decode m_X11_wrongOf.2.1 31 = .ok (.istore 7, 2) := by decide +kernel
theorem d_X11_wrongOf_33 : decode m_X11_wrongOf.2.1 33 = .ok (.aload_n 0, 1) := by decide +kernel
theorem d_X11_wrongOf_34 : decode m_X11_wrongOf.2.1 34 = .ok (.iload_n 1, 1) := by decide +kernel
theorem d_X11_wrongOf_35 : decode m_X11_wrongOf.2.1 35 = .ok (.iconst 5, 1) := by decide +kernel
theorem d_X11_wrongOf_36 : decode m_X11_wrongOf.2.1 36 = .ok (.invokevirtual 255, 3) := by decide +kernel
theorem d_X11_wrongOf_39 : decode m_X11_wrongOf.2.1 39 = .ok (.ifCond .ne 26, 3) := by decide +kernel
theorem d_X11_wrongOf_42 : decode m_X11_wrongOf.2.1 42 = .ok (.iload 4, 2) := by decide +kernel
theorem d_X11_wrongOf_44 : decode m_X11_wrongOf.2.1 44 = .ok (.ifCond .le 21, 3) := by decide +kernel
theorem d_X11_wrongOf_47 : decode m_X11_wrongOf.2.1 47 = .ok (.aload_n 0, 1) := by decide +kernel
theorem d_X11_wrongOf_48 : decode m_X11_wrongOf.2.1 48 = .ok (.getfield 42, 3) := by decide +kernel
theorem d_X11_wrongOf_51 : decode m_X11_wrongOf.2.1 51 = .ok (.iload 5, 2) := by decide +kernel
theorem d_X11_wrongOf_53 : decode m_X11_wrongOf.2.1 53 = .ok (.iload 4, 2) := by decide +kernel
theorem d_X11_wrongOf_55 : decode m_X11_wrongOf.2.1 55 = .ok (.iadd, 1) := by decide +kernel
theorem d_X11_wrongOf_56 : decode m_X11_wrongOf.2.1 56 = .ok (.iconst 1, 1) := by decide +kernel
theorem d_X11_wrongOf_57 : decode m_X11_wrongOf.2.1 57 = .ok (.isub, 1) := by decide +kernel
theorem d_X11_wrongOf_58 : decode m_X11_wrongOf.2.1 58 = .ok (.iaload, 1) := by decide +kernel
theorem d_X11_wrongOf_59 : decode m_X11_wrongOf.2.1 59 = .ok (.iload_n 2, 1) := by decide +kernel
theorem d_X11_wrongOf_60 : decode m_X11_wrongOf.2.1 60 = .ok (.if_icmp .ne 5, 3) := by decide +kernel
theorem d_X11_wrongOf_63 : decode m_X11_wrongOf.2.1 63 = .ok (.iconst 1, 1) := by decide +kernel
theorem d_X11_wrongOf_64 : decode m_X11_wrongOf.2.1 64 = .ok (.ireturn, 1) := by decide +kernel
theorem d_X11_wrongOf_65 : decode m_X11_wrongOf.2.1 65 = .ok (.iload 6, 2) := by decide +kernel
theorem d_X11_wrongOf_67 : decode m_X11_wrongOf.2.1 67 = .ok (.iconst (-1), 1) := by decide +kernel
theorem d_X11_wrongOf_68 : decode m_X11_wrongOf.2.1 68 = .ok (.if_icmp .ne 15, 3) := by decide +kernel
theorem d_X11_wrongOf_71 : decode m_X11_wrongOf.2.1 71 = .ok (.aload_n 0, 1) := by decide +kernel
theorem d_X11_wrongOf_72 : decode m_X11_wrongOf.2.1 72 = .ok (.iload_n 1, 1) := by decide +kernel
theorem d_X11_wrongOf_73 : decode m_X11_wrongOf.2.1 73 = .ok (.iload_n 3, 1) := by decide +kernel
theorem d_X11_wrongOf_74 : decode m_X11_wrongOf.2.1 74 = .ok (.iconst 0, 1) := by decide +kernel
theorem d_X11_wrongOf_75 : decode m_X11_wrongOf.2.1 75 = .ok (.invokevirtual 251, 3) := by decide +kernel
theorem d_X11_wrongOf_78 : decode m_X11_wrongOf.2.1 78 = .ok (.ifCond .ne 5, 3) := by decide +kernel
theorem d_X11_wrongOf_81 : decode m_X11_wrongOf.2.1 81 = .ok (.iconst 2, 1) := by decide +kernel
theorem d_X11_wrongOf_82 : decode m_X11_wrongOf.2.1 82 = .ok (.ireturn, 1) := by decide +kernel
theorem d_X11_wrongOf_83 : decode m_X11_wrongOf.2.1 83 = .ok (.iload 6, 2) := by decide +kernel
theorem d_X11_wrongOf_85 : decode m_X11_wrongOf.2.1 85 = .ok (.iconst (-1), 1) := by decide +kernel
theorem d_X11_wrongOf_86 : decode m_X11_wrongOf.2.1 86 = .ok (.if_icmp .eq 28, 3) := by decide +kernel
theorem d_X11_wrongOf_89 : decode m_X11_wrongOf.2.1 89 = .ok (.aload_n 0, 1) := by decide +kernel
theorem d_X11_wrongOf_90 : decode m_X11_wrongOf.2.1 90 = .ok (.iload_n 1, 1) := by decide +kernel
theorem d_X11_wrongOf_91 : decode m_X11_wrongOf.2.1 91 = .ok (.iload_n 3, 1) := by decide +kernel
theorem d_X11_wrongOf_92 : decode m_X11_wrongOf.2.1 92 = .ok (.iconst 3, 1) := by decide +kernel
theorem d_X11_wrongOf_93 : decode m_X11_wrongOf.2.1 93 = .ok (.invokevirtual 251, 3) := by decide +kernel
theorem d_X11_wrongOf_96 : decode m_X11_wrongOf.2.1 96 = .ok (.aload_n 0, 1) := by decide +kernel
theorem d_X11_wrongOf_97 : decode m_X11_wrongOf.2.1 97 = .ok (.getfield 45, 3) := by decide +kernel
theorem d_X11_wrongOf_100 : decode m_X11_wrongOf.2.1 100 = .ok (.iload 5, 2) := by decide +kernel
theorem d_X11_wrongOf_102 : decode m_X11_wrongOf.2.1 102 = .ok (.iload 6, 2) := by decide +kernel
theorem d_X11_wrongOf_104 : decode m_X11_wrongOf.2.1 104 = .ok (.iadd, 1) := by decide +kernel
theorem d_X11_wrongOf_105 : decode m_X11_wrongOf.2.1 105 = .ok (.iaload, 1) := by decide +kernel
theorem d_X11_wrongOf_106 : decode m_X11_wrongOf.2.1 106 = .ok (.invokestatic 215, 3) := by decide +kernel
theorem d_X11_wrongOf_109 : decode m_X11_wrongOf.2.1 109 = .ok (.ifCond .ne 5, 3) := by decide +kernel
theorem d_X11_wrongOf_112 : decode m_X11_wrongOf.2.1 112 = .ok (.iconst 3, 1) := by decide +kernel
theorem d_X11_wrongOf_113 : decode m_X11_wrongOf.2.1 113 = .ok (.ireturn, 1) := by decide +kernel
theorem d_X11_wrongOf_114 : decode m_X11_wrongOf.2.1 114 = .ok (.iload 6, 2) := by decide +kernel
theorem d_X11_wrongOf_116 : decode m_X11_wrongOf.2.1 116 = .ok (.iconst (-1), 1) := by decide +kernel
theorem d_X11_wrongOf_117 : decode m_X11_wrongOf.2.1 117 = .ok (.if_icmp .eq 31, 3) := by decide +kernel
theorem d_X11_wrongOf_120 : decode m_X11_wrongOf.2.1 120 = .ok (.aload_n 0, 1) := by decide +kernel
theorem d_X11_wrongOf_121 : decode m_X11_wrongOf.2.1 121 = .ok (.getfield 42, 3) := by decide +kernel
theorem d_X11_wrongOf_124 : decode m_X11_wrongOf.2.1 124 = .ok (.iload 5, 2) := by decide +kernel
theorem d_X11_wrongOf_126 : decode m_X11_wrongOf.2.1 126 = .ok (.iload 6, 2) := by decide +kernel
theorem d_X11_wrongOf_128 : decode m_X11_wrongOf.2.1 128 = .ok (.iadd, 1) := by decide +kernel
theorem d_X11_wrongOf_129 : decode m_X11_wrongOf.2.1 129 = .ok (.iaload, 1) := by decide +kernel
theorem d_X11_wrongOf_130 : decode m_X11_wrongOf.2.1 130 = .ok (.iload_n 2, 1) := by decide +kernel
theorem d_X11_wrongOf_131 : decode m_X11_wrongOf.2.1 131 = .ok (.if_icmp .ne 17, 3) := by decide +kernel
theorem d_X11_wrongOf_134 : decode m_X11_wrongOf.2.1 134 = .ok (.iload 7, 2) := by decide +kernel
theorem d_X11_wrongOf_136 : decode m_X11_wrongOf.2.1 136 = .ok (.iconst 4, 1) := by decide +kernel
theorem d_X11_wrongOf_137 : decode m_X11_wrongOf.2.1 137 = .ok (.if_icmp .eq 11, 3) := by decide +kernel
theorem d_X11_wrongOf_140 : decode m_X11_wrongOf.2.1 140 = .ok (.iload 7, 2) := by decide +kernel
theorem d_X11_wrongOf_142 : decode m_X11_wrongOf.2.1 142 = .ok (.iconst 5, 1) := by decide +kernel
theorem d_X11_wrongOf_143 : decode m_X11_wrongOf.2.1 143 = .ok (.if_icmp .eq 5, 3) := by decide +kernel
theorem d_X11_wrongOf_146 : decode m_X11_wrongOf.2.1 146 = .ok (.iconst 4, 1) := by decide +kernel
theorem d_X11_wrongOf_147 : decode m_X11_wrongOf.2.1 147 = .ok (.ireturn, 1) := by decide +kernel
theorem d_X11_wrongOf_148 : decode m_X11_wrongOf.2.1 148 = .ok (.iload 7, 2) := by decide +kernel
theorem d_X11_wrongOf_150 : decode m_X11_wrongOf.2.1 150 = .ok (.iconst 2, 1) := by decide +kernel
theorem d_X11_wrongOf_151 : decode m_X11_wrongOf.2.1 151 = .ok (.if_icmp .ge 5, 3) := by decide +kernel
theorem d_X11_wrongOf_154 : decode m_X11_wrongOf.2.1 154 = .ok (.iconst 0, 1) := by decide +kernel
theorem d_X11_wrongOf_155 : decode m_X11_wrongOf.2.1 155 = .ok (.ireturn, 1) := by decide +kernel
theorem d_X11_wrongOf_156 : decode m_X11_wrongOf.2.1 156 = .ok (.iload 6, 2) := by decide +kernel
theorem d_X11_wrongOf_158 : decode m_X11_wrongOf.2.1 158 = .ok (.iconst (-1), 1) := by decide +kernel
theorem d_X11_wrongOf_159 : decode m_X11_wrongOf.2.1 159 = .ok (.if_icmp .ne 5, 3) := by decide +kernel
theorem d_X11_wrongOf_162 : decode m_X11_wrongOf.2.1 162 = .ok (.iconst 5, 1) := by decide +kernel
theorem d_X11_wrongOf_163 : decode m_X11_wrongOf.2.1 163 = .ok (.ireturn, 1) := by decide +kernel
theorem d_X11_wrongOf_164 : decode m_X11_wrongOf.2.1 164 = .ok (.iload 7, 2) := by decide +kernel
theorem d_X11_wrongOf_166 : decode m_X11_wrongOf.2.1 166 = .ok (.iconst 4, 1) := by decide +kernel
theorem d_X11_wrongOf_167 : decode m_X11_wrongOf.2.1 167 = .ok (.if_icmp .ge 23, 3) := by decide +kernel
theorem d_X11_wrongOf_170 : decode m_X11_wrongOf.2.1 170 = .ok (.aload_n 0, 1) := by decide +kernel
theorem d_X11_wrongOf_171 : decode m_X11_wrongOf.2.1 171 = .ok (.getfield 57, 3) := by decide +kernel
theorem d_X11_wrongOf_174 : decode m_X11_wrongOf.2.1 174 = .ok (.iload 5, 2) := by decide +kernel
theorem d_X11_wrongOf_176 : decode m_X11_wrongOf.2.1 176 = .ok (.iload 6, 2) := by decide +kernel
theorem d_X11_wrongOf_178 : decode m_X11_wrongOf.2.1 178 = .ok (.iadd, 1) := by decide +kernel
theorem d_X11_wrongOf_179 : decode m_X11_wrongOf.2.1 179 = .ok (.iaload, 1) := by decide +kernel
theorem d_X11_wrongOf_180 : decode m_X11_wrongOf.2.1 180 = .ok (.iconst 1, 1) := by decide +kernel
theorem d_X11_wrongOf_181 : decode m_X11_wrongOf.2.1 181 = .ok (.if_icmp .ne 7, 3) := by decide +kernel
theorem d_X11_wrongOf_184 : decode m_X11_wrongOf.2.1 184 = .ok (.iconst 0, 1) := by decide +kernel
theorem d_X11_wrongOf_185 : decode m_X11_wrongOf.2.1 185 = .ok (.goto 4, 3) := by decide +kernel
theorem d_X11_wrongOf_188 : decode m_X11_wrongOf.2.1 188 = .ok (.iconst 5, 1) := by decide +kernel
theorem d_X11_wrongOf_189 : decode m_X11_wrongOf.2.1 189 = .ok (.ireturn, 1) := by decide +kernel
theorem d_X11_wrongOf_190 : decode m_X11_wrongOf.2.1 190 = .ok (.aload_n 0, 1) := by decide +kernel
theorem d_X11_wrongOf_191 : decode m_X11_wrongOf.2.1 191 = .ok (.getfield 57, 3) := by decide +kernel
theorem d_X11_wrongOf_194 : decode m_X11_wrongOf.2.1 194 = .ok (.iload 5, 2) := by decide +kernel
theorem d_X11_wrongOf_196 : decode m_X11_wrongOf.2.1 196 = .ok (.iload 6, 2) := by decide +kernel
theorem d_X11_wrongOf_198 : decode m_X11_wrongOf.2.1 198 = .ok (.iadd, 1) := by decide +kernel
theorem d_X11_wrongOf_199 : decode m_X11_wrongOf.2.1 199 = .ok (.iaload, 1) := by decide +kernel
theorem d_X11_wrongOf_200 : decode m_X11_wrongOf.2.1 200 = .ok (.iconst 4, 1) := by decide +kernel
theorem d_X11_wrongOf_201 : decode m_X11_wrongOf.2.1 201 = .ok (.if_icmp .ne 27, 3) := by decide +kernel
theorem d_X11_wrongOf_204 : decode m_X11_wrongOf.2.1 204 = .ok (.iload 4, 2) := by decide +kernel
theorem d_X11_wrongOf_206 : decode m_X11_wrongOf.2.1 206 = .ok (.iload 6, 2) := by decide +kernel
theorem d_X11_wrongOf_208 : decode m_X11_wrongOf.2.1 208 = .ok (.isub, 1) := by decide +kernel
theorem d_X11_wrongOf_209 : decode m_X11_wrongOf.2.1 209 = .ok (.aload_n 0, 1) := by decide +kernel
theorem d_X11_wrongOf_210 : decode m_X11_wrongOf.2.1 210 = .ok (.iload_n 1, 1) := by decide +kernel
theorem d_X11_wrongOf_211 : decode m_X11_wrongOf.2.1 211 = .ok (.aload_n 0, 1) := by decide +kernel
theorem d_X11_wrongOf_212 : decode m_X11_wrongOf.2.1 212 = .ok (.getfield 45, 3) := by decide +kernel
theorem d_X11_wrongOf_215 : decode m_X11_wrongOf.2.1 215 = .ok (.iload 5, 2) := by decide +kernel
theorem d_X11_wrongOf_217 : decode m_X11_wrongOf.2.1 217 = .ok (.iload 6, 2) := by decide +kernel
theorem d_X11_wrongOf_219 : decode m_X11_wrongOf.2.1 219 = .ok (.iadd, 1) := by decide +kernel
theorem d_X11_wrongOf_220 : decode m_X11_wrongOf.2.1 220 = .ok (.iaload, 1) := by decide +kernel
theorem d_X11_wrongOf_221 : decode m_X11_wrongOf.2.1 221 = .ok (.iconst 2, 1) := by decide +kernel
theorem d_X11_wrongOf_222 : decode m_X11_wrongOf.2.1 222 = .ok (.invokevirtual 251, 3) := by decide +kernel
theorem d_X11_wrongOf_225 : decode m_X11_wrongOf.2.1 225 = .ok (.if_icmp .le 5, 3) := by decide +kernel
theorem d_X11_wrongOf_228 : decode m_X11_wrongOf.2.1 228 = .ok (.iconst 5, 1) := by decide +kernel
theorem d_X11_wrongOf_229 : decode m_X11_wrongOf.2.1 229 = .ok (.ireturn, 1) := by decide +kernel
theorem d_X11_wrongOf_230 : decode m_X11_wrongOf.2.1 230 = .ok (.iload 7, 2) := by decide +kernel
theorem d_X11_wrongOf_232 : decode m_X11_wrongOf.2.1 232 = .ok (.bipush 6, 2) := by decide +kernel
theorem d_X11_wrongOf_234 : decode m_X11_wrongOf.2.1 234 = .ok (.if_icmp .ne 24, 3) := by decide +kernel
theorem d_X11_wrongOf_237 : decode m_X11_wrongOf.2.1 237 = .ok (.aload_n 0, 1) := by decide +kernel
theorem d_X11_wrongOf_238 : decode m_X11_wrongOf.2.1 238 = .ok (.getfield 42, 3) := by decide +kernel
theorem d_X11_wrongOf_241 : decode m_X11_wrongOf.2.1 241 = .ok (.iload 5, 2) := by decide +kernel
theorem d_X11_wrongOf_243 : decode m_X11_wrongOf.2.1 243 = .ok (.aload_n 0, 1) := by decide +kernel
theorem d_X11_wrongOf_244 : decode m_X11_wrongOf.2.1 244 = .ok (.getfield 48, 3) := by decide +kernel
theorem d_X11_wrongOf_247 : decode m_X11_wrongOf.2.1 247 = .ok (.iload 5, 2) := by decide +kernel
theorem d_X11_wrongOf_249 : decode m_X11_wrongOf.2.1 249 = .ok (.iload 6, 2) := by decide +kernel
theorem d_X11_wrongOf_251 : decode m_X11_wrongOf.2.1 251 = .ok (.iadd, 1) := by decide +kernel
theorem d_X11_wrongOf_252 : decode m_X11_wrongOf.2.1 252 = .ok (.iaload, 1) := by decide +kernel
theorem d_X11_wrongOf_253 : decode m_X11_wrongOf.2.1 253 = .ok (.iadd, 1) := by decide +kernel
theorem d_X11_wrongOf_254 : decode m_X11_wrongOf.2.1 254 = .ok (.iaload, 1) := by decide +kernel
theorem d_X11_wrongOf_255 : decode m_X11_wrongOf.2.1 255 = .ok (.goto 13, 3) := by decide +kernel
theorem d_X11_wrongOf_258 : decode m_X11_wrongOf.2.1 258 = .ok (.aload_n 0, 1) := by decide +kernel
theorem d_X11_wrongOf_259 : decode m_X11_wrongOf.2.1 259 = .ok (.getfield 42, 3) := by decide +kernel
theorem d_X11_wrongOf_262 : decode m_X11_wrongOf.2.1 262 = .ok (.iload 5, 2) := by decide +kernel
theorem d_X11_wrongOf_264 : decode m_X11_wrongOf.2.1 264 = .ok (.iload 6, 2) := by decide +kernel
theorem d_X11_wrongOf_266 : decode m_X11_wrongOf.2.1 266 = .ok (.iadd, 1) := by decide +kernel
theorem d_X11_wrongOf_267 : decode m_X11_wrongOf.2.1 267 = .ok (.iaload, 1) := by decide +kernel
theorem d_X11_wrongOf_268 : decode m_X11_wrongOf.2.1 268 = .ok (.istore 8, 2) := by decide +kernel
theorem d_X11_wrongOf_270 : decode m_X11_wrongOf.2.1 270 = .ok (.iload 8, 2) := by decide +kernel
theorem d_X11_wrongOf_272 : decode m_X11_wrongOf.2.1 272 = .ok (.iload_n 2, 1) := by decide +kernel
theorem d_X11_wrongOf_273 : decode m_X11_wrongOf.2.1 273 = .ok (.if_icmp .ne 7, 3) := by decide +kernel
theorem d_X11_wrongOf_276 : decode m_X11_wrongOf.2.1 276 = .ok (.iconst 0, 1) := by decide +kernel
theorem d_X11_wrongOf_277 : decode m_X11_wrongOf.2.1 277 = .ok (.goto 5, 3) := by decide +kernel
theorem d_X11_wrongOf_280 : decode m_X11_wrongOf.2.1 280 = .ok (.bipush 6, 2) := by decide +kernel
theorem d_X11_wrongOf_282 : decode m_X11_wrongOf.2.1 282 = .ok (.ireturn, 1) := by decide +kernel
set_option maxRecDepth 20000 in
theorem e_X11_wrongOf {E : jm_E} {d : Nat} {μ : jm_M} {Q : Option jm_V → jm_M → Prop} {v1 v2 v3 : Int} (h : (∀ v ∈ ([jm_R 133, jm_I v1, jm_I v2, jm_I v3] : List jm_V), jm_ok v) →
  (0 ≤ v1 ∧ v1 < 2) ∧
  ∀ x2 : Int, x2 = μ 150 v1 →
  ∀ x3 : Int, x3 = jm_wr (400 * v1) →
  jc E m_X11_answers d [jm_R 133, jm_I v1, jm_I v2, jm_I v3] μ (fun (o : Option jm_V) (m4 : jm_M) => ∀ r5 : Int, o = some (jm_I r5) →
  jc E m_X11_ofKind d [jm_R 133, jm_I v1, jm_I v3, jm_I 1] m4 (fun (o : Option jm_V) (m6 : jm_M) => ∀ r7 : Int, o = some (jm_I r7) →
  jc E m_X11_rule d [jm_R 133, jm_I v1, jm_I 5] m6 (fun (o : Option jm_V) (m8 : jm_M) => ∀ r9 : Int, o = some (jm_I r9) →
  ((r9 ≠ 0 →
    ((r5 ≠ ((-1)) →
      jg E m_X11_wrongOf d 83 [some (jm_R 133), some (jm_I v1), some (jm_I v2), some (jm_I v3), some (jm_I x2), some (jm_I x3), some (jm_I r5), some (jm_I r7), none] [] m8 Q) ∧
     (¬ (r5 ≠ ((-1))) →
      jc E m_X11_ofKind d [jm_R 133, jm_I v1, jm_I v3, jm_I 0] m8 (fun (o : Option jm_V) (m12 : jm_M) => ∀ r13 : Int, o = some (jm_I r13) →
      ((r13 ≠ 0 →
        jg E m_X11_wrongOf d 83 [some (jm_R 133), some (jm_I v1), some (jm_I v2), some (jm_I v3), some (jm_I x2), some (jm_I x3), some (jm_I r5), some (jm_I r7), none] [] m12 Q) ∧
       (¬ (r13 ≠ 0) →
        Q (some (jm_I 2)) m12)))))) ∧
   (¬ (r9 ≠ 0) →
    ((x2 ≤ 0 →
      ((r5 ≠ ((-1)) →
        jg E m_X11_wrongOf d 83 [some (jm_R 133), some (jm_I v1), some (jm_I v2), some (jm_I v3), some (jm_I x2), some (jm_I x3), some (jm_I r5), some (jm_I r7), none] [] m8 Q) ∧
       (¬ (r5 ≠ ((-1))) →
        jc E m_X11_ofKind d [jm_R 133, jm_I v1, jm_I v3, jm_I 0] m8 (fun (o : Option jm_V) (m17 : jm_M) => ∀ r18 : Int, o = some (jm_I r18) →
        ((r18 ≠ 0 →
          jg E m_X11_wrongOf d 83 [some (jm_R 133), some (jm_I v1), some (jm_I v2), some (jm_I v3), some (jm_I x2), some (jm_I x3), some (jm_I r5), some (jm_I r7), none] [] m17 Q) ∧
         (¬ (r18 ≠ 0) →
          Q (some (jm_I 2)) m17)))))) ∧
     (¬ (x2 ≤ 0) →
      (0 ≤ jm_wr ((jm_wr (x3 + x2)) - 1) ∧ jm_wr ((jm_wr (x3 + x2)) - 1) < 800) ∧
      (((m8 144 (jm_wr ((jm_wr (x3 + x2)) - 1))) ≠ v2 →
        ((r5 ≠ ((-1)) →
          jg E m_X11_wrongOf d 83 [some (jm_R 133), some (jm_I v1), some (jm_I v2), some (jm_I v3), some (jm_I x2), some (jm_I x3), some (jm_I r5), some (jm_I r7), none] [] m8 Q) ∧
         (¬ (r5 ≠ ((-1))) →
          jc E m_X11_ofKind d [jm_R 133, jm_I v1, jm_I v3, jm_I 0] m8 (fun (o : Option jm_V) (m23 : jm_M) => ∀ r24 : Int, o = some (jm_I r24) →
          ((r24 ≠ 0 →
            jg E m_X11_wrongOf d 83 [some (jm_R 133), some (jm_I v1), some (jm_I v2), some (jm_I v3), some (jm_I x2), some (jm_I x3), some (jm_I r5), some (jm_I r7), none] [] m23 Q) ∧
           (¬ (r24 ≠ 0) →
            Q (some (jm_I 2)) m23)))))) ∧
       (¬ ((m8 144 (jm_wr ((jm_wr (x3 + x2)) - 1))) ≠ v2) →
        Q (some (jm_I 1)) m8)))))))))) : jc E m_X11_wrongOf (d + 1) [jm_R 133, jm_I v1, jm_I v2, jm_I v3] μ Q := by
  refine jm_Cl.of2 (by decide +kernel) (L0 := [some (jm_R 133), some (jm_I v1), some (jm_I v2), some (jm_I v3), none, none, none, none, none]) rfl (Nat.le_of_ble_eq_true rfl) (fun hok => ?_)
  have h := h hok
  refine jm_aloadn d_X11_wrongOf_0 rfl ?_
  refine jm_getF (k := 29) (ki := 29) rfl cf_X11 (Nat.le_of_ble_eq_true rfl) f_X11_60 d_X11_wrongOf_1 rfl rfl is_133 fr_133_29 ?_
  refine jm_iloadn d_X11_wrongOf_4 rfl ?_
  obtain ⟨f1, h⟩ := h
  refine jm_iaload d_X11_wrongOf_5 (ixl_150 f1.1 f1.2) ?_
  have h := h _ rfl
  refine jm_istore (L' := [some (jm_R _), some (jm_I _), some (jm_I _), some (jm_I _), some (jm_I _), none, none, none, none]) d_X11_wrongOf_6 (Nat.le_of_ble_eq_true rfl) rfl ?_
  refine jm_sipush (v := 400) d_X11_wrongOf_8 rfl (jm_okI (by decide) (by decide)) ?_
  refine jm_iloadn d_X11_wrongOf_11 rfl ?_
  refine jm_imul d_X11_wrongOf_12 ?_
  have h := h _ rfl
  refine jm_istore (L' := [some (jm_R _), some (jm_I _), some (jm_I _), some (jm_I _), some (jm_I _), some (jm_I _), none, none, none]) d_X11_wrongOf_13 (Nat.le_of_ble_eq_true rfl) rfl ?_
  refine jm_aloadn d_X11_wrongOf_15 rfl ?_
  refine jm_iloadn d_X11_wrongOf_16 rfl ?_
  refine jm_iloadn d_X11_wrongOf_17 rfl ?_
  refine jm_iloadn d_X11_wrongOf_18 rfl ?_
  refine jm_invV (n1 := jm_N) (mc := 0) (ms := 0) (av := [jm_I _, jm_I _, jm_I _]) w_X11_answers l_X11_259 d_X11_wrongOf_19 rfl is_133 ⟨_, _, rfl⟩ ⟨Nat.le_refl _, Nat.le_refl _⟩ (Nat.le_of_ble_eq_true rfl) rfl ?_
  refine jm_Cl.mono h (fun o m4 h hr _ => ?_)
  obtain ⟨r5, rfl⟩ := jm_rokI hr
  have h := h _ rfl
  refine jm_istore (L' := [some (jm_R _), some (jm_I _), some (jm_I _), some (jm_I _), some (jm_I _), some (jm_I _), some (jm_I _), none, none]) d_X11_wrongOf_22 (Nat.le_of_ble_eq_true rfl) rfl ?_
  refine jm_aloadn d_X11_wrongOf_24 rfl ?_
  refine jm_iloadn d_X11_wrongOf_25 rfl ?_
  refine jm_iloadn d_X11_wrongOf_26 rfl ?_
  refine jm_iconst (v := 1) d_X11_wrongOf_27 rfl (jm_okI (by decide) (by decide)) ?_
  refine jm_invV (n1 := jm_N) (mc := 0) (ms := 0) (av := [jm_I _, jm_I _, jm_I _]) w_X11_ofKind l_X11_251 d_X11_wrongOf_28 rfl is_133 ⟨_, _, rfl⟩ ⟨Nat.le_refl _, Nat.le_refl _⟩ (Nat.le_of_ble_eq_true rfl) rfl ?_
  refine jm_Cl.mono h (fun o m6 h hr _ => ?_)
  obtain ⟨r7, rfl⟩ := jm_rokI hr
  have h := h _ rfl
  refine jm_istore (L' := [some (jm_R _), some (jm_I _), some (jm_I _), some (jm_I _), some (jm_I _), some (jm_I _), some (jm_I _), some (jm_I _), none]) d_X11_wrongOf_31 (Nat.le_of_ble_eq_true rfl) rfl ?_
  refine jm_aloadn d_X11_wrongOf_33 rfl ?_
  refine jm_iloadn d_X11_wrongOf_34 rfl ?_
  refine jm_iconst (v := 5) d_X11_wrongOf_35 rfl (jm_okI (by decide) (by decide)) ?_
  refine jm_invV (n1 := jm_N) (mc := 0) (ms := 0) (av := [jm_I _, jm_I _]) w_X11_rule l_X11_255 d_X11_wrongOf_36 rfl is_133 ⟨_, _, rfl⟩ ⟨Nat.le_refl _, Nat.le_refl _⟩ (Nat.le_of_ble_eq_true rfl) rfl ?_
  refine jm_Cl.mono h (fun o m8 h hr _ => ?_)
  obtain ⟨r9, rfl⟩ := jm_rokI hr
  have h := h _ rfl
  refine jm_if_ne (tgt := 65) d_X11_wrongOf_39 (by decide) (fun c10 => ?_) (fun c10 => ?_)
  · have h := h.1 c10
    refine jm_iload d_X11_wrongOf_65 rfl ?_
    refine jm_iconst (v := (-1)) d_X11_wrongOf_67 rfl (jm_okI (by decide) (by decide)) ?_
    refine jm_icmp_ne (tgt := 83) d_X11_wrongOf_68 (by decide) (fun c11 => ?_) (fun c11 => ?_)
    · have h := h.1 c11
      exact h
    · have h := h.2 c11
      refine jm_aloadn d_X11_wrongOf_71 rfl ?_
      refine jm_iloadn d_X11_wrongOf_72 rfl ?_
      refine jm_iloadn d_X11_wrongOf_73 rfl ?_
      refine jm_iconst (v := 0) d_X11_wrongOf_74 rfl (jm_okI (by decide) (by decide)) ?_
      refine jm_invV (n1 := jm_N) (mc := 0) (ms := 0) (av := [jm_I _, jm_I _, jm_I _]) w_X11_ofKind l_X11_251 d_X11_wrongOf_75 rfl is_133 ⟨_, _, rfl⟩ ⟨Nat.le_refl _, Nat.le_refl _⟩ (Nat.le_of_ble_eq_true rfl) rfl ?_
      refine jm_Cl.mono h (fun o m12 h hr _ => ?_)
      obtain ⟨r13, rfl⟩ := jm_rokI hr
      have h := h _ rfl
      refine jm_if_ne (tgt := 83) d_X11_wrongOf_78 (by decide) (fun c14 => ?_) (fun c14 => ?_)
      · have h := h.1 c14
        exact h
      · have h := h.2 c14
        refine jm_iconst (v := 2) d_X11_wrongOf_81 rfl (jm_okI (by decide) (by decide)) ?_
        exact jm_ret (o := some (jm_I _)) d_X11_wrongOf_82 rfl ⟨Nat.le_refl _, Nat.le_refl _⟩ jm_r_I h rfl
  · have h := h.2 c10
    refine jm_iload d_X11_wrongOf_42 rfl ?_
    refine jm_if_le (tgt := 65) d_X11_wrongOf_44 (by decide) (fun c15 => ?_) (fun c15 => ?_)
    · have h := h.1 c15
      refine jm_iload d_X11_wrongOf_65 rfl ?_
      refine jm_iconst (v := (-1)) d_X11_wrongOf_67 rfl (jm_okI (by decide) (by decide)) ?_
      refine jm_icmp_ne (tgt := 83) d_X11_wrongOf_68 (by decide) (fun c16 => ?_) (fun c16 => ?_)
      · have h := h.1 c16
        exact h
      · have h := h.2 c16
        refine jm_aloadn d_X11_wrongOf_71 rfl ?_
        refine jm_iloadn d_X11_wrongOf_72 rfl ?_
        refine jm_iloadn d_X11_wrongOf_73 rfl ?_
        refine jm_iconst (v := 0) d_X11_wrongOf_74 rfl (jm_okI (by decide) (by decide)) ?_
        refine jm_invV (n1 := jm_N) (mc := 0) (ms := 0) (av := [jm_I _, jm_I _, jm_I _]) w_X11_ofKind l_X11_251 d_X11_wrongOf_75 rfl is_133 ⟨_, _, rfl⟩ ⟨Nat.le_refl _, Nat.le_refl _⟩ (Nat.le_of_ble_eq_true rfl) rfl ?_
        refine jm_Cl.mono h (fun o m17 h hr _ => ?_)
        obtain ⟨r18, rfl⟩ := jm_rokI hr
        have h := h _ rfl
        refine jm_if_ne (tgt := 83) d_X11_wrongOf_78 (by decide) (fun c19 => ?_) (fun c19 => ?_)
        · have h := h.1 c19
          exact h
        · have h := h.2 c19
          refine jm_iconst (v := 2) d_X11_wrongOf_81 rfl (jm_okI (by decide) (by decide)) ?_
          exact jm_ret (o := some (jm_I _)) d_X11_wrongOf_82 rfl ⟨Nat.le_refl _, Nat.le_refl _⟩ jm_r_I h rfl
    · have h := h.2 c15
      refine jm_aloadn d_X11_wrongOf_47 rfl ?_
      refine jm_getF (k := 23) (ki := 23) rfl cf_X11 (Nat.le_of_ble_eq_true rfl) f_X11_42 d_X11_wrongOf_48 rfl rfl is_133 fr_133_23 ?_
      refine jm_iload d_X11_wrongOf_51 rfl ?_
      refine jm_iload d_X11_wrongOf_53 rfl ?_
      refine jm_iadd d_X11_wrongOf_55 ?_
      refine jm_iconst (v := 1) d_X11_wrongOf_56 rfl (jm_okI (by decide) (by decide)) ?_
      refine jm_isub d_X11_wrongOf_57 ?_
      obtain ⟨f20, h⟩ := h
      refine jm_iaload d_X11_wrongOf_58 (ixl_144 f20.1 f20.2) ?_
      refine jm_iloadn d_X11_wrongOf_59 rfl ?_
      refine jm_icmp_ne (tgt := 65) d_X11_wrongOf_60 (by decide) (fun c21 => ?_) (fun c21 => ?_)
      · have h := h.1 c21
        refine jm_iload d_X11_wrongOf_65 rfl ?_
        refine jm_iconst (v := (-1)) d_X11_wrongOf_67 rfl (jm_okI (by decide) (by decide)) ?_
        refine jm_icmp_ne (tgt := 83) d_X11_wrongOf_68 (by decide) (fun c22 => ?_) (fun c22 => ?_)
        · have h := h.1 c22
          exact h
        · have h := h.2 c22
          refine jm_aloadn d_X11_wrongOf_71 rfl ?_
          refine jm_iloadn d_X11_wrongOf_72 rfl ?_
          refine jm_iloadn d_X11_wrongOf_73 rfl ?_
          refine jm_iconst (v := 0) d_X11_wrongOf_74 rfl (jm_okI (by decide) (by decide)) ?_
          refine jm_invV (n1 := jm_N) (mc := 0) (ms := 0) (av := [jm_I _, jm_I _, jm_I _]) w_X11_ofKind l_X11_251 d_X11_wrongOf_75 rfl is_133 ⟨_, _, rfl⟩ ⟨Nat.le_refl _, Nat.le_refl _⟩ (Nat.le_of_ble_eq_true rfl) rfl ?_
          refine jm_Cl.mono h (fun o m23 h hr _ => ?_)
          obtain ⟨r24, rfl⟩ := jm_rokI hr
          have h := h _ rfl
          refine jm_if_ne (tgt := 83) d_X11_wrongOf_78 (by decide) (fun c25 => ?_) (fun c25 => ?_)
          · have h := h.1 c25
            exact h
          · have h := h.2 c25
            refine jm_iconst (v := 2) d_X11_wrongOf_81 rfl (jm_okI (by decide) (by decide)) ?_
            exact jm_ret (o := some (jm_I _)) d_X11_wrongOf_82 rfl ⟨Nat.le_refl _, Nat.le_refl _⟩ jm_r_I h rfl
      · have h := h.2 c21
        refine jm_iconst (v := 1) d_X11_wrongOf_63 rfl (jm_okI (by decide) (by decide)) ?_
        exact jm_ret (o := some (jm_I _)) d_X11_wrongOf_64 rfl ⟨Nat.le_refl _, Nat.le_refl _⟩ jm_r_I h rfl
set_option maxRecDepth 20000 in
theorem r_X11_wrongOf_83 {E : jm_E} {d : Nat} {μ : jm_M} {Q : Option jm_V → jm_M → Prop} {v1 v2 v3 v4 v5 v6 v7 : Int} (h :
  ((v6 = ((-1)) →
    jg E m_X11_wrongOf d 114 [some (jm_R 133), some (jm_I v1), some (jm_I v2), none, some (jm_I v4), some (jm_I v5), some (jm_I v6), some (jm_I v7), none] [] μ Q) ∧
   (¬ (v6 = ((-1))) →
    jc E m_X11_ofKind d [jm_R 133, jm_I v1, jm_I v3, jm_I 3] μ (fun (o : Option jm_V) (m2 : jm_M) => ∀ r3 : Int, o = some (jm_I r3) →
    (0 ≤ jm_wr (v5 + v6) ∧ jm_wr (v5 + v6) < 800) ∧
    jc E m_X11_has d [jm_I r3, jm_I (m2 145 (jm_wr (v5 + v6)))] m2 (fun (o : Option jm_V) (m5 : jm_M) => ∀ r6 : Int, o = some (jm_I r6) → (r6 = 0 ∨ r6 = 1) →
    ((r6 ≠ 0 →
      jg E m_X11_wrongOf d 114 [some (jm_R 133), some (jm_I v1), some (jm_I v2), none, some (jm_I v4), some (jm_I v5), some (jm_I v6), some (jm_I v7), none] [] m5 Q) ∧
     (¬ (r6 ≠ 0) →
      Q (some (jm_I 3)) m5))))))) : jg E m_X11_wrongOf d 83 [some (jm_R 133), some (jm_I v1), some (jm_I v2), some (jm_I v3), some (jm_I v4), some (jm_I v5), some (jm_I v6), some (jm_I v7), none] [] μ Q := by
  refine jm_iload d_X11_wrongOf_83 rfl ?_
  refine jm_iconst (v := (-1)) d_X11_wrongOf_85 rfl (jm_okI (by decide) (by decide)) ?_
  refine jm_icmp_eq (tgt := 114) d_X11_wrongOf_86 (by decide) (fun c1 => ?_) (fun c1 => ?_)
  · have h := h.1 c1
    exact jm_weak2 h (And.intro rfl (And.intro rfl (And.intro rfl (And.intro rfl (And.intro rfl (And.intro rfl (And.intro rfl trivial)))))))
  · have h := h.2 c1
    refine jm_aloadn d_X11_wrongOf_89 rfl ?_
    refine jm_iloadn d_X11_wrongOf_90 rfl ?_
    refine jm_iloadn d_X11_wrongOf_91 rfl ?_
    refine jm_iconst (v := 3) d_X11_wrongOf_92 rfl (jm_okI (by decide) (by decide)) ?_
    refine jm_invV (n1 := jm_N) (mc := 0) (ms := 0) (av := [jm_I _, jm_I _, jm_I _]) w_X11_ofKind l_X11_251 d_X11_wrongOf_93 rfl is_133 ⟨_, _, rfl⟩ ⟨Nat.le_refl _, Nat.le_refl _⟩ (Nat.le_of_ble_eq_true rfl) rfl ?_
    refine jm_Cl.mono h (fun o m2 h hr _ => ?_)
    obtain ⟨r3, rfl⟩ := jm_rokI hr
    have h := h _ rfl
    refine jm_aloadn d_X11_wrongOf_96 rfl ?_
    refine jm_getF (k := 24) (ki := 24) rfl cf_X11 (Nat.le_of_ble_eq_true rfl) f_X11_45 d_X11_wrongOf_97 rfl rfl is_133 fr_133_24 ?_
    refine jm_iload d_X11_wrongOf_100 rfl ?_
    refine jm_iload d_X11_wrongOf_102 rfl ?_
    refine jm_iadd d_X11_wrongOf_104 ?_
    obtain ⟨f4, h⟩ := h
    refine jm_iaload d_X11_wrongOf_105 (ixl_145 f4.1 f4.2) ?_
    refine jm_invS (n1 := jm_N) (mc := 0) (ms := 0) (av := [jm_I _, jm_I _]) w_X11_has l_X11_215 d_X11_wrongOf_106 rfl ⟨Nat.le_refl _, Nat.le_refl _⟩ (Nat.le_of_ble_eq_true rfl) rfl ?_
    refine jm_Cl.mono h (fun o m5 h hr _ => ?_)
    obtain ⟨r6, rfl, z7⟩ := jm_rokZ hr
    have h := h _ rfl z7
    refine jm_if_ne (tgt := 114) d_X11_wrongOf_109 (by decide) (fun c8 => ?_) (fun c8 => ?_)
    · have h := h.1 c8
      exact jm_weak2 h (And.intro rfl (And.intro rfl (And.intro rfl (And.intro rfl (And.intro rfl (And.intro rfl (And.intro rfl trivial)))))))
    · have h := h.2 c8
      refine jm_iconst (v := 3) d_X11_wrongOf_112 rfl (jm_okI (by decide) (by decide)) ?_
      exact jm_ret (o := some (jm_I _)) d_X11_wrongOf_113 rfl ⟨Nat.le_refl _, Nat.le_refl _⟩ jm_r_I h rfl
set_option maxRecDepth 20000 in
theorem r_X11_wrongOf_114 {E : jm_E} {d : Nat} {μ : jm_M} {Q : Option jm_V → jm_M → Prop} {v1 v2 v4 v5 v6 v7 : Int} (h :
  ((v6 = ((-1)) →
    jg E m_X11_wrongOf d 148 [some (jm_R 133), some (jm_I v1), some (jm_I v2), none, some (jm_I v4), some (jm_I v5), some (jm_I v6), some (jm_I v7), none] [] μ Q) ∧
   (¬ (v6 = ((-1))) →
    (0 ≤ jm_wr (v5 + v6) ∧ jm_wr (v5 + v6) < 800) ∧
    (((μ 144 (jm_wr (v5 + v6))) ≠ v2 →
      jg E m_X11_wrongOf d 148 [some (jm_R 133), some (jm_I v1), some (jm_I v2), none, some (jm_I v4), some (jm_I v5), some (jm_I v6), some (jm_I v7), none] [] μ Q) ∧
     (¬ ((μ 144 (jm_wr (v5 + v6))) ≠ v2) →
      ((v7 = 4 →
        jg E m_X11_wrongOf d 148 [some (jm_R 133), some (jm_I v1), some (jm_I v2), none, some (jm_I v4), some (jm_I v5), some (jm_I v6), some (jm_I v7), none] [] μ Q) ∧
       (¬ (v7 = 4) →
        ((v7 = 5 →
          jg E m_X11_wrongOf d 148 [some (jm_R 133), some (jm_I v1), some (jm_I v2), none, some (jm_I v4), some (jm_I v5), some (jm_I v6), some (jm_I v7), none] [] μ Q) ∧
         (¬ (v7 = 5) →
          Q (some (jm_I 4)) μ))))))))) : jg E m_X11_wrongOf d 114 [some (jm_R 133), some (jm_I v1), some (jm_I v2), none, some (jm_I v4), some (jm_I v5), some (jm_I v6), some (jm_I v7), none] [] μ Q := by
  refine jm_iload d_X11_wrongOf_114 rfl ?_
  refine jm_iconst (v := (-1)) d_X11_wrongOf_116 rfl (jm_okI (by decide) (by decide)) ?_
  refine jm_icmp_eq (tgt := 148) d_X11_wrongOf_117 (by decide) (fun c1 => ?_) (fun c1 => ?_)
  · have h := h.1 c1
    exact h
  · have h := h.2 c1
    refine jm_aloadn d_X11_wrongOf_120 rfl ?_
    refine jm_getF (k := 23) (ki := 23) rfl cf_X11 (Nat.le_of_ble_eq_true rfl) f_X11_42 d_X11_wrongOf_121 rfl rfl is_133 fr_133_23 ?_
    refine jm_iload d_X11_wrongOf_124 rfl ?_
    refine jm_iload d_X11_wrongOf_126 rfl ?_
    refine jm_iadd d_X11_wrongOf_128 ?_
    obtain ⟨f2, h⟩ := h
    refine jm_iaload d_X11_wrongOf_129 (ixl_144 f2.1 f2.2) ?_
    refine jm_iloadn d_X11_wrongOf_130 rfl ?_
    refine jm_icmp_ne (tgt := 148) d_X11_wrongOf_131 (by decide) (fun c3 => ?_) (fun c3 => ?_)
    · have h := h.1 c3
      exact h
    · have h := h.2 c3
      refine jm_iload d_X11_wrongOf_134 rfl ?_
      refine jm_iconst (v := 4) d_X11_wrongOf_136 rfl (jm_okI (by decide) (by decide)) ?_
      refine jm_icmp_eq (tgt := 148) d_X11_wrongOf_137 (by decide) (fun c4 => ?_) (fun c4 => ?_)
      · have h := h.1 c4
        exact h
      · have h := h.2 c4
        refine jm_iload d_X11_wrongOf_140 rfl ?_
        refine jm_iconst (v := 5) d_X11_wrongOf_142 rfl (jm_okI (by decide) (by decide)) ?_
        refine jm_icmp_eq (tgt := 148) d_X11_wrongOf_143 (by decide) (fun c5 => ?_) (fun c5 => ?_)
        · have h := h.1 c5
          exact h
        · have h := h.2 c5
          refine jm_iconst (v := 4) d_X11_wrongOf_146 rfl (jm_okI (by decide) (by decide)) ?_
          exact jm_ret (o := some (jm_I _)) d_X11_wrongOf_147 rfl ⟨Nat.le_refl _, Nat.le_refl _⟩ jm_r_I h rfl
set_option maxRecDepth 20000 in
theorem r_X11_wrongOf_148 {E : jm_E} {d : Nat} {μ : jm_M} {Q : Option jm_V → jm_M → Prop} {v1 v2 v4 v5 v6 v7 : Int} (h :
  ((2 ≤ v7 →
    ((v6 ≠ ((-1)) →
      ((4 ≤ v7 →
        (0 ≤ jm_wr (v5 + v6) ∧ jm_wr (v5 + v6) < 800) ∧
        (((μ 149 (jm_wr (v5 + v6))) ≠ 4 →
          Q (some (jm_I 5)) μ) ∧
         (¬ ((μ 149 (jm_wr (v5 + v6))) ≠ 4) →
          jc E m_X11_ofKind d [jm_R 133, jm_I v1, jm_I (μ 145 (jm_wr (v5 + v6))), jm_I 2] μ (fun (o : Option jm_V) (m6 : jm_M) => ∀ r7 : Int, o = some (jm_I r7) →
          (((jm_wr (v4 - v6)) ≤ r7 →
            ((v7 ≠ 6 →
              ∀ x10 : Int, x10 = m6 144 (jm_wr (v5 + v6)) →
              ((x10 ≠ v2 →
                Q (some (jm_I 6)) m6) ∧
               (¬ (x10 ≠ v2) →
                Q (some (jm_I 0)) m6))) ∧
             (¬ (v7 ≠ 6) →
              (0 ≤ jm_wr (v5 + (m6 146 (jm_wr (v5 + v6)))) ∧ jm_wr (v5 + (m6 146 (jm_wr (v5 + v6)))) < 800) ∧
              ∀ x13 : Int, x13 = m6 144 (jm_wr (v5 + (m6 146 (jm_wr (v5 + v6))))) →
              ((x13 ≠ v2 →
                Q (some (jm_I 6)) m6) ∧
               (¬ (x13 ≠ v2) →
                Q (some (jm_I 0)) m6))))) ∧
           (¬ ((jm_wr (v4 - v6)) ≤ r7) →
            Q (some (jm_I 5)) m6)))))) ∧
       (¬ (4 ≤ v7) →
        (0 ≤ jm_wr (v5 + v6) ∧ jm_wr (v5 + v6) < 800) ∧
        (((μ 149 (jm_wr (v5 + v6))) ≠ 1 →
          Q (some (jm_I 5)) μ) ∧
         (¬ ((μ 149 (jm_wr (v5 + v6))) ≠ 1) →
          Q (some (jm_I 0)) μ))))) ∧
     (¬ (v6 ≠ ((-1))) →
      Q (some (jm_I 5)) μ))) ∧
   (¬ (2 ≤ v7) →
    Q (some (jm_I 0)) μ))) : jg E m_X11_wrongOf d 148 [some (jm_R 133), some (jm_I v1), some (jm_I v2), none, some (jm_I v4), some (jm_I v5), some (jm_I v6), some (jm_I v7), none] [] μ Q := by
  refine jm_iload d_X11_wrongOf_148 rfl ?_
  refine jm_iconst (v := 2) d_X11_wrongOf_150 rfl (jm_okI (by decide) (by decide)) ?_
  refine jm_icmp_ge (tgt := 156) d_X11_wrongOf_151 (by decide) (fun c1 => ?_) (fun c1 => ?_)
  · have h := h.1 c1
    refine jm_iload d_X11_wrongOf_156 rfl ?_
    refine jm_iconst (v := (-1)) d_X11_wrongOf_158 rfl (jm_okI (by decide) (by decide)) ?_
    refine jm_icmp_ne (tgt := 164) d_X11_wrongOf_159 (by decide) (fun c2 => ?_) (fun c2 => ?_)
    · have h := h.1 c2
      refine jm_iload d_X11_wrongOf_164 rfl ?_
      refine jm_iconst (v := 4) d_X11_wrongOf_166 rfl (jm_okI (by decide) (by decide)) ?_
      refine jm_icmp_ge (tgt := 190) d_X11_wrongOf_167 (by decide) (fun c3 => ?_) (fun c3 => ?_)
      · have h := h.1 c3
        refine jm_aloadn d_X11_wrongOf_190 rfl ?_
        refine jm_getF (k := 28) (ki := 28) rfl cf_X11 (Nat.le_of_ble_eq_true rfl) f_X11_57 d_X11_wrongOf_191 rfl rfl is_133 fr_133_28 ?_
        refine jm_iload d_X11_wrongOf_194 rfl ?_
        refine jm_iload d_X11_wrongOf_196 rfl ?_
        refine jm_iadd d_X11_wrongOf_198 ?_
        obtain ⟨f4, h⟩ := h
        refine jm_iaload d_X11_wrongOf_199 (ixl_149 f4.1 f4.2) ?_
        refine jm_iconst (v := 4) d_X11_wrongOf_200 rfl (jm_okI (by decide) (by decide)) ?_
        refine jm_icmp_ne (tgt := 228) d_X11_wrongOf_201 (by decide) (fun c5 => ?_) (fun c5 => ?_)
        · have h := h.1 c5
          refine jm_iconst (v := 5) d_X11_wrongOf_228 rfl (jm_okI (by decide) (by decide)) ?_
          exact jm_ret (o := some (jm_I _)) d_X11_wrongOf_229 rfl ⟨Nat.le_refl _, Nat.le_refl _⟩ jm_r_I h rfl
        · have h := h.2 c5
          refine jm_iload d_X11_wrongOf_204 rfl ?_
          refine jm_iload d_X11_wrongOf_206 rfl ?_
          refine jm_isub d_X11_wrongOf_208 ?_
          refine jm_aloadn d_X11_wrongOf_209 rfl ?_
          refine jm_iloadn d_X11_wrongOf_210 rfl ?_
          refine jm_aloadn d_X11_wrongOf_211 rfl ?_
          refine jm_getF (k := 24) (ki := 24) rfl cf_X11 (Nat.le_of_ble_eq_true rfl) f_X11_45 d_X11_wrongOf_212 rfl rfl is_133 fr_133_24 ?_
          refine jm_iload d_X11_wrongOf_215 rfl ?_
          refine jm_iload d_X11_wrongOf_217 rfl ?_
          refine jm_iadd d_X11_wrongOf_219 ?_
          refine jm_iaload d_X11_wrongOf_220 (ixl_145 f4.1 f4.2) ?_
          refine jm_iconst (v := 2) d_X11_wrongOf_221 rfl (jm_okI (by decide) (by decide)) ?_
          refine jm_invV (n1 := jm_N) (mc := 0) (ms := 0) (av := [jm_I _, jm_I _, jm_I _]) w_X11_ofKind l_X11_251 d_X11_wrongOf_222 rfl is_133 ⟨_, _, rfl⟩ ⟨Nat.le_refl _, Nat.le_refl _⟩ (Nat.le_of_ble_eq_true rfl) rfl ?_
          refine jm_Cl.mono h (fun o m6 h hr _ => ?_)
          obtain ⟨r7, rfl⟩ := jm_rokI hr
          have h := h _ rfl
          refine jm_icmp_le (tgt := 230) d_X11_wrongOf_225 (by decide) (fun c8 => ?_) (fun c8 => ?_)
          · have h := h.1 c8
            refine jm_iload d_X11_wrongOf_230 rfl ?_
            refine jm_bipush (v := 6) d_X11_wrongOf_232 rfl (jm_okI (by decide) (by decide)) ?_
            refine jm_icmp_ne (tgt := 258) d_X11_wrongOf_234 (by decide) (fun c9 => ?_) (fun c9 => ?_)
            · have h := h.1 c9
              refine jm_aloadn d_X11_wrongOf_258 rfl ?_
              refine jm_getF (k := 23) (ki := 23) rfl cf_X11 (Nat.le_of_ble_eq_true rfl) f_X11_42 d_X11_wrongOf_259 rfl rfl is_133 fr_133_23 ?_
              refine jm_iload d_X11_wrongOf_262 rfl ?_
              refine jm_iload d_X11_wrongOf_264 rfl ?_
              refine jm_iadd d_X11_wrongOf_266 ?_
              refine jm_iaload d_X11_wrongOf_267 (ixl_144 f4.1 f4.2) ?_
              have h := h _ rfl
              refine jm_istore (L' := [some (jm_R _), some (jm_I _), some (jm_I _), none, some (jm_I _), some (jm_I _), some (jm_I _), some (jm_I _), some (jm_I _)]) d_X11_wrongOf_268 (Nat.le_of_ble_eq_true rfl) rfl ?_
              refine jm_iload d_X11_wrongOf_270 rfl ?_
              refine jm_iloadn d_X11_wrongOf_272 rfl ?_
              refine jm_icmp_ne (tgt := 280) d_X11_wrongOf_273 (by decide) (fun c11 => ?_) (fun c11 => ?_)
              · have h := h.1 c11
                refine jm_bipush (v := 6) d_X11_wrongOf_280 rfl (jm_okI (by decide) (by decide)) ?_
                exact jm_ret (o := some (jm_I _)) d_X11_wrongOf_282 rfl ⟨Nat.le_refl _, Nat.le_refl _⟩ jm_r_I h rfl
              · have h := h.2 c11
                refine jm_iconst (v := 0) d_X11_wrongOf_276 rfl (jm_okI (by decide) (by decide)) ?_
                refine jm_goto (tgt := 282) d_X11_wrongOf_277 (by decide) ?_
                exact jm_ret (o := some (jm_I _)) d_X11_wrongOf_282 rfl ⟨Nat.le_refl _, Nat.le_refl _⟩ jm_r_I h rfl
            · have h := h.2 c9
              refine jm_aloadn d_X11_wrongOf_237 rfl ?_
              refine jm_getF (k := 23) (ki := 23) rfl cf_X11 (Nat.le_of_ble_eq_true rfl) f_X11_42 d_X11_wrongOf_238 rfl rfl is_133 fr_133_23 ?_
              refine jm_iload d_X11_wrongOf_241 rfl ?_
              refine jm_aloadn d_X11_wrongOf_243 rfl ?_
              refine jm_getF (k := 25) (ki := 25) rfl cf_X11 (Nat.le_of_ble_eq_true rfl) f_X11_48 d_X11_wrongOf_244 rfl rfl is_133 fr_133_25 ?_
              refine jm_iload d_X11_wrongOf_247 rfl ?_
              refine jm_iload d_X11_wrongOf_249 rfl ?_
              refine jm_iadd d_X11_wrongOf_251 ?_
              refine jm_iaload d_X11_wrongOf_252 (ixl_146 f4.1 f4.2) ?_
              refine jm_iadd d_X11_wrongOf_253 ?_
              obtain ⟨f12, h⟩ := h
              refine jm_iaload d_X11_wrongOf_254 (ixl_144 f12.1 f12.2) ?_
              refine jm_goto (tgt := 268) d_X11_wrongOf_255 (by decide) ?_
              have h := h _ rfl
              refine jm_istore (L' := [some (jm_R _), some (jm_I _), some (jm_I _), none, some (jm_I _), some (jm_I _), some (jm_I _), some (jm_I _), some (jm_I _)]) d_X11_wrongOf_268 (Nat.le_of_ble_eq_true rfl) rfl ?_
              refine jm_iload d_X11_wrongOf_270 rfl ?_
              refine jm_iloadn d_X11_wrongOf_272 rfl ?_
              refine jm_icmp_ne (tgt := 280) d_X11_wrongOf_273 (by decide) (fun c14 => ?_) (fun c14 => ?_)
              · have h := h.1 c14
                refine jm_bipush (v := 6) d_X11_wrongOf_280 rfl (jm_okI (by decide) (by decide)) ?_
                exact jm_ret (o := some (jm_I _)) d_X11_wrongOf_282 rfl ⟨Nat.le_refl _, Nat.le_refl _⟩ jm_r_I h rfl
              · have h := h.2 c14
                refine jm_iconst (v := 0) d_X11_wrongOf_276 rfl (jm_okI (by decide) (by decide)) ?_
                refine jm_goto (tgt := 282) d_X11_wrongOf_277 (by decide) ?_
                exact jm_ret (o := some (jm_I _)) d_X11_wrongOf_282 rfl ⟨Nat.le_refl _, Nat.le_refl _⟩ jm_r_I h rfl
          · have h := h.2 c8
            refine jm_iconst (v := 5) d_X11_wrongOf_228 rfl (jm_okI (by decide) (by decide)) ?_
            exact jm_ret (o := some (jm_I _)) d_X11_wrongOf_229 rfl ⟨Nat.le_refl _, Nat.le_refl _⟩ jm_r_I h rfl
      · have h := h.2 c3
        refine jm_aloadn d_X11_wrongOf_170 rfl ?_
        refine jm_getF (k := 28) (ki := 28) rfl cf_X11 (Nat.le_of_ble_eq_true rfl) f_X11_57 d_X11_wrongOf_171 rfl rfl is_133 fr_133_28 ?_
        refine jm_iload d_X11_wrongOf_174 rfl ?_
        refine jm_iload d_X11_wrongOf_176 rfl ?_
        refine jm_iadd d_X11_wrongOf_178 ?_
        obtain ⟨f15, h⟩ := h
        refine jm_iaload d_X11_wrongOf_179 (ixl_149 f15.1 f15.2) ?_
        refine jm_iconst (v := 1) d_X11_wrongOf_180 rfl (jm_okI (by decide) (by decide)) ?_
        refine jm_icmp_ne (tgt := 188) d_X11_wrongOf_181 (by decide) (fun c16 => ?_) (fun c16 => ?_)
        · have h := h.1 c16
          refine jm_iconst (v := 5) d_X11_wrongOf_188 rfl (jm_okI (by decide) (by decide)) ?_
          exact jm_ret (o := some (jm_I _)) d_X11_wrongOf_189 rfl ⟨Nat.le_refl _, Nat.le_refl _⟩ jm_r_I h rfl
        · have h := h.2 c16
          refine jm_iconst (v := 0) d_X11_wrongOf_184 rfl (jm_okI (by decide) (by decide)) ?_
          refine jm_goto (tgt := 189) d_X11_wrongOf_185 (by decide) ?_
          exact jm_ret (o := some (jm_I _)) d_X11_wrongOf_189 rfl ⟨Nat.le_refl _, Nat.le_refl _⟩ jm_r_I h rfl
    · have h := h.2 c2
      refine jm_iconst (v := 5) d_X11_wrongOf_162 rfl (jm_okI (by decide) (by decide)) ?_
      exact jm_ret (o := some (jm_I _)) d_X11_wrongOf_163 rfl ⟨Nat.le_refl _, Nat.le_refl _⟩ jm_r_I h rfl
  · have h := h.2 c1
    refine jm_iconst (v := 0) d_X11_wrongOf_154 rfl (jm_okI (by decide) (by decide)) ?_
    exact jm_ret (o := some (jm_I _)) d_X11_wrongOf_155 rfl ⟨Nat.le_refl _, Nat.le_refl _⟩ jm_r_I h rfl
/-! ('CombTableModel', 'push', '(III)V') -/
theorem d_X11_push_0 : decode m_X11_push.2.1 0 = .ok (.sipush 400, 3) := by decide +kernel
theorem d_X11_push_3 : decode m_X11_push.2.1 3 = .ok (.iload_n 1, 1) := by decide +kernel
theorem d_X11_push_4 : decode m_X11_push.2.1 4 = .ok (.imul, 1) := by decide +kernel
theorem d_X11_push_5 : decode m_X11_push.2.1 5 = .ok (.aload_n 0, 1) := by decide +kernel
theorem d_X11_push_6 : decode m_X11_push.2.1 6 = .ok (.getfield 60, 3) := by decide +kernel
theorem d_X11_push_9 : decode m_X11_push.2.1 9 = .ok (.iload_n 1, 1) := by decide +kernel
theorem d_X11_push_10 : decode m_X11_push.2.1 10 = .ok (.iaload, 1) := by decide +kernel
theorem d_X11_push_11 : decode m_X11_push.2.1 11 = .ok (.iadd, 1) := by decide +kernel
theorem d_X11_push_12 : decode m_X11_push.2.1 12 = .ok (.istore 4, 2) := by decide +kernel
theorem d_X11_push_14 : decode m_X11_push.2.1 14 = .ok (.aload_n 0, 1) := by decide +kernel
theorem d_X11_push_15 : decode m_X11_push.2.1 15 = .ok (.iload_n 1, 1) := by decide +kernel
theorem d_X11_push_16 : decode m_X11_push.2.1 16 = .ok (.iload_n 2, 1) := by decide +kernel
theorem d_X11_push_17 : decode m_X11_push.2.1 17 = .ok (.iload_n 3, 1) := by decide +kernel
theorem d_X11_push_18 : decode m_X11_push.2.1 18 = .ok (.invokevirtual 259, 3) := by decide +kernel
theorem d_X11_push_21 : decode m_X11_push.2.1 21 = .ok (.istore 5, 2) := by decide +kernel
theorem d_X11_push_23 : decode m_X11_push.2.1 23 = .ok (.aload_n 0, 1) := by decide +kernel
theorem d_X11_push_24 : decode m_X11_push.2.1 24 = .ok (.iload_n 1, 1) := by decide +kernel
theorem d_X11_push_25 : decode m_X11_push.2.1 25 = .ok (.iload_n 3, 1) := by decide +kernel
theorem d_X11_push_26 : decode m_X11_push.2.1 26 = .ok (.iconst 1, 1) := by decide +kernel
theorem d_X11_push_27 : decode m_X11_push.2.1 27 = .ok (.invokevirtual 251, 3) := by decide +kernel
theorem d_X11_push_30 : decode m_X11_push.2.1 30 = .ok (.istore 6, 2) := by decide +kernel
theorem d_X11_push_32 : decode m_X11_push.2.1 32 = .ok (.aload_n 0, 1) := by decide +kernel
theorem d_X11_push_33 : decode m_X11_push.2.1 33 = .ok (.getfield 42, 3) := by decide +kernel
theorem d_X11_push_36 : decode m_X11_push.2.1 36 = .ok (.iload 4, 2) := by decide +kernel
theorem d_X11_push_38 : decode m_X11_push.2.1 38 = .ok (.iload_n 2, 1) := by decide +kernel
theorem d_X11_push_39 : decode m_X11_push.2.1 39 = .ok (.iastore, 1) := by decide +kernel
theorem d_X11_push_40 : decode m_X11_push.2.1 40 = .ok (.aload_n 0, 1) := by decide +kernel
theorem d_X11_push_41 : decode m_X11_push.2.1 41 = .ok (.getfield 45, 3) := by decide +kernel
theorem d_X11_push_44 : decode m_X11_push.2.1 44 = .ok (.iload 4, 2) := by decide +kernel
theorem d_X11_push_46 : decode m_X11_push.2.1 46 = .ok (.iload_n 3, 1) := by decide +kernel
theorem d_X11_push_47 : decode m_X11_push.2.1 47 = .ok (.iastore, 1) := by decide +kernel
theorem d_X11_push_48 : decode m_X11_push.2.1 48 = .ok (.aload_n 0, 1) := by decide +kernel
theorem d_X11_push_49 : decode m_X11_push.2.1 49 = .ok (.getfield 48, 3) := by decide +kernel
theorem d_X11_push_52 : decode m_X11_push.2.1 52 = .ok (.iload 4, 2) := by decide +kernel
theorem d_X11_push_54 : decode m_X11_push.2.1 54 = .ok (.iload 5, 2) := by decide +kernel
theorem d_X11_push_56 : decode m_X11_push.2.1 56 = .ok (.iastore, 1) := by decide +kernel
theorem d_X11_push_57 : decode m_X11_push.2.1 57 = .ok (.aload_n 0, 1) := by decide +kernel
theorem d_X11_push_58 : decode m_X11_push.2.1 58 = .ok (.getfield 57, 3) := by decide +kernel
theorem d_X11_push_61 : decode m_X11_push.2.1 61 = .ok (.iload 4, 2) := by decide +kernel
theorem d_X11_push_63 : decode m_X11_push.2.1 63 = .ok (.iload 6, 2) := by decide +kernel
theorem d_X11_push_65 : decode m_X11_push.2.1 65 = .ok (.iconst 1, 1) := by decide +kernel
theorem d_X11_push_66 : decode m_X11_push.2.1 66 = .ok (.if_icmp .ne 7, 3) := by decide +kernel
theorem d_X11_push_69 : decode m_X11_push.2.1 69 = .ok (.iconst 1, 1) := by decide +kernel
theorem d_X11_push_70 : decode m_X11_push.2.1 70 = .ok (.goto 14, 3) := by decide +kernel
theorem d_X11_push_73 : decode m_X11_push.2.1 73 = .ok (.iload 6, 2) := by decide +kernel
theorem d_X11_push_75 : decode m_X11_push.2.1 75 = .ok (.iconst 2, 1) := by decide +kernel
theorem d_X11_push_76 : decode m_X11_push.2.1 76 = .ok (.if_icmp .ne 7, 3) := by decide +kernel
theorem d_X11_push_79 : decode m_X11_push.2.1 79 = .ok (.iconst 4, 1) := by decide +kernel
theorem d_X11_push_80 : decode m_X11_push.2.1 80 = .ok (.goto 4, 3) := by decide +kernel
theorem d_X11_push_83 : decode m_X11_push.2.1 83 = .ok (.iconst 0, 1) := by decide +kernel
theorem d_X11_push_84 : decode m_X11_push.2.1 84 = .ok (.iastore, 1) := by decide +kernel
theorem d_X11_push_85 : decode m_X11_push.2.1 85 = .ok (.iload 5, 2) := by decide +kernel
theorem d_X11_push_87 : decode m_X11_push.2.1 87 = .ok (.iconst (-1), 1) := by decide +kernel
theorem d_X11_push_88 : decode m_X11_push.2.1 88 = .ok (.if_icmp .ne 37, 3) := by decide +kernel
theorem d_X11_push_91 : decode m_X11_push.2.1 91 = .ok (.aload_n 0, 1) := by decide +kernel
theorem d_X11_push_92 : decode m_X11_push.2.1 92 = .ok (.getfield 51, 3) := by decide +kernel
theorem d_X11_push_95 : decode m_X11_push.2.1 95 = .ok (.iload 4, 2) := by decide +kernel
theorem d_X11_push_97 : decode m_X11_push.2.1 97 = .ok (.aload_n 0, 1) := by decide +kernel
theorem d_X11_push_98 : decode m_X11_push.2.1 98 = .ok (.getfield 63, 3) := by decide +kernel
theorem d_X11_push_101 : decode m_X11_push.2.1 101 = .ok (.iload_n 1, 1) := by decide +kernel
theorem d_X11_push_102 : decode m_X11_push.2.1 102 = .ok (.iaload, 1) := by decide +kernel
theorem d_X11_push_103 : decode m_X11_push.2.1 103 = .ok (.iastore, 1) := by decide +kernel
theorem d_X11_push_104 : decode m_X11_push.2.1 104 = .ok (.aload_n 0, 1) := by decide +kernel
theorem d_X11_push_105 : decode m_X11_push.2.1 105 = .ok (.getfield 63, 3) := by decide +kernel
theorem d_X11_push_108 : decode m_X11_push.2.1 108 = .ok (.iload_n 1, 1) := by decide +kernel
theorem d_X11_push_109 : decode m_X11_push.2.1 109 = .ok (.dup2, 1) := by decide +kernel
theorem d_X11_push_110 : decode m_X11_push.2.1 110 = .ok (.iaload, 1) := by decide +kernel
theorem d_X11_push_111 : decode m_X11_push.2.1 111 = .ok (.iconst 1, 1) := by decide +kernel
theorem d_X11_push_112 : decode m_X11_push.2.1 112 = .ok (.iadd, 1) := by decide +kernel
theorem d_X11_push_113 : decode m_X11_push.2.1 113 = .ok (.iastore, 1) := by decide +kernel
theorem d_X11_push_114 : decode m_X11_push.2.1 114 = .ok (.aload_n 0, 1) := by decide +kernel
theorem d_X11_push_115 : decode m_X11_push.2.1 115 = .ok (.getfield 54, 3) := by decide +kernel
theorem d_X11_push_118 : decode m_X11_push.2.1 118 = .ok (.iload 4, 2) := by decide +kernel
theorem d_X11_push_120 : decode m_X11_push.2.1 120 = .ok (.iconst 0, 1) := by decide +kernel
theorem d_X11_push_121 : decode m_X11_push.2.1 121 = .ok (.iastore, 1) := by decide +kernel
theorem d_X11_push_122 : decode m_X11_push.2.1 122 = .ok (.goto 79, 3) := by decide +kernel
theorem d_X11_push_125 : decode m_X11_push.2.1 125 = .ok (.aload_n 0, 1) := by decide +kernel
theorem d_X11_push_126 : decode m_X11_push.2.1 126 = .ok (.getfield 51, 3) := by decide +kernel
theorem d_X11_push_129 : decode m_X11_push.2.1 129 = .ok (.iload 4, 2) := by decide +kernel
theorem d_X11_push_131 : decode m_X11_push.2.1 131 = .ok (.aload_n 0, 1) := by decide +kernel
theorem d_X11_push_132 : decode m_X11_push.2.1 132 = .ok (.getfield 51, 3) := by decide +kernel
theorem d_X11_push_135 : decode m_X11_push.2.1 135 = .ok (.sipush 400, 3) := by decide +kernel
theorem d_X11_push_138 : decode m_X11_push.2.1 138 = .ok (.iload_n 1, 1) := by decide +kernel
theorem d_X11_push_139 : decode m_X11_push.2.1 139 = .ok (.imul, 1) := by decide +kernel
theorem d_X11_push_140 : decode m_X11_push.2.1 140 = .ok (.iload 5, 2) := by decide +kernel
theorem d_X11_push_142 : decode m_X11_push.2.1 142 = .ok (.iadd, 1) := by decide +kernel
theorem d_X11_push_143 : decode m_X11_push.2.1 143 = .ok (.iaload, 1) := by decide +kernel
theorem d_X11_push_144 : decode m_X11_push.2.1 144 = .ok (.iastore, 1) := by decide +kernel
theorem d_X11_push_145 : decode m_X11_push.2.1 145 = .ok (.aload_n 0, 1) := by decide +kernel
theorem d_X11_push_146 : decode m_X11_push.2.1 146 = .ok (.getfield 54, 3) := by decide +kernel
theorem d_X11_push_149 : decode m_X11_push.2.1 149 = .ok (.iload 4, 2) := by decide +kernel
theorem d_X11_push_151 : decode m_X11_push.2.1 151 = .ok (.aload_n 0, 1) := by decide +kernel
theorem d_X11_push_152 : decode m_X11_push.2.1 152 = .ok (.getfield 54, 3) := by decide +kernel
theorem d_X11_push_155 : decode m_X11_push.2.1 155 = .ok (.sipush 400, 3) := by decide +kernel
theorem d_X11_push_158 : decode m_X11_push.2.1 158 = .ok (.iload_n 1, 1) := by decide +kernel
theorem d_X11_push_159 : decode m_X11_push.2.1 159 = .ok (.imul, 1) := by decide +kernel
theorem d_X11_push_160 : decode m_X11_push.2.1 160 = .ok (.iload 5, 2) := by decide +kernel
theorem d_X11_push_162 : decode m_X11_push.2.1 162 = .ok (.iadd, 1) := by decide +kernel
theorem d_X11_push_163 : decode m_X11_push.2.1 163 = .ok (.iaload, 1) := by decide +kernel
theorem d_X11_push_164 : decode m_X11_push.2.1 164 = .ok (.iconst 1, 1) := by decide +kernel
theorem d_X11_push_165 : decode m_X11_push.2.1 165 = .ok (.iadd, 1) := by decide +kernel
theorem d_X11_push_166 : decode m_X11_push.2.1 166 = .ok (.iastore, 1) := by decide +kernel
theorem d_X11_push_167 : decode m_X11_push.2.1 167 = .ok (.iload 6, 2) := by decide +kernel
theorem d_X11_push_169 : decode m_X11_push.2.1 169 = .ok (.iconst 1, 1) := by decide +kernel
theorem d_X11_push_170 : decode m_X11_push.2.1 170 = .ok (.if_icmp .le 31, 3) := by decide +kernel
theorem d_X11_push_173 : decode m_X11_push.2.1 173 = .ok (.aload_n 0, 1) := by decide +kernel
theorem d_X11_push_174 : decode m_X11_push.2.1 174 = .ok (.getfield 57, 3) := by decide +kernel
theorem d_X11_push_177 : decode m_X11_push.2.1 177 = .ok (.sipush 400, 3) := by decide +kernel
theorem d_X11_push_180 : decode m_X11_push.2.1 180 = .ok (.iload_n 1, 1) := by decide +kernel
theorem d_X11_push_181 : decode m_X11_push.2.1 181 = .ok (.imul, 1) := by decide +kernel
theorem d_X11_push_182 : decode m_X11_push.2.1 182 = .ok (.iload 5, 2) := by decide +kernel
theorem d_X11_push_184 : decode m_X11_push.2.1 184 = .ok (.iadd, 1) := by decide +kernel
theorem d_X11_push_185 : decode m_X11_push.2.1 185 = .ok (.iload 6, 2) := by decide +kernel
theorem d_X11_push_187 : decode m_X11_push.2.1 187 = .ok (.iconst 4, 1) := by decide +kernel
theorem d_X11_push_188 : decode m_X11_push.2.1 188 = .ok (.if_icmp .ge 8, 3) := by decide +kernel
theorem d_X11_push_191 : decode m_X11_push.2.1 191 = .ok (.iload 6, 2) := by decide +kernel
theorem d_X11_push_193 : decode m_X11_push.2.1 193 = .ok (.goto 7, 3) := by decide +kernel
theorem d_X11_push_196 : decode m_X11_push.2.1 196 = .ok (.iload 6, 2) := by decide +kernel
theorem d_X11_push_198 : decode m_X11_push.2.1 198 = .ok (.iconst 1, 1) := by decide +kernel
theorem d_X11_push_199 : decode m_X11_push.2.1 199 = .ok (.iadd, 1) := by decide +kernel
theorem d_X11_push_200 : decode m_X11_push.2.1 200 = .ok (.iastore, 1) := by decide +kernel
theorem d_X11_push_201 : decode m_X11_push.2.1 201 = .ok (.aload_n 0, 1) := by decide +kernel
theorem d_X11_push_202 : decode m_X11_push.2.1 202 = .ok (.getfield 60, 3) := by decide +kernel
theorem d_X11_push_205 : decode m_X11_push.2.1 205 = .ok (.iload_n 1, 1) := by decide +kernel
theorem d_X11_push_206 : decode m_X11_push.2.1 206 = .ok (.dup2, 1) := by decide +kernel
theorem d_X11_push_207 : decode m_X11_push.2.1 207 = .ok (.iaload, 1) := by decide +kernel
theorem d_X11_push_208 : decode m_X11_push.2.1 208 = .ok (.iconst 1, 1) := by decide +kernel
theorem d_X11_push_209 : decode m_X11_push.2.1 209 = .ok (.iadd, 1) := by decide +kernel
theorem d_X11_push_210 : decode m_X11_push.2.1 210 = .ok (.iastore, 1) := by decide +kernel
theorem d_X11_push_211 : decode m_X11_push.2.1 211 = .ok (.return_, 1) := by decide +kernel
set_option maxRecDepth 20000 in
theorem e_X11_push {E : jm_E} {d : Nat} {μ : jm_M} {Q : Option jm_V → jm_M → Prop} {v1 v2 v3 : Int} (h : (∀ v ∈ ([jm_R 133, jm_I v1, jm_I v2, jm_I v3] : List jm_V), jm_ok v) →
  (0 ≤ v1 ∧ v1 < 2) ∧
  ∀ x2 : Int, x2 = jm_wr ((jm_wr (400 * v1)) + (μ 150 v1)) →
  jc E m_X11_answers d [jm_R 133, jm_I v1, jm_I v2, jm_I v3] μ (fun (o : Option jm_V) (m3 : jm_M) => ∀ r4 : Int, o = some (jm_I r4) →
  jc E m_X11_ofKind d [jm_R 133, jm_I v1, jm_I v3, jm_I 1] m3 (fun (o : Option jm_V) (m5 : jm_M) => ∀ r6 : Int, o = some (jm_I r6) →
  (0 ≤ x2 ∧ x2 < 800) ∧
  ∀ m8 : jm_M, m8 = (jm_up m5 144 x2 v2) →
  ∀ m9 : jm_M, m9 = (jm_up m8 145 x2 v3) →
  ∀ m10 : jm_M, m10 = (jm_up m9 146 x2 r4) →
  ((r6 ≠ 1 →
    ((r6 ≠ 2 →
      ∀ m13 : jm_M, m13 = (jm_up m10 149 x2 0) →
      ((r4 ≠ ((-1)) →
        (0 ≤ jm_wr ((jm_wr (400 * v1)) + r4) ∧ jm_wr ((jm_wr (400 * v1)) + r4) < 800) ∧
        ∀ m16 : jm_M, m16 = (jm_up m13 147 x2 (m13 147 (jm_wr ((jm_wr (400 * v1)) + r4)))) →
        ∀ m17 : jm_M, m17 = (jm_up m16 148 x2 (jm_wr ((m16 148 (jm_wr ((jm_wr (400 * v1)) + r4))) + 1))) →
        ((r6 ≤ 1 →
          ∀ m19 : jm_M, m19 = (jm_up m17 150 v1 (jm_wr ((m17 150 v1) + 1))) →
          Q none m19) ∧
         (¬ (r6 ≤ 1) →
          ((4 ≤ r6 →
            ∀ m21 : jm_M, m21 = (jm_up m17 149 (jm_wr ((jm_wr (400 * v1)) + r4)) (jm_wr (r6 + 1))) →
            ∀ m22 : jm_M, m22 = (jm_up m21 150 v1 (jm_wr ((m21 150 v1) + 1))) →
            Q none m22) ∧
           (¬ (4 ≤ r6) →
            ∀ m23 : jm_M, m23 = (jm_up m17 149 (jm_wr ((jm_wr (400 * v1)) + r4)) r6) →
            ∀ m24 : jm_M, m24 = (jm_up m23 150 v1 (jm_wr ((m23 150 v1) + 1))) →
            Q none m24))))) ∧
       (¬ (r4 ≠ ((-1))) →
        ∀ m25 : jm_M, m25 = (jm_up m13 147 x2 (m13 151 v1)) →
        ∀ m26 : jm_M, m26 = (jm_up m25 151 v1 (jm_wr ((m25 151 v1) + 1))) →
        ∀ m27 : jm_M, m27 = (jm_up m26 148 x2 0) →
        ∀ m28 : jm_M, m28 = (jm_up m27 150 v1 (jm_wr ((m27 150 v1) + 1))) →
        Q none m28))) ∧
     (¬ (r6 ≠ 2) →
      ∀ m29 : jm_M, m29 = (jm_up m10 149 x2 4) →
      ((r4 ≠ ((-1)) →
        (0 ≤ jm_wr ((jm_wr (400 * v1)) + r4) ∧ jm_wr ((jm_wr (400 * v1)) + r4) < 800) ∧
        ∀ m32 : jm_M, m32 = (jm_up m29 147 x2 (m29 147 (jm_wr ((jm_wr (400 * v1)) + r4)))) →
        ∀ m33 : jm_M, m33 = (jm_up m32 148 x2 (jm_wr ((m32 148 (jm_wr ((jm_wr (400 * v1)) + r4))) + 1))) →
        ((r6 ≤ 1 →
          ∀ m35 : jm_M, m35 = (jm_up m33 150 v1 (jm_wr ((m33 150 v1) + 1))) →
          Q none m35) ∧
         (¬ (r6 ≤ 1) →
          ((4 ≤ r6 →
            ∀ m37 : jm_M, m37 = (jm_up m33 149 (jm_wr ((jm_wr (400 * v1)) + r4)) (jm_wr (r6 + 1))) →
            ∀ m38 : jm_M, m38 = (jm_up m37 150 v1 (jm_wr ((m37 150 v1) + 1))) →
            Q none m38) ∧
           (¬ (4 ≤ r6) →
            ∀ m39 : jm_M, m39 = (jm_up m33 149 (jm_wr ((jm_wr (400 * v1)) + r4)) r6) →
            ∀ m40 : jm_M, m40 = (jm_up m39 150 v1 (jm_wr ((m39 150 v1) + 1))) →
            Q none m40))))) ∧
       (¬ (r4 ≠ ((-1))) →
        ∀ m41 : jm_M, m41 = (jm_up m29 147 x2 (m29 151 v1)) →
        ∀ m42 : jm_M, m42 = (jm_up m41 151 v1 (jm_wr ((m41 151 v1) + 1))) →
        ∀ m43 : jm_M, m43 = (jm_up m42 148 x2 0) →
        ∀ m44 : jm_M, m44 = (jm_up m43 150 v1 (jm_wr ((m43 150 v1) + 1))) →
        Q none m44))))) ∧
   (¬ (r6 ≠ 1) →
    ∀ m45 : jm_M, m45 = (jm_up m10 149 x2 1) →
    ((r4 ≠ ((-1)) →
      (0 ≤ jm_wr ((jm_wr (400 * v1)) + r4) ∧ jm_wr ((jm_wr (400 * v1)) + r4) < 800) ∧
      ∀ m48 : jm_M, m48 = (jm_up m45 147 x2 (m45 147 (jm_wr ((jm_wr (400 * v1)) + r4)))) →
      ∀ m49 : jm_M, m49 = (jm_up m48 148 x2 (jm_wr ((m48 148 (jm_wr ((jm_wr (400 * v1)) + r4))) + 1))) →
      ((r6 ≤ 1 →
        ∀ m51 : jm_M, m51 = (jm_up m49 150 v1 (jm_wr ((m49 150 v1) + 1))) →
        Q none m51) ∧
       (¬ (r6 ≤ 1) →
        ((4 ≤ r6 →
          ∀ m53 : jm_M, m53 = (jm_up m49 149 (jm_wr ((jm_wr (400 * v1)) + r4)) (jm_wr (r6 + 1))) →
          ∀ m54 : jm_M, m54 = (jm_up m53 150 v1 (jm_wr ((m53 150 v1) + 1))) →
          Q none m54) ∧
         (¬ (4 ≤ r6) →
          ∀ m55 : jm_M, m55 = (jm_up m49 149 (jm_wr ((jm_wr (400 * v1)) + r4)) r6) →
          ∀ m56 : jm_M, m56 = (jm_up m55 150 v1 (jm_wr ((m55 150 v1) + 1))) →
          Q none m56))))) ∧
     (¬ (r4 ≠ ((-1))) →
      ∀ m57 : jm_M, m57 = (jm_up m45 147 x2 (m45 151 v1)) →
      ∀ m58 : jm_M, m58 = (jm_up m57 151 v1 (jm_wr ((m57 151 v1) + 1))) →
      ∀ m59 : jm_M, m59 = (jm_up m58 148 x2 0) →
      ∀ m60 : jm_M, m60 = (jm_up m59 150 v1 (jm_wr ((m59 150 v1) + 1))) →
      Q none m60))))))) : jc E m_X11_push (d + 1) [jm_R 133, jm_I v1, jm_I v2, jm_I v3] μ Q := by
  refine jm_Cl.of2 (by decide +kernel) (L0 := [some (jm_R 133), some (jm_I v1), some (jm_I v2), some (jm_I v3), none, none, none]) rfl (Nat.le_of_ble_eq_true rfl) (fun hok => ?_)
  have h := h hok
  refine jm_sipush (v := 400) d_X11_push_0 rfl (jm_okI (by decide) (by decide)) ?_
  refine jm_iloadn d_X11_push_3 rfl ?_
  refine jm_imul d_X11_push_4 ?_
  refine jm_aloadn d_X11_push_5 rfl ?_
  refine jm_getF (k := 29) (ki := 29) rfl cf_X11 (Nat.le_of_ble_eq_true rfl) f_X11_60 d_X11_push_6 rfl rfl is_133 fr_133_29 ?_
  refine jm_iloadn d_X11_push_9 rfl ?_
  obtain ⟨f1, h⟩ := h
  refine jm_iaload d_X11_push_10 (ixl_150 f1.1 f1.2) ?_
  refine jm_iadd d_X11_push_11 ?_
  have h := h _ rfl
  refine jm_istore (L' := [some (jm_R _), some (jm_I _), some (jm_I _), some (jm_I _), some (jm_I _), none, none]) d_X11_push_12 (Nat.le_of_ble_eq_true rfl) rfl ?_
  refine jm_aloadn d_X11_push_14 rfl ?_
  refine jm_iloadn d_X11_push_15 rfl ?_
  refine jm_iloadn d_X11_push_16 rfl ?_
  refine jm_iloadn d_X11_push_17 rfl ?_
  refine jm_invV (n1 := jm_N) (mc := 0) (ms := 0) (av := [jm_I _, jm_I _, jm_I _]) w_X11_answers l_X11_259 d_X11_push_18 rfl is_133 ⟨_, _, rfl⟩ ⟨Nat.le_refl _, Nat.le_refl _⟩ (Nat.le_of_ble_eq_true rfl) rfl ?_
  refine jm_Cl.mono h (fun o m3 h hr _ => ?_)
  obtain ⟨r4, rfl⟩ := jm_rokI hr
  have h := h _ rfl
  refine jm_istore (L' := [some (jm_R _), some (jm_I _), some (jm_I _), some (jm_I _), some (jm_I _), some (jm_I _), none]) d_X11_push_21 (Nat.le_of_ble_eq_true rfl) rfl ?_
  refine jm_aloadn d_X11_push_23 rfl ?_
  refine jm_iloadn d_X11_push_24 rfl ?_
  refine jm_iloadn d_X11_push_25 rfl ?_
  refine jm_iconst (v := 1) d_X11_push_26 rfl (jm_okI (by decide) (by decide)) ?_
  refine jm_invV (n1 := jm_N) (mc := 0) (ms := 0) (av := [jm_I _, jm_I _, jm_I _]) w_X11_ofKind l_X11_251 d_X11_push_27 rfl is_133 ⟨_, _, rfl⟩ ⟨Nat.le_refl _, Nat.le_refl _⟩ (Nat.le_of_ble_eq_true rfl) rfl ?_
  refine jm_Cl.mono h (fun o m5 h hr _ => ?_)
  obtain ⟨r6, rfl⟩ := jm_rokI hr
  have h := h _ rfl
  refine jm_istore (L' := [some (jm_R _), some (jm_I _), some (jm_I _), some (jm_I _), some (jm_I _), some (jm_I _), some (jm_I _)]) d_X11_push_30 (Nat.le_of_ble_eq_true rfl) rfl ?_
  refine jm_aloadn d_X11_push_32 rfl ?_
  refine jm_getF (k := 23) (ki := 23) rfl cf_X11 (Nat.le_of_ble_eq_true rfl) f_X11_42 d_X11_push_33 rfl rfl is_133 fr_133_23 ?_
  refine jm_iload d_X11_push_36 rfl ?_
  refine jm_iloadn d_X11_push_38 rfl ?_
  obtain ⟨f7, h⟩ := h
  refine jm_iastore d_X11_push_39 (ixl_144 f7.1 f7.2) ?_
  have h := h _ rfl
  refine jm_aloadn d_X11_push_40 rfl ?_
  refine jm_getF (k := 24) (ki := 24) rfl cf_X11 (Nat.le_of_ble_eq_true rfl) f_X11_45 d_X11_push_41 rfl rfl is_133 fr_133_24 ?_
  refine jm_iload d_X11_push_44 rfl ?_
  refine jm_iloadn d_X11_push_46 rfl ?_
  refine jm_iastore d_X11_push_47 (ixl_145 f7.1 f7.2) ?_
  have h := h _ rfl
  refine jm_aloadn d_X11_push_48 rfl ?_
  refine jm_getF (k := 25) (ki := 25) rfl cf_X11 (Nat.le_of_ble_eq_true rfl) f_X11_48 d_X11_push_49 rfl rfl is_133 fr_133_25 ?_
  refine jm_iload d_X11_push_52 rfl ?_
  refine jm_iload d_X11_push_54 rfl ?_
  refine jm_iastore d_X11_push_56 (ixl_146 f7.1 f7.2) ?_
  have h := h _ rfl
  refine jm_aloadn d_X11_push_57 rfl ?_
  refine jm_getF (k := 28) (ki := 28) rfl cf_X11 (Nat.le_of_ble_eq_true rfl) f_X11_57 d_X11_push_58 rfl rfl is_133 fr_133_28 ?_
  refine jm_iload d_X11_push_61 rfl ?_
  refine jm_iload d_X11_push_63 rfl ?_
  refine jm_iconst (v := 1) d_X11_push_65 rfl (jm_okI (by decide) (by decide)) ?_
  refine jm_icmp_ne (tgt := 73) d_X11_push_66 (by decide) (fun c11 => ?_) (fun c11 => ?_)
  · have h := h.1 c11
    refine jm_iload d_X11_push_73 rfl ?_
    refine jm_iconst (v := 2) d_X11_push_75 rfl (jm_okI (by decide) (by decide)) ?_
    refine jm_icmp_ne (tgt := 83) d_X11_push_76 (by decide) (fun c12 => ?_) (fun c12 => ?_)
    · have h := h.1 c12
      refine jm_iconst (v := 0) d_X11_push_83 rfl (jm_okI (by decide) (by decide)) ?_
      refine jm_iastore d_X11_push_84 (ixl_149 f7.1 f7.2) ?_
      have h := h _ rfl
      refine jm_iload d_X11_push_85 rfl ?_
      refine jm_iconst (v := (-1)) d_X11_push_87 rfl (jm_okI (by decide) (by decide)) ?_
      refine jm_icmp_ne (tgt := 125) d_X11_push_88 (by decide) (fun c14 => ?_) (fun c14 => ?_)
      · have h := h.1 c14
        refine jm_aloadn d_X11_push_125 rfl ?_
        refine jm_getF (k := 26) (ki := 26) rfl cf_X11 (Nat.le_of_ble_eq_true rfl) f_X11_51 d_X11_push_126 rfl rfl is_133 fr_133_26 ?_
        refine jm_iload d_X11_push_129 rfl ?_
        refine jm_aloadn d_X11_push_131 rfl ?_
        refine jm_getF (k := 26) (ki := 26) rfl cf_X11 (Nat.le_of_ble_eq_true rfl) f_X11_51 d_X11_push_132 rfl rfl is_133 fr_133_26 ?_
        refine jm_sipush (v := 400) d_X11_push_135 rfl (jm_okI (by decide) (by decide)) ?_
        refine jm_iloadn d_X11_push_138 rfl ?_
        refine jm_imul d_X11_push_139 ?_
        refine jm_iload d_X11_push_140 rfl ?_
        refine jm_iadd d_X11_push_142 ?_
        obtain ⟨f15, h⟩ := h
        refine jm_iaload d_X11_push_143 (ixl_147 f15.1 f15.2) ?_
        refine jm_iastore d_X11_push_144 (ixl_147 f7.1 f7.2) ?_
        have h := h _ rfl
        refine jm_aloadn d_X11_push_145 rfl ?_
        refine jm_getF (k := 27) (ki := 27) rfl cf_X11 (Nat.le_of_ble_eq_true rfl) f_X11_54 d_X11_push_146 rfl rfl is_133 fr_133_27 ?_
        refine jm_iload d_X11_push_149 rfl ?_
        refine jm_aloadn d_X11_push_151 rfl ?_
        refine jm_getF (k := 27) (ki := 27) rfl cf_X11 (Nat.le_of_ble_eq_true rfl) f_X11_54 d_X11_push_152 rfl rfl is_133 fr_133_27 ?_
        refine jm_sipush (v := 400) d_X11_push_155 rfl (jm_okI (by decide) (by decide)) ?_
        refine jm_iloadn d_X11_push_158 rfl ?_
        refine jm_imul d_X11_push_159 ?_
        refine jm_iload d_X11_push_160 rfl ?_
        refine jm_iadd d_X11_push_162 ?_
        refine jm_iaload d_X11_push_163 (ixl_148 f15.1 f15.2) ?_
        refine jm_iconst (v := 1) d_X11_push_164 rfl (jm_okI (by decide) (by decide)) ?_
        refine jm_iadd d_X11_push_165 ?_
        refine jm_iastore d_X11_push_166 (ixl_148 f7.1 f7.2) ?_
        have h := h _ rfl
        refine jm_iload d_X11_push_167 rfl ?_
        refine jm_iconst (v := 1) d_X11_push_169 rfl (jm_okI (by decide) (by decide)) ?_
        refine jm_icmp_le (tgt := 201) d_X11_push_170 (by decide) (fun c18 => ?_) (fun c18 => ?_)
        · have h := h.1 c18
          refine jm_aloadn d_X11_push_201 rfl ?_
          refine jm_getF (k := 29) (ki := 29) rfl cf_X11 (Nat.le_of_ble_eq_true rfl) f_X11_60 d_X11_push_202 rfl rfl is_133 fr_133_29 ?_
          refine jm_iloadn d_X11_push_205 rfl ?_
          refine jm_dup2 rfl rfl d_X11_push_206 ?_
          refine jm_iaload d_X11_push_207 (ixl_150 f1.1 f1.2) ?_
          refine jm_iconst (v := 1) d_X11_push_208 rfl (jm_okI (by decide) (by decide)) ?_
          refine jm_iadd d_X11_push_209 ?_
          refine jm_iastore d_X11_push_210 (ixl_150 f1.1 f1.2) ?_
          have h := h _ rfl
          exact jm_ret (o := none) d_X11_push_211 rfl ⟨Nat.le_refl _, Nat.le_refl _⟩ jm_r_V h rfl
        · have h := h.2 c18
          refine jm_aloadn d_X11_push_173 rfl ?_
          refine jm_getF (k := 28) (ki := 28) rfl cf_X11 (Nat.le_of_ble_eq_true rfl) f_X11_57 d_X11_push_174 rfl rfl is_133 fr_133_28 ?_
          refine jm_sipush (v := 400) d_X11_push_177 rfl (jm_okI (by decide) (by decide)) ?_
          refine jm_iloadn d_X11_push_180 rfl ?_
          refine jm_imul d_X11_push_181 ?_
          refine jm_iload d_X11_push_182 rfl ?_
          refine jm_iadd d_X11_push_184 ?_
          refine jm_iload d_X11_push_185 rfl ?_
          refine jm_iconst (v := 4) d_X11_push_187 rfl (jm_okI (by decide) (by decide)) ?_
          refine jm_icmp_ge (tgt := 196) d_X11_push_188 (by decide) (fun c20 => ?_) (fun c20 => ?_)
          · have h := h.1 c20
            refine jm_iload d_X11_push_196 rfl ?_
            refine jm_iconst (v := 1) d_X11_push_198 rfl (jm_okI (by decide) (by decide)) ?_
            refine jm_iadd d_X11_push_199 ?_
            refine jm_iastore d_X11_push_200 (ixl_149 f15.1 f15.2) ?_
            have h := h _ rfl
            refine jm_aloadn d_X11_push_201 rfl ?_
            refine jm_getF (k := 29) (ki := 29) rfl cf_X11 (Nat.le_of_ble_eq_true rfl) f_X11_60 d_X11_push_202 rfl rfl is_133 fr_133_29 ?_
            refine jm_iloadn d_X11_push_205 rfl ?_
            refine jm_dup2 rfl rfl d_X11_push_206 ?_
            refine jm_iaload d_X11_push_207 (ixl_150 f1.1 f1.2) ?_
            refine jm_iconst (v := 1) d_X11_push_208 rfl (jm_okI (by decide) (by decide)) ?_
            refine jm_iadd d_X11_push_209 ?_
            refine jm_iastore d_X11_push_210 (ixl_150 f1.1 f1.2) ?_
            have h := h _ rfl
            exact jm_ret (o := none) d_X11_push_211 rfl ⟨Nat.le_refl _, Nat.le_refl _⟩ jm_r_V h rfl
          · have h := h.2 c20
            refine jm_iload d_X11_push_191 rfl ?_
            refine jm_goto (tgt := 200) d_X11_push_193 (by decide) ?_
            refine jm_iastore d_X11_push_200 (ixl_149 f15.1 f15.2) ?_
            have h := h _ rfl
            refine jm_aloadn d_X11_push_201 rfl ?_
            refine jm_getF (k := 29) (ki := 29) rfl cf_X11 (Nat.le_of_ble_eq_true rfl) f_X11_60 d_X11_push_202 rfl rfl is_133 fr_133_29 ?_
            refine jm_iloadn d_X11_push_205 rfl ?_
            refine jm_dup2 rfl rfl d_X11_push_206 ?_
            refine jm_iaload d_X11_push_207 (ixl_150 f1.1 f1.2) ?_
            refine jm_iconst (v := 1) d_X11_push_208 rfl (jm_okI (by decide) (by decide)) ?_
            refine jm_iadd d_X11_push_209 ?_
            refine jm_iastore d_X11_push_210 (ixl_150 f1.1 f1.2) ?_
            have h := h _ rfl
            exact jm_ret (o := none) d_X11_push_211 rfl ⟨Nat.le_refl _, Nat.le_refl _⟩ jm_r_V h rfl
      · have h := h.2 c14
        refine jm_aloadn d_X11_push_91 rfl ?_
        refine jm_getF (k := 26) (ki := 26) rfl cf_X11 (Nat.le_of_ble_eq_true rfl) f_X11_51 d_X11_push_92 rfl rfl is_133 fr_133_26 ?_
        refine jm_iload d_X11_push_95 rfl ?_
        refine jm_aloadn d_X11_push_97 rfl ?_
        refine jm_getF (k := 30) (ki := 30) rfl cf_X11 (Nat.le_of_ble_eq_true rfl) f_X11_63 d_X11_push_98 rfl rfl is_133 fr_133_30 ?_
        refine jm_iloadn d_X11_push_101 rfl ?_
        refine jm_iaload d_X11_push_102 (ixl_151 f1.1 f1.2) ?_
        refine jm_iastore d_X11_push_103 (ixl_147 f7.1 f7.2) ?_
        have h := h _ rfl
        refine jm_aloadn d_X11_push_104 rfl ?_
        refine jm_getF (k := 30) (ki := 30) rfl cf_X11 (Nat.le_of_ble_eq_true rfl) f_X11_63 d_X11_push_105 rfl rfl is_133 fr_133_30 ?_
        refine jm_iloadn d_X11_push_108 rfl ?_
        refine jm_dup2 rfl rfl d_X11_push_109 ?_
        refine jm_iaload d_X11_push_110 (ixl_151 f1.1 f1.2) ?_
        refine jm_iconst (v := 1) d_X11_push_111 rfl (jm_okI (by decide) (by decide)) ?_
        refine jm_iadd d_X11_push_112 ?_
        refine jm_iastore d_X11_push_113 (ixl_151 f1.1 f1.2) ?_
        have h := h _ rfl
        refine jm_aloadn d_X11_push_114 rfl ?_
        refine jm_getF (k := 27) (ki := 27) rfl cf_X11 (Nat.le_of_ble_eq_true rfl) f_X11_54 d_X11_push_115 rfl rfl is_133 fr_133_27 ?_
        refine jm_iload d_X11_push_118 rfl ?_
        refine jm_iconst (v := 0) d_X11_push_120 rfl (jm_okI (by decide) (by decide)) ?_
        refine jm_iastore d_X11_push_121 (ixl_148 f7.1 f7.2) ?_
        have h := h _ rfl
        refine jm_goto (tgt := 201) d_X11_push_122 (by decide) ?_
        refine jm_aloadn d_X11_push_201 rfl ?_
        refine jm_getF (k := 29) (ki := 29) rfl cf_X11 (Nat.le_of_ble_eq_true rfl) f_X11_60 d_X11_push_202 rfl rfl is_133 fr_133_29 ?_
        refine jm_iloadn d_X11_push_205 rfl ?_
        refine jm_dup2 rfl rfl d_X11_push_206 ?_
        refine jm_iaload d_X11_push_207 (ixl_150 f1.1 f1.2) ?_
        refine jm_iconst (v := 1) d_X11_push_208 rfl (jm_okI (by decide) (by decide)) ?_
        refine jm_iadd d_X11_push_209 ?_
        refine jm_iastore d_X11_push_210 (ixl_150 f1.1 f1.2) ?_
        have h := h _ rfl
        exact jm_ret (o := none) d_X11_push_211 rfl ⟨Nat.le_refl _, Nat.le_refl _⟩ jm_r_V h rfl
    · have h := h.2 c12
      refine jm_iconst (v := 4) d_X11_push_79 rfl (jm_okI (by decide) (by decide)) ?_
      refine jm_goto (tgt := 84) d_X11_push_80 (by decide) ?_
      refine jm_iastore d_X11_push_84 (ixl_149 f7.1 f7.2) ?_
      have h := h _ rfl
      refine jm_iload d_X11_push_85 rfl ?_
      refine jm_iconst (v := (-1)) d_X11_push_87 rfl (jm_okI (by decide) (by decide)) ?_
      refine jm_icmp_ne (tgt := 125) d_X11_push_88 (by decide) (fun c30 => ?_) (fun c30 => ?_)
      · have h := h.1 c30
        refine jm_aloadn d_X11_push_125 rfl ?_
        refine jm_getF (k := 26) (ki := 26) rfl cf_X11 (Nat.le_of_ble_eq_true rfl) f_X11_51 d_X11_push_126 rfl rfl is_133 fr_133_26 ?_
        refine jm_iload d_X11_push_129 rfl ?_
        refine jm_aloadn d_X11_push_131 rfl ?_
        refine jm_getF (k := 26) (ki := 26) rfl cf_X11 (Nat.le_of_ble_eq_true rfl) f_X11_51 d_X11_push_132 rfl rfl is_133 fr_133_26 ?_
        refine jm_sipush (v := 400) d_X11_push_135 rfl (jm_okI (by decide) (by decide)) ?_
        refine jm_iloadn d_X11_push_138 rfl ?_
        refine jm_imul d_X11_push_139 ?_
        refine jm_iload d_X11_push_140 rfl ?_
        refine jm_iadd d_X11_push_142 ?_
        obtain ⟨f31, h⟩ := h
        refine jm_iaload d_X11_push_143 (ixl_147 f31.1 f31.2) ?_
        refine jm_iastore d_X11_push_144 (ixl_147 f7.1 f7.2) ?_
        have h := h _ rfl
        refine jm_aloadn d_X11_push_145 rfl ?_
        refine jm_getF (k := 27) (ki := 27) rfl cf_X11 (Nat.le_of_ble_eq_true rfl) f_X11_54 d_X11_push_146 rfl rfl is_133 fr_133_27 ?_
        refine jm_iload d_X11_push_149 rfl ?_
        refine jm_aloadn d_X11_push_151 rfl ?_
        refine jm_getF (k := 27) (ki := 27) rfl cf_X11 (Nat.le_of_ble_eq_true rfl) f_X11_54 d_X11_push_152 rfl rfl is_133 fr_133_27 ?_
        refine jm_sipush (v := 400) d_X11_push_155 rfl (jm_okI (by decide) (by decide)) ?_
        refine jm_iloadn d_X11_push_158 rfl ?_
        refine jm_imul d_X11_push_159 ?_
        refine jm_iload d_X11_push_160 rfl ?_
        refine jm_iadd d_X11_push_162 ?_
        refine jm_iaload d_X11_push_163 (ixl_148 f31.1 f31.2) ?_
        refine jm_iconst (v := 1) d_X11_push_164 rfl (jm_okI (by decide) (by decide)) ?_
        refine jm_iadd d_X11_push_165 ?_
        refine jm_iastore d_X11_push_166 (ixl_148 f7.1 f7.2) ?_
        have h := h _ rfl
        refine jm_iload d_X11_push_167 rfl ?_
        refine jm_iconst (v := 1) d_X11_push_169 rfl (jm_okI (by decide) (by decide)) ?_
        refine jm_icmp_le (tgt := 201) d_X11_push_170 (by decide) (fun c34 => ?_) (fun c34 => ?_)
        · have h := h.1 c34
          refine jm_aloadn d_X11_push_201 rfl ?_
          refine jm_getF (k := 29) (ki := 29) rfl cf_X11 (Nat.le_of_ble_eq_true rfl) f_X11_60 d_X11_push_202 rfl rfl is_133 fr_133_29 ?_
          refine jm_iloadn d_X11_push_205 rfl ?_
          refine jm_dup2 rfl rfl d_X11_push_206 ?_
          refine jm_iaload d_X11_push_207 (ixl_150 f1.1 f1.2) ?_
          refine jm_iconst (v := 1) d_X11_push_208 rfl (jm_okI (by decide) (by decide)) ?_
          refine jm_iadd d_X11_push_209 ?_
          refine jm_iastore d_X11_push_210 (ixl_150 f1.1 f1.2) ?_
          have h := h _ rfl
          exact jm_ret (o := none) d_X11_push_211 rfl ⟨Nat.le_refl _, Nat.le_refl _⟩ jm_r_V h rfl
        · have h := h.2 c34
          refine jm_aloadn d_X11_push_173 rfl ?_
          refine jm_getF (k := 28) (ki := 28) rfl cf_X11 (Nat.le_of_ble_eq_true rfl) f_X11_57 d_X11_push_174 rfl rfl is_133 fr_133_28 ?_
          refine jm_sipush (v := 400) d_X11_push_177 rfl (jm_okI (by decide) (by decide)) ?_
          refine jm_iloadn d_X11_push_180 rfl ?_
          refine jm_imul d_X11_push_181 ?_
          refine jm_iload d_X11_push_182 rfl ?_
          refine jm_iadd d_X11_push_184 ?_
          refine jm_iload d_X11_push_185 rfl ?_
          refine jm_iconst (v := 4) d_X11_push_187 rfl (jm_okI (by decide) (by decide)) ?_
          refine jm_icmp_ge (tgt := 196) d_X11_push_188 (by decide) (fun c36 => ?_) (fun c36 => ?_)
          · have h := h.1 c36
            refine jm_iload d_X11_push_196 rfl ?_
            refine jm_iconst (v := 1) d_X11_push_198 rfl (jm_okI (by decide) (by decide)) ?_
            refine jm_iadd d_X11_push_199 ?_
            refine jm_iastore d_X11_push_200 (ixl_149 f31.1 f31.2) ?_
            have h := h _ rfl
            refine jm_aloadn d_X11_push_201 rfl ?_
            refine jm_getF (k := 29) (ki := 29) rfl cf_X11 (Nat.le_of_ble_eq_true rfl) f_X11_60 d_X11_push_202 rfl rfl is_133 fr_133_29 ?_
            refine jm_iloadn d_X11_push_205 rfl ?_
            refine jm_dup2 rfl rfl d_X11_push_206 ?_
            refine jm_iaload d_X11_push_207 (ixl_150 f1.1 f1.2) ?_
            refine jm_iconst (v := 1) d_X11_push_208 rfl (jm_okI (by decide) (by decide)) ?_
            refine jm_iadd d_X11_push_209 ?_
            refine jm_iastore d_X11_push_210 (ixl_150 f1.1 f1.2) ?_
            have h := h _ rfl
            exact jm_ret (o := none) d_X11_push_211 rfl ⟨Nat.le_refl _, Nat.le_refl _⟩ jm_r_V h rfl
          · have h := h.2 c36
            refine jm_iload d_X11_push_191 rfl ?_
            refine jm_goto (tgt := 200) d_X11_push_193 (by decide) ?_
            refine jm_iastore d_X11_push_200 (ixl_149 f31.1 f31.2) ?_
            have h := h _ rfl
            refine jm_aloadn d_X11_push_201 rfl ?_
            refine jm_getF (k := 29) (ki := 29) rfl cf_X11 (Nat.le_of_ble_eq_true rfl) f_X11_60 d_X11_push_202 rfl rfl is_133 fr_133_29 ?_
            refine jm_iloadn d_X11_push_205 rfl ?_
            refine jm_dup2 rfl rfl d_X11_push_206 ?_
            refine jm_iaload d_X11_push_207 (ixl_150 f1.1 f1.2) ?_
            refine jm_iconst (v := 1) d_X11_push_208 rfl (jm_okI (by decide) (by decide)) ?_
            refine jm_iadd d_X11_push_209 ?_
            refine jm_iastore d_X11_push_210 (ixl_150 f1.1 f1.2) ?_
            have h := h _ rfl
            exact jm_ret (o := none) d_X11_push_211 rfl ⟨Nat.le_refl _, Nat.le_refl _⟩ jm_r_V h rfl
      · have h := h.2 c30
        refine jm_aloadn d_X11_push_91 rfl ?_
        refine jm_getF (k := 26) (ki := 26) rfl cf_X11 (Nat.le_of_ble_eq_true rfl) f_X11_51 d_X11_push_92 rfl rfl is_133 fr_133_26 ?_
        refine jm_iload d_X11_push_95 rfl ?_
        refine jm_aloadn d_X11_push_97 rfl ?_
        refine jm_getF (k := 30) (ki := 30) rfl cf_X11 (Nat.le_of_ble_eq_true rfl) f_X11_63 d_X11_push_98 rfl rfl is_133 fr_133_30 ?_
        refine jm_iloadn d_X11_push_101 rfl ?_
        refine jm_iaload d_X11_push_102 (ixl_151 f1.1 f1.2) ?_
        refine jm_iastore d_X11_push_103 (ixl_147 f7.1 f7.2) ?_
        have h := h _ rfl
        refine jm_aloadn d_X11_push_104 rfl ?_
        refine jm_getF (k := 30) (ki := 30) rfl cf_X11 (Nat.le_of_ble_eq_true rfl) f_X11_63 d_X11_push_105 rfl rfl is_133 fr_133_30 ?_
        refine jm_iloadn d_X11_push_108 rfl ?_
        refine jm_dup2 rfl rfl d_X11_push_109 ?_
        refine jm_iaload d_X11_push_110 (ixl_151 f1.1 f1.2) ?_
        refine jm_iconst (v := 1) d_X11_push_111 rfl (jm_okI (by decide) (by decide)) ?_
        refine jm_iadd d_X11_push_112 ?_
        refine jm_iastore d_X11_push_113 (ixl_151 f1.1 f1.2) ?_
        have h := h _ rfl
        refine jm_aloadn d_X11_push_114 rfl ?_
        refine jm_getF (k := 27) (ki := 27) rfl cf_X11 (Nat.le_of_ble_eq_true rfl) f_X11_54 d_X11_push_115 rfl rfl is_133 fr_133_27 ?_
        refine jm_iload d_X11_push_118 rfl ?_
        refine jm_iconst (v := 0) d_X11_push_120 rfl (jm_okI (by decide) (by decide)) ?_
        refine jm_iastore d_X11_push_121 (ixl_148 f7.1 f7.2) ?_
        have h := h _ rfl
        refine jm_goto (tgt := 201) d_X11_push_122 (by decide) ?_
        refine jm_aloadn d_X11_push_201 rfl ?_
        refine jm_getF (k := 29) (ki := 29) rfl cf_X11 (Nat.le_of_ble_eq_true rfl) f_X11_60 d_X11_push_202 rfl rfl is_133 fr_133_29 ?_
        refine jm_iloadn d_X11_push_205 rfl ?_
        refine jm_dup2 rfl rfl d_X11_push_206 ?_
        refine jm_iaload d_X11_push_207 (ixl_150 f1.1 f1.2) ?_
        refine jm_iconst (v := 1) d_X11_push_208 rfl (jm_okI (by decide) (by decide)) ?_
        refine jm_iadd d_X11_push_209 ?_
        refine jm_iastore d_X11_push_210 (ixl_150 f1.1 f1.2) ?_
        have h := h _ rfl
        exact jm_ret (o := none) d_X11_push_211 rfl ⟨Nat.le_refl _, Nat.le_refl _⟩ jm_r_V h rfl
  · have h := h.2 c11
    refine jm_iconst (v := 1) d_X11_push_69 rfl (jm_okI (by decide) (by decide)) ?_
    refine jm_goto (tgt := 84) d_X11_push_70 (by decide) ?_
    refine jm_iastore d_X11_push_84 (ixl_149 f7.1 f7.2) ?_
    have h := h _ rfl
    refine jm_iload d_X11_push_85 rfl ?_
    refine jm_iconst (v := (-1)) d_X11_push_87 rfl (jm_okI (by decide) (by decide)) ?_
    refine jm_icmp_ne (tgt := 125) d_X11_push_88 (by decide) (fun c46 => ?_) (fun c46 => ?_)
    · have h := h.1 c46
      refine jm_aloadn d_X11_push_125 rfl ?_
      refine jm_getF (k := 26) (ki := 26) rfl cf_X11 (Nat.le_of_ble_eq_true rfl) f_X11_51 d_X11_push_126 rfl rfl is_133 fr_133_26 ?_
      refine jm_iload d_X11_push_129 rfl ?_
      refine jm_aloadn d_X11_push_131 rfl ?_
      refine jm_getF (k := 26) (ki := 26) rfl cf_X11 (Nat.le_of_ble_eq_true rfl) f_X11_51 d_X11_push_132 rfl rfl is_133 fr_133_26 ?_
      refine jm_sipush (v := 400) d_X11_push_135 rfl (jm_okI (by decide) (by decide)) ?_
      refine jm_iloadn d_X11_push_138 rfl ?_
      refine jm_imul d_X11_push_139 ?_
      refine jm_iload d_X11_push_140 rfl ?_
      refine jm_iadd d_X11_push_142 ?_
      obtain ⟨f47, h⟩ := h
      refine jm_iaload d_X11_push_143 (ixl_147 f47.1 f47.2) ?_
      refine jm_iastore d_X11_push_144 (ixl_147 f7.1 f7.2) ?_
      have h := h _ rfl
      refine jm_aloadn d_X11_push_145 rfl ?_
      refine jm_getF (k := 27) (ki := 27) rfl cf_X11 (Nat.le_of_ble_eq_true rfl) f_X11_54 d_X11_push_146 rfl rfl is_133 fr_133_27 ?_
      refine jm_iload d_X11_push_149 rfl ?_
      refine jm_aloadn d_X11_push_151 rfl ?_
      refine jm_getF (k := 27) (ki := 27) rfl cf_X11 (Nat.le_of_ble_eq_true rfl) f_X11_54 d_X11_push_152 rfl rfl is_133 fr_133_27 ?_
      refine jm_sipush (v := 400) d_X11_push_155 rfl (jm_okI (by decide) (by decide)) ?_
      refine jm_iloadn d_X11_push_158 rfl ?_
      refine jm_imul d_X11_push_159 ?_
      refine jm_iload d_X11_push_160 rfl ?_
      refine jm_iadd d_X11_push_162 ?_
      refine jm_iaload d_X11_push_163 (ixl_148 f47.1 f47.2) ?_
      refine jm_iconst (v := 1) d_X11_push_164 rfl (jm_okI (by decide) (by decide)) ?_
      refine jm_iadd d_X11_push_165 ?_
      refine jm_iastore d_X11_push_166 (ixl_148 f7.1 f7.2) ?_
      have h := h _ rfl
      refine jm_iload d_X11_push_167 rfl ?_
      refine jm_iconst (v := 1) d_X11_push_169 rfl (jm_okI (by decide) (by decide)) ?_
      refine jm_icmp_le (tgt := 201) d_X11_push_170 (by decide) (fun c50 => ?_) (fun c50 => ?_)
      · have h := h.1 c50
        refine jm_aloadn d_X11_push_201 rfl ?_
        refine jm_getF (k := 29) (ki := 29) rfl cf_X11 (Nat.le_of_ble_eq_true rfl) f_X11_60 d_X11_push_202 rfl rfl is_133 fr_133_29 ?_
        refine jm_iloadn d_X11_push_205 rfl ?_
        refine jm_dup2 rfl rfl d_X11_push_206 ?_
        refine jm_iaload d_X11_push_207 (ixl_150 f1.1 f1.2) ?_
        refine jm_iconst (v := 1) d_X11_push_208 rfl (jm_okI (by decide) (by decide)) ?_
        refine jm_iadd d_X11_push_209 ?_
        refine jm_iastore d_X11_push_210 (ixl_150 f1.1 f1.2) ?_
        have h := h _ rfl
        exact jm_ret (o := none) d_X11_push_211 rfl ⟨Nat.le_refl _, Nat.le_refl _⟩ jm_r_V h rfl
      · have h := h.2 c50
        refine jm_aloadn d_X11_push_173 rfl ?_
        refine jm_getF (k := 28) (ki := 28) rfl cf_X11 (Nat.le_of_ble_eq_true rfl) f_X11_57 d_X11_push_174 rfl rfl is_133 fr_133_28 ?_
        refine jm_sipush (v := 400) d_X11_push_177 rfl (jm_okI (by decide) (by decide)) ?_
        refine jm_iloadn d_X11_push_180 rfl ?_
        refine jm_imul d_X11_push_181 ?_
        refine jm_iload d_X11_push_182 rfl ?_
        refine jm_iadd d_X11_push_184 ?_
        refine jm_iload d_X11_push_185 rfl ?_
        refine jm_iconst (v := 4) d_X11_push_187 rfl (jm_okI (by decide) (by decide)) ?_
        refine jm_icmp_ge (tgt := 196) d_X11_push_188 (by decide) (fun c52 => ?_) (fun c52 => ?_)
        · have h := h.1 c52
          refine jm_iload d_X11_push_196 rfl ?_
          refine jm_iconst (v := 1) d_X11_push_198 rfl (jm_okI (by decide) (by decide)) ?_
          refine jm_iadd d_X11_push_199 ?_
          refine jm_iastore d_X11_push_200 (ixl_149 f47.1 f47.2) ?_
          have h := h _ rfl
          refine jm_aloadn d_X11_push_201 rfl ?_
          refine jm_getF (k := 29) (ki := 29) rfl cf_X11 (Nat.le_of_ble_eq_true rfl) f_X11_60 d_X11_push_202 rfl rfl is_133 fr_133_29 ?_
          refine jm_iloadn d_X11_push_205 rfl ?_
          refine jm_dup2 rfl rfl d_X11_push_206 ?_
          refine jm_iaload d_X11_push_207 (ixl_150 f1.1 f1.2) ?_
          refine jm_iconst (v := 1) d_X11_push_208 rfl (jm_okI (by decide) (by decide)) ?_
          refine jm_iadd d_X11_push_209 ?_
          refine jm_iastore d_X11_push_210 (ixl_150 f1.1 f1.2) ?_
          have h := h _ rfl
          exact jm_ret (o := none) d_X11_push_211 rfl ⟨Nat.le_refl _, Nat.le_refl _⟩ jm_r_V h rfl
        · have h := h.2 c52
          refine jm_iload d_X11_push_191 rfl ?_
          refine jm_goto (tgt := 200) d_X11_push_193 (by decide) ?_
          refine jm_iastore d_X11_push_200 (ixl_149 f47.1 f47.2) ?_
          have h := h _ rfl
          refine jm_aloadn d_X11_push_201 rfl ?_
          refine jm_getF (k := 29) (ki := 29) rfl cf_X11 (Nat.le_of_ble_eq_true rfl) f_X11_60 d_X11_push_202 rfl rfl is_133 fr_133_29 ?_
          refine jm_iloadn d_X11_push_205 rfl ?_
          refine jm_dup2 rfl rfl d_X11_push_206 ?_
          refine jm_iaload d_X11_push_207 (ixl_150 f1.1 f1.2) ?_
          refine jm_iconst (v := 1) d_X11_push_208 rfl (jm_okI (by decide) (by decide)) ?_
          refine jm_iadd d_X11_push_209 ?_
          refine jm_iastore d_X11_push_210 (ixl_150 f1.1 f1.2) ?_
          have h := h _ rfl
          exact jm_ret (o := none) d_X11_push_211 rfl ⟨Nat.le_refl _, Nat.le_refl _⟩ jm_r_V h rfl
    · have h := h.2 c46
      refine jm_aloadn d_X11_push_91 rfl ?_
      refine jm_getF (k := 26) (ki := 26) rfl cf_X11 (Nat.le_of_ble_eq_true rfl) f_X11_51 d_X11_push_92 rfl rfl is_133 fr_133_26 ?_
      refine jm_iload d_X11_push_95 rfl ?_
      refine jm_aloadn d_X11_push_97 rfl ?_
      refine jm_getF (k := 30) (ki := 30) rfl cf_X11 (Nat.le_of_ble_eq_true rfl) f_X11_63 d_X11_push_98 rfl rfl is_133 fr_133_30 ?_
      refine jm_iloadn d_X11_push_101 rfl ?_
      refine jm_iaload d_X11_push_102 (ixl_151 f1.1 f1.2) ?_
      refine jm_iastore d_X11_push_103 (ixl_147 f7.1 f7.2) ?_
      have h := h _ rfl
      refine jm_aloadn d_X11_push_104 rfl ?_
      refine jm_getF (k := 30) (ki := 30) rfl cf_X11 (Nat.le_of_ble_eq_true rfl) f_X11_63 d_X11_push_105 rfl rfl is_133 fr_133_30 ?_
      refine jm_iloadn d_X11_push_108 rfl ?_
      refine jm_dup2 rfl rfl d_X11_push_109 ?_
      refine jm_iaload d_X11_push_110 (ixl_151 f1.1 f1.2) ?_
      refine jm_iconst (v := 1) d_X11_push_111 rfl (jm_okI (by decide) (by decide)) ?_
      refine jm_iadd d_X11_push_112 ?_
      refine jm_iastore d_X11_push_113 (ixl_151 f1.1 f1.2) ?_
      have h := h _ rfl
      refine jm_aloadn d_X11_push_114 rfl ?_
      refine jm_getF (k := 27) (ki := 27) rfl cf_X11 (Nat.le_of_ble_eq_true rfl) f_X11_54 d_X11_push_115 rfl rfl is_133 fr_133_27 ?_
      refine jm_iload d_X11_push_118 rfl ?_
      refine jm_iconst (v := 0) d_X11_push_120 rfl (jm_okI (by decide) (by decide)) ?_
      refine jm_iastore d_X11_push_121 (ixl_148 f7.1 f7.2) ?_
      have h := h _ rfl
      refine jm_goto (tgt := 201) d_X11_push_122 (by decide) ?_
      refine jm_aloadn d_X11_push_201 rfl ?_
      refine jm_getF (k := 29) (ki := 29) rfl cf_X11 (Nat.le_of_ble_eq_true rfl) f_X11_60 d_X11_push_202 rfl rfl is_133 fr_133_29 ?_
      refine jm_iloadn d_X11_push_205 rfl ?_
      refine jm_dup2 rfl rfl d_X11_push_206 ?_
      refine jm_iaload d_X11_push_207 (ixl_150 f1.1 f1.2) ?_
      refine jm_iconst (v := 1) d_X11_push_208 rfl (jm_okI (by decide) (by decide)) ?_
      refine jm_iadd d_X11_push_209 ?_
      refine jm_iastore d_X11_push_210 (ixl_150 f1.1 f1.2) ?_
      have h := h _ rfl
      exact jm_ret (o := none) d_X11_push_211 rfl ⟨Nat.le_refl _, Nat.le_refl _⟩ jm_r_V h rfl
/-! ('CombTableModel', 'pop', '(I)V') -/
theorem d_X11_pop_0 : decode m_X11_pop.2.1 0 = .ok (.aload_n 0, 1) := by decide +kernel
theorem d_X11_pop_1 : decode m_X11_pop.2.1 1 = .ok (.getfield 60, 3) := by decide +kernel
theorem d_X11_pop_4 : decode m_X11_pop.2.1 4 = .ok (.iload_n 1, 1) := by decide +kernel
theorem d_X11_pop_5 : decode m_X11_pop.2.1 5 = .ok (.dup2, 1) := by decide +kernel
theorem d_X11_pop_6 : decode m_X11_pop.2.1 6 = .ok (.iaload, 1) := by decide +kernel
theorem d_X11_pop_7 : decode m_X11_pop.2.1 7 = .ok (.iconst 1, 1) := by decide +kernel
theorem d_X11_pop_8 : decode m_X11_pop.2.1 8 = .ok (.isub, 1) := by decide +kernel
theorem d_X11_pop_9 : decode m_X11_pop.2.1 9 = .ok (.iastore, 1) := by decide +kernel
theorem d_X11_pop_10 : decode m_X11_pop.2.1 10 = .ok (.sipush 400, 3) := by decide +kernel
theorem d_X11_pop_13 : decode m_X11_pop.2.1 13 = .ok (.iload_n 1, 1) := by decide +kernel
theorem d_X11_pop_14 : decode m_X11_pop.2.1 14 = .ok (.imul, 1) := by decide +kernel
theorem d_X11_pop_15 : decode m_X11_pop.2.1 15 = .ok (.aload_n 0, 1) := by decide +kernel
theorem d_X11_pop_16 : decode m_X11_pop.2.1 16 = .ok (.getfield 60, 3) := by decide +kernel
theorem d_X11_pop_19 : decode m_X11_pop.2.1 19 = .ok (.iload_n 1, 1) := by decide +kernel
theorem d_X11_pop_20 : decode m_X11_pop.2.1 20 = .ok (.iaload, 1) := by decide +kernel
theorem d_X11_pop_21 : decode m_X11_pop.2.1 21 = .ok (.iadd, 1) := by decide +kernel
theorem d_X11_pop_22 : decode m_X11_pop.2.1 22 = .ok (.istore_n 2, 1) := by decide +kernel
theorem d_X11_pop_23 : decode m_X11_pop.2.1 23 = .ok (.aload_n 0, 1) := by decide +kernel
theorem d_X11_pop_24 : decode m_X11_pop.2.1 24 = .ok (.getfield 48, 3) := by decide +kernel
theorem d_X11_pop_27 : decode m_X11_pop.2.1 27 = .ok (.iload_n 2, 1) := by decide +kernel
theorem d_X11_pop_28 : decode m_X11_pop.2.1 28 = .ok (.iaload, 1) := by decide +kernel
theorem d_X11_pop_29 : decode m_X11_pop.2.1 29 = .ok (.iconst (-1), 1) := by decide +kernel
theorem d_X11_pop_30 : decode m_X11_pop.2.1 30 = .ok (.if_icmp .ne 14, 3) := by decide +kernel
theorem d_X11_pop_33 : decode m_X11_pop.2.1 33 = .ok (.aload_n 0, 1) := by decide +kernel
theorem d_X11_pop_34 : decode m_X11_pop.2.1 34 = .ok (.getfield 63, 3) := by decide +kernel
theorem d_X11_pop_37 : decode m_X11_pop.2.1 37 = .ok (.iload_n 1, 1) := by decide +kernel
theorem d_X11_pop_38 : decode m_X11_pop.2.1 38 = .ok (.dup2, 1) := by decide +kernel
theorem d_X11_pop_39 : decode m_X11_pop.2.1 39 = .ok (.iaload, 1) := by decide +kernel
theorem d_X11_pop_40 : decode m_X11_pop.2.1 40 = .ok (.iconst 1, 1) := by decide +kernel
theorem d_X11_pop_41 : decode m_X11_pop.2.1 41 = .ok (.isub, 1) := by decide +kernel
theorem d_X11_pop_42 : decode m_X11_pop.2.1 42 = .ok (.iastore, 1) := by decide +kernel
theorem d_X11_pop_43 : decode m_X11_pop.2.1 43 = .ok (.return_, 1) := by decide +kernel
theorem d_X11_pop_44 : decode m_X11_pop.2.1 44 = .ok (.aload_n 0, 1) := by decide +kernel
theorem d_X11_pop_45 : decode m_X11_pop.2.1 45 = .ok (.iload_n 1, 1) := by decide +kernel
theorem d_X11_pop_46 : decode m_X11_pop.2.1 46 = .ok (.aload_n 0, 1) := by decide +kernel
theorem d_X11_pop_47 : decode m_X11_pop.2.1 47 = .ok (.getfield 45, 3) := by decide +kernel
theorem d_X11_pop_50 : decode m_X11_pop.2.1 50 = .ok (.iload_n 2, 1) := by decide +kernel
theorem d_X11_pop_51 : decode m_X11_pop.2.1 51 = .ok (.iaload, 1) := by decide +kernel
theorem d_X11_pop_52 : decode m_X11_pop.2.1 52 = .ok (.iconst 1, 1) := by decide +kernel
theorem d_X11_pop_53 : decode m_X11_pop.2.1 53 = .ok (.invokevirtual 251, 3) := by decide +kernel
theorem d_X11_pop_56 : decode m_X11_pop.2.1 56 = .ok (.istore_n 3, 1) := by decide +kernel
theorem d_X11_pop_57 : decode m_X11_pop.2.1 57 = .ok (.iload_n 3, 1) := by decide +kernel
theorem d_X11_pop_58 : decode m_X11_pop.2.1 58 = .ok (.iconst 1, 1) := by decide +kernel
theorem d_X11_pop_59 : decode m_X11_pop.2.1 59 = .ok (.if_icmp .le 30, 3) := by decide +kernel
theorem d_X11_pop_62 : decode m_X11_pop.2.1 62 = .ok (.aload_n 0, 1) := by decide +kernel
theorem d_X11_pop_63 : decode m_X11_pop.2.1 63 = .ok (.getfield 57, 3) := by decide +kernel
theorem d_X11_pop_66 : decode m_X11_pop.2.1 66 = .ok (.sipush 400, 3) := by decide +kernel
theorem d_X11_pop_69 : decode m_X11_pop.2.1 69 = .ok (.iload_n 1, 1) := by decide +kernel
theorem d_X11_pop_70 : decode m_X11_pop.2.1 70 = .ok (.imul, 1) := by decide +kernel
theorem d_X11_pop_71 : decode m_X11_pop.2.1 71 = .ok (.aload_n 0, 1) := by decide +kernel
theorem d_X11_pop_72 : decode m_X11_pop.2.1 72 = .ok (.getfield 48, 3) := by decide +kernel
theorem d_X11_pop_75 : decode m_X11_pop.2.1 75 = .ok (.iload_n 2, 1) := by decide +kernel
theorem d_X11_pop_76 : decode m_X11_pop.2.1 76 = .ok (.iaload, 1) := by decide +kernel
theorem d_X11_pop_77 : decode m_X11_pop.2.1 77 = .ok (.iadd, 1) := by decide +kernel
theorem d_X11_pop_78 : decode m_X11_pop.2.1 78 = .ok (.iload_n 3, 1) := by decide +kernel
theorem d_X11_pop_79 : decode m_X11_pop.2.1 79 = .ok (.iconst 4, 1) := by decide +kernel
theorem d_X11_pop_80 : decode m_X11_pop.2.1 80 = .ok (.if_icmp .ge 7, 3) := by decide +kernel
theorem d_X11_pop_83 : decode m_X11_pop.2.1 83 = .ok (.iconst 1, 1) := by decide +kernel
theorem d_X11_pop_84 : decode m_X11_pop.2.1 84 = .ok (.goto 4, 3) := by decide +kernel
theorem d_X11_pop_87 : decode m_X11_pop.2.1 87 = .ok (.iconst 4, 1) := by decide +kernel
theorem d_X11_pop_88 : decode m_X11_pop.2.1 88 = .ok (.iastore, 1) := by decide +kernel
theorem d_X11_pop_89 : decode m_X11_pop.2.1 89 = .ok (.return_, 1) := by decide +kernel
set_option maxRecDepth 20000 in
theorem e_X11_pop {E : jm_E} {d : Nat} {μ : jm_M} {Q : Option jm_V → jm_M → Prop} {v1 : Int} (h : (∀ v ∈ ([jm_R 133, jm_I v1] : List jm_V), jm_ok v) →
  (0 ≤ v1 ∧ v1 < 2) ∧
  ∀ m2 : jm_M, m2 = (jm_up μ 150 v1 (jm_wr ((μ 150 v1) - 1))) →
  ∀ x3 : Int, x3 = jm_wr ((jm_wr (400 * v1)) + (m2 150 v1)) →
  (0 ≤ x3 ∧ x3 < 800) ∧
  ((m2 146 x3 ≠ ((-1)) →
    jc E m_X11_ofKind d [jm_R 133, jm_I v1, jm_I (m2 145 x3), jm_I 1] m2 (fun (o : Option jm_V) (m6 : jm_M) => ∀ r7 : Int, o = some (jm_I r7) →
    ((r7 ≤ 1 →
      Q none m6) ∧
     (¬ (r7 ≤ 1) →
      ((4 ≤ r7 →
        (0 ≤ jm_wr ((jm_wr (400 * v1)) + (m6 146 x3)) ∧ jm_wr ((jm_wr (400 * v1)) + (m6 146 x3)) < 800) ∧
        ∀ m11 : jm_M, m11 = (jm_up m6 149 (jm_wr ((jm_wr (400 * v1)) + (m6 146 x3))) 4) →
        Q none m11) ∧
       (¬ (4 ≤ r7) →
        (0 ≤ jm_wr ((jm_wr (400 * v1)) + (m6 146 x3)) ∧ jm_wr ((jm_wr (400 * v1)) + (m6 146 x3)) < 800) ∧
        ∀ m13 : jm_M, m13 = (jm_up m6 149 (jm_wr ((jm_wr (400 * v1)) + (m6 146 x3))) 1) →
        Q none m13)))))) ∧
   (¬ (m2 146 x3 ≠ ((-1))) →
    ∀ m14 : jm_M, m14 = (jm_up m2 151 v1 (jm_wr ((m2 151 v1) - 1))) →
    Q none m14))) : jc E m_X11_pop (d + 1) [jm_R 133, jm_I v1] μ Q := by
  refine jm_Cl.of2 (by decide +kernel) (L0 := [some (jm_R 133), some (jm_I v1), none, none]) rfl (Nat.le_of_ble_eq_true rfl) (fun hok => ?_)
  have h := h hok
  refine jm_aloadn d_X11_pop_0 rfl ?_
  refine jm_getF (k := 29) (ki := 29) rfl cf_X11 (Nat.le_of_ble_eq_true rfl) f_X11_60 d_X11_pop_1 rfl rfl is_133 fr_133_29 ?_
  refine jm_iloadn d_X11_pop_4 rfl ?_
  refine jm_dup2 rfl rfl d_X11_pop_5 ?_
  obtain ⟨f1, h⟩ := h
  refine jm_iaload d_X11_pop_6 (ixl_150 f1.1 f1.2) ?_
  refine jm_iconst (v := 1) d_X11_pop_7 rfl (jm_okI (by decide) (by decide)) ?_
  refine jm_isub d_X11_pop_8 ?_
  refine jm_iastore d_X11_pop_9 (ixl_150 f1.1 f1.2) ?_
  have h := h _ rfl
  refine jm_sipush (v := 400) d_X11_pop_10 rfl (jm_okI (by decide) (by decide)) ?_
  refine jm_iloadn d_X11_pop_13 rfl ?_
  refine jm_imul d_X11_pop_14 ?_
  refine jm_aloadn d_X11_pop_15 rfl ?_
  refine jm_getF (k := 29) (ki := 29) rfl cf_X11 (Nat.le_of_ble_eq_true rfl) f_X11_60 d_X11_pop_16 rfl rfl is_133 fr_133_29 ?_
  refine jm_iloadn d_X11_pop_19 rfl ?_
  refine jm_iaload d_X11_pop_20 (ixl_150 f1.1 f1.2) ?_
  refine jm_iadd d_X11_pop_21 ?_
  have h := h _ rfl
  refine jm_istoren (L' := [some (jm_R _), some (jm_I _), some (jm_I _), none]) d_X11_pop_22 (Nat.le_of_ble_eq_true rfl) rfl ?_
  refine jm_aloadn d_X11_pop_23 rfl ?_
  refine jm_getF (k := 25) (ki := 25) rfl cf_X11 (Nat.le_of_ble_eq_true rfl) f_X11_48 d_X11_pop_24 rfl rfl is_133 fr_133_25 ?_
  refine jm_iloadn d_X11_pop_27 rfl ?_
  obtain ⟨f4, h⟩ := h
  refine jm_iaload d_X11_pop_28 (ixl_146 f4.1 f4.2) ?_
  refine jm_iconst (v := (-1)) d_X11_pop_29 rfl (jm_okI (by decide) (by decide)) ?_
  refine jm_icmp_ne (tgt := 44) d_X11_pop_30 (by decide) (fun c5 => ?_) (fun c5 => ?_)
  · have h := h.1 c5
    refine jm_aloadn d_X11_pop_44 rfl ?_
    refine jm_iloadn d_X11_pop_45 rfl ?_
    refine jm_aloadn d_X11_pop_46 rfl ?_
    refine jm_getF (k := 24) (ki := 24) rfl cf_X11 (Nat.le_of_ble_eq_true rfl) f_X11_45 d_X11_pop_47 rfl rfl is_133 fr_133_24 ?_
    refine jm_iloadn d_X11_pop_50 rfl ?_
    refine jm_iaload d_X11_pop_51 (ixl_145 f4.1 f4.2) ?_
    refine jm_iconst (v := 1) d_X11_pop_52 rfl (jm_okI (by decide) (by decide)) ?_
    refine jm_invV (n1 := jm_N) (mc := 0) (ms := 0) (av := [jm_I _, jm_I _, jm_I _]) w_X11_ofKind l_X11_251 d_X11_pop_53 rfl is_133 ⟨_, _, rfl⟩ ⟨Nat.le_refl _, Nat.le_refl _⟩ (Nat.le_of_ble_eq_true rfl) rfl ?_
    refine jm_Cl.mono h (fun o m6 h hr _ => ?_)
    obtain ⟨r7, rfl⟩ := jm_rokI hr
    have h := h _ rfl
    refine jm_istoren (L' := [some (jm_R _), some (jm_I _), some (jm_I _), some (jm_I _)]) d_X11_pop_56 (Nat.le_of_ble_eq_true rfl) rfl ?_
    refine jm_iloadn d_X11_pop_57 rfl ?_
    refine jm_iconst (v := 1) d_X11_pop_58 rfl (jm_okI (by decide) (by decide)) ?_
    refine jm_icmp_le (tgt := 89) d_X11_pop_59 (by decide) (fun c8 => ?_) (fun c8 => ?_)
    · have h := h.1 c8
      exact jm_ret (o := none) d_X11_pop_89 rfl ⟨Nat.le_refl _, Nat.le_refl _⟩ jm_r_V h rfl
    · have h := h.2 c8
      refine jm_aloadn d_X11_pop_62 rfl ?_
      refine jm_getF (k := 28) (ki := 28) rfl cf_X11 (Nat.le_of_ble_eq_true rfl) f_X11_57 d_X11_pop_63 rfl rfl is_133 fr_133_28 ?_
      refine jm_sipush (v := 400) d_X11_pop_66 rfl (jm_okI (by decide) (by decide)) ?_
      refine jm_iloadn d_X11_pop_69 rfl ?_
      refine jm_imul d_X11_pop_70 ?_
      refine jm_aloadn d_X11_pop_71 rfl ?_
      refine jm_getF (k := 25) (ki := 25) rfl cf_X11 (Nat.le_of_ble_eq_true rfl) f_X11_48 d_X11_pop_72 rfl rfl is_133 fr_133_25 ?_
      refine jm_iloadn d_X11_pop_75 rfl ?_
      refine jm_iaload d_X11_pop_76 (ixl_146 f4.1 f4.2) ?_
      refine jm_iadd d_X11_pop_77 ?_
      refine jm_iloadn d_X11_pop_78 rfl ?_
      refine jm_iconst (v := 4) d_X11_pop_79 rfl (jm_okI (by decide) (by decide)) ?_
      refine jm_icmp_ge (tgt := 87) d_X11_pop_80 (by decide) (fun c9 => ?_) (fun c9 => ?_)
      · have h := h.1 c9
        refine jm_iconst (v := 4) d_X11_pop_87 rfl (jm_okI (by decide) (by decide)) ?_
        obtain ⟨f10, h⟩ := h
        refine jm_iastore d_X11_pop_88 (ixl_149 f10.1 f10.2) ?_
        have h := h _ rfl
        exact jm_ret (o := none) d_X11_pop_89 rfl ⟨Nat.le_refl _, Nat.le_refl _⟩ jm_r_V h rfl
      · have h := h.2 c9
        refine jm_iconst (v := 1) d_X11_pop_83 rfl (jm_okI (by decide) (by decide)) ?_
        refine jm_goto (tgt := 88) d_X11_pop_84 (by decide) ?_
        obtain ⟨f12, h⟩ := h
        refine jm_iastore d_X11_pop_88 (ixl_149 f12.1 f12.2) ?_
        have h := h _ rfl
        exact jm_ret (o := none) d_X11_pop_89 rfl ⟨Nat.le_refl _, Nat.le_refl _⟩ jm_r_V h rfl
  · have h := h.2 c5
    refine jm_aloadn d_X11_pop_33 rfl ?_
    refine jm_getF (k := 30) (ki := 30) rfl cf_X11 (Nat.le_of_ble_eq_true rfl) f_X11_63 d_X11_pop_34 rfl rfl is_133 fr_133_30 ?_
    refine jm_iloadn d_X11_pop_37 rfl ?_
    refine jm_dup2 rfl rfl d_X11_pop_38 ?_
    refine jm_iaload d_X11_pop_39 (ixl_151 f1.1 f1.2) ?_
    refine jm_iconst (v := 1) d_X11_pop_40 rfl (jm_okI (by decide) (by decide)) ?_
    refine jm_isub d_X11_pop_41 ?_
    refine jm_iastore d_X11_pop_42 (ixl_151 f1.1 f1.2) ?_
    have h := h _ rfl
    exact jm_ret (o := none) d_X11_pop_43 rfl ⟨Nat.le_refl _, Nat.le_refl _⟩ jm_r_V h rfl
/-! ('CombTableModel', 'stateOf', '(II)I') -/
theorem d_X11_stateOf_0 : decode m_X11_stateOf.2.1 0 = .ok (.aload_n 0, 1) := by decide +kernel
theorem d_X11_stateOf_1 : decode m_X11_stateOf.2.1 1 = .ok (.getfield 57, 3) := by decide +kernel
theorem d_X11_stateOf_4 : decode m_X11_stateOf.2.1 4 = .ok (.sipush 400, 3) := by decide +kernel
theorem d_X11_stateOf_7 : decode m_X11_stateOf.2.1 7 = .ok (.iload_n 1, 1) := by decide +kernel
theorem d_X11_stateOf_8 : decode m_X11_stateOf.2.1 8 = .ok (.imul, 1) := by decide +kernel
theorem d_X11_stateOf_9 : decode m_X11_stateOf.2.1 9 = .ok (.iload_n 2, 1) := by decide +kernel
theorem d_X11_stateOf_10 : decode m_X11_stateOf.2.1 10 = .ok (.iadd, 1) := by decide +kernel
theorem d_X11_stateOf_11 : decode m_X11_stateOf.2.1 11 = .ok (.iaload, 1) := by decide +kernel
theorem d_X11_stateOf_12 : decode m_X11_stateOf.2.1 12 = .ok (.istore_n 3, 1) := by decide +kernel
theorem d_X11_stateOf_13 : decode m_X11_stateOf.2.1 13 = .ok (.iload_n 3, 1) := by decide +kernel
theorem d_X11_stateOf_14 : decode m_X11_stateOf.2.1 14 = .ok (.iconst 4, 1) := by decide +kernel
theorem d_X11_stateOf_15 : decode m_X11_stateOf.2.1 15 = .ok (.if_icmp .ne 39, 3) := by decide +kernel
theorem d_X11_stateOf_18 : decode m_X11_stateOf.2.1 18 = .ok (.aload_n 0, 1) := by decide +kernel
theorem d_X11_stateOf_19 : decode m_X11_stateOf.2.1 19 = .ok (.getfield 60, 3) := by decide +kernel
theorem d_X11_stateOf_22 : decode m_X11_stateOf.2.1 22 = .ok (.iload_n 1, 1) := by decide +kernel
theorem d_X11_stateOf_23 : decode m_X11_stateOf.2.1 23 = .ok (.iaload, 1) := by decide +kernel
theorem d_X11_stateOf_24 : decode m_X11_stateOf.2.1 24 = .ok (.iconst 1, 1) := by decide +kernel
theorem d_X11_stateOf_25 : decode m_X11_stateOf.2.1 25 = .ok (.isub, 1) := by decide +kernel
theorem d_X11_stateOf_26 : decode m_X11_stateOf.2.1 26 = .ok (.iload_n 2, 1) := by decide +kernel
theorem d_X11_stateOf_27 : decode m_X11_stateOf.2.1 27 = .ok (.aload_n 0, 1) := by decide +kernel
theorem d_X11_stateOf_28 : decode m_X11_stateOf.2.1 28 = .ok (.iload_n 1, 1) := by decide +kernel
theorem d_X11_stateOf_29 : decode m_X11_stateOf.2.1 29 = .ok (.aload_n 0, 1) := by decide +kernel
theorem d_X11_stateOf_30 : decode m_X11_stateOf.2.1 30 = .ok (.getfield 45, 3) := by decide +kernel
theorem d_X11_stateOf_33 : decode m_X11_stateOf.2.1 33 = .ok (.sipush 400, 3) := by decide +kernel
theorem d_X11_stateOf_36 : decode m_X11_stateOf.2.1 36 = .ok (.iload_n 1, 1) := by decide +kernel
theorem d_X11_stateOf_37 : decode m_X11_stateOf.2.1 37 = .ok (.imul, 1) := by decide +kernel
theorem d_X11_stateOf_38 : decode m_X11_stateOf.2.1 38 = .ok (.iload_n 2, 1) := by decide +kernel
theorem d_X11_stateOf_39 : decode m_X11_stateOf.2.1 39 = .ok (.iadd, 1) := by decide +kernel
theorem d_X11_stateOf_40 : decode m_X11_stateOf.2.1 40 = .ok (.iaload, 1) := by decide +kernel
theorem d_X11_stateOf_41 : decode m_X11_stateOf.2.1 41 = .ok (.iconst 2, 1) := by decide +kernel
theorem d_X11_stateOf_42 : decode m_X11_stateOf.2.1 42 = .ok (.invokevirtual 251, 3) := by decide +kernel
theorem d_X11_stateOf_45 : decode m_X11_stateOf.2.1 45 = .ok (.iadd, 1) := by decide +kernel
theorem d_X11_stateOf_46 : decode m_X11_stateOf.2.1 46 = .ok (.if_icmp .le 8, 3) := by decide +kernel
theorem d_X11_stateOf_49 : decode m_X11_stateOf.2.1 49 = .ok (.bipush 8, 2) := by decide +kernel
theorem d_X11_stateOf_51 : decode m_X11_stateOf.2.1 51 = .ok (.goto 4, 3) := by decide +kernel
theorem d_X11_stateOf_54 : decode m_X11_stateOf.2.1 54 = .ok (.iload_n 3, 1) := by decide +kernel
theorem d_X11_stateOf_55 : decode m_X11_stateOf.2.1 55 = .ok (.ireturn, 1) := by decide +kernel
set_option maxRecDepth 20000 in
theorem e_X11_stateOf {E : jm_E} {d : Nat} {μ : jm_M} {Q : Option jm_V → jm_M → Prop} {v1 v2 : Int} (h : (∀ v ∈ ([jm_R 133, jm_I v1, jm_I v2] : List jm_V), jm_ok v) →
  (0 ≤ jm_wr ((jm_wr (400 * v1)) + v2) ∧ jm_wr ((jm_wr (400 * v1)) + v2) < 800) ∧
  ∀ x2 : Int, x2 = μ 149 (jm_wr ((jm_wr (400 * v1)) + v2)) →
  ((x2 ≠ 4 →
    Q (some (jm_I x2)) μ) ∧
   (¬ (x2 ≠ 4) →
    (0 ≤ v1 ∧ v1 < 2) ∧
    jc E m_X11_ofKind d [jm_R 133, jm_I v1, jm_I (μ 145 (jm_wr ((jm_wr (400 * v1)) + v2))), jm_I 2] μ (fun (o : Option jm_V) (m5 : jm_M) => ∀ r6 : Int, o = some (jm_I r6) →
    (((jm_wr ((μ 150 v1) - 1)) ≤ (jm_wr (v2 + r6)) →
      Q (some (jm_I x2)) m5) ∧
     (¬ ((jm_wr ((μ 150 v1) - 1)) ≤ (jm_wr (v2 + r6))) →
      Q (some (jm_I 8)) m5)))))) : jc E m_X11_stateOf (d + 1) [jm_R 133, jm_I v1, jm_I v2] μ Q := by
  refine jm_Cl.of2 (by decide +kernel) (L0 := [some (jm_R 133), some (jm_I v1), some (jm_I v2), none]) rfl (Nat.le_of_ble_eq_true rfl) (fun hok => ?_)
  have h := h hok
  refine jm_aloadn d_X11_stateOf_0 rfl ?_
  refine jm_getF (k := 28) (ki := 28) rfl cf_X11 (Nat.le_of_ble_eq_true rfl) f_X11_57 d_X11_stateOf_1 rfl rfl is_133 fr_133_28 ?_
  refine jm_sipush (v := 400) d_X11_stateOf_4 rfl (jm_okI (by decide) (by decide)) ?_
  refine jm_iloadn d_X11_stateOf_7 rfl ?_
  refine jm_imul d_X11_stateOf_8 ?_
  refine jm_iloadn d_X11_stateOf_9 rfl ?_
  refine jm_iadd d_X11_stateOf_10 ?_
  obtain ⟨f1, h⟩ := h
  refine jm_iaload d_X11_stateOf_11 (ixl_149 f1.1 f1.2) ?_
  have h := h _ rfl
  refine jm_istoren (L' := [some (jm_R _), some (jm_I _), some (jm_I _), some (jm_I _)]) d_X11_stateOf_12 (Nat.le_of_ble_eq_true rfl) rfl ?_
  refine jm_iloadn d_X11_stateOf_13 rfl ?_
  refine jm_iconst (v := 4) d_X11_stateOf_14 rfl (jm_okI (by decide) (by decide)) ?_
  refine jm_icmp_ne (tgt := 54) d_X11_stateOf_15 (by decide) (fun c3 => ?_) (fun c3 => ?_)
  · have h := h.1 c3
    refine jm_iloadn d_X11_stateOf_54 rfl ?_
    exact jm_ret (o := some (jm_I _)) d_X11_stateOf_55 rfl ⟨Nat.le_refl _, Nat.le_refl _⟩ jm_r_I h rfl
  · have h := h.2 c3
    refine jm_aloadn d_X11_stateOf_18 rfl ?_
    refine jm_getF (k := 29) (ki := 29) rfl cf_X11 (Nat.le_of_ble_eq_true rfl) f_X11_60 d_X11_stateOf_19 rfl rfl is_133 fr_133_29 ?_
    refine jm_iloadn d_X11_stateOf_22 rfl ?_
    obtain ⟨f4, h⟩ := h
    refine jm_iaload d_X11_stateOf_23 (ixl_150 f4.1 f4.2) ?_
    refine jm_iconst (v := 1) d_X11_stateOf_24 rfl (jm_okI (by decide) (by decide)) ?_
    refine jm_isub d_X11_stateOf_25 ?_
    refine jm_iloadn d_X11_stateOf_26 rfl ?_
    refine jm_aloadn d_X11_stateOf_27 rfl ?_
    refine jm_iloadn d_X11_stateOf_28 rfl ?_
    refine jm_aloadn d_X11_stateOf_29 rfl ?_
    refine jm_getF (k := 24) (ki := 24) rfl cf_X11 (Nat.le_of_ble_eq_true rfl) f_X11_45 d_X11_stateOf_30 rfl rfl is_133 fr_133_24 ?_
    refine jm_sipush (v := 400) d_X11_stateOf_33 rfl (jm_okI (by decide) (by decide)) ?_
    refine jm_iloadn d_X11_stateOf_36 rfl ?_
    refine jm_imul d_X11_stateOf_37 ?_
    refine jm_iloadn d_X11_stateOf_38 rfl ?_
    refine jm_iadd d_X11_stateOf_39 ?_
    refine jm_iaload d_X11_stateOf_40 (ixl_145 f1.1 f1.2) ?_
    refine jm_iconst (v := 2) d_X11_stateOf_41 rfl (jm_okI (by decide) (by decide)) ?_
    refine jm_invV (n1 := jm_N) (mc := 0) (ms := 0) (av := [jm_I _, jm_I _, jm_I _]) w_X11_ofKind l_X11_251 d_X11_stateOf_42 rfl is_133 ⟨_, _, rfl⟩ ⟨Nat.le_refl _, Nat.le_refl _⟩ (Nat.le_of_ble_eq_true rfl) rfl ?_
    refine jm_Cl.mono h (fun o m5 h hr _ => ?_)
    obtain ⟨r6, rfl⟩ := jm_rokI hr
    have h := h _ rfl
    refine jm_iadd d_X11_stateOf_45 ?_
    refine jm_icmp_le (tgt := 54) d_X11_stateOf_46 (by decide) (fun c7 => ?_) (fun c7 => ?_)
    · have h := h.1 c7
      refine jm_iloadn d_X11_stateOf_54 rfl ?_
      exact jm_ret (o := some (jm_I _)) d_X11_stateOf_55 rfl ⟨Nat.le_refl _, Nat.le_refl _⟩ jm_r_I h rfl
    · have h := h.2 c7
      refine jm_bipush (v := 8) d_X11_stateOf_49 rfl (jm_okI (by decide) (by decide)) ?_
      refine jm_goto (tgt := 55) d_X11_stateOf_51 (by decide) ?_
      exact jm_ret (o := some (jm_I _)) d_X11_stateOf_55 rfl ⟨Nat.le_refl _, Nat.le_refl _⟩ jm_r_I h rfl
/-! ('CombTableModel', 'lay', '()V') -/
theorem d_X11_lay_0 : decode m_X11_lay.2.1 0 = .ok (.aload_n 0, 1) := by decide +kernel
theorem d_X11_lay_1 : decode m_X11_lay.2.1 1 = .ok (.iconst 0, 1) := by decide +kernel
theorem d_X11_lay_2 : decode m_X11_lay.2.1 2 = .ok (.aload_n 0, 1) := by decide +kernel
theorem d_X11_lay_3 : decode m_X11_lay.2.1 3 = .ok (.getfield 13, 3) := by decide +kernel
theorem d_X11_lay_6 : decode m_X11_lay.2.1 6 = .ok (.iconst 0, 1) := by decide +kernel
theorem d_X11_lay_7 : decode m_X11_lay.2.1 7 = .ok (.invokevirtual 262, 3) := by decide +kernel
theorem d_X11_lay_10 : decode m_X11_lay.2.1 10 = .ok (.iconst 0, 1) := by decide +kernel
theorem d_X11_lay_11 : decode m_X11_lay.2.1 11 = .ok (.istore_n 1, 1) := by decide +kernel
theorem d_X11_lay_12 : decode m_X11_lay.2.1 12 = .ok (.iload_n 1, 1) := by decide +kernel
theorem d_X11_lay_13 : decode m_X11_lay.2.1 13 = .ok (.aload_n 0, 1) := by decide +kernel
theorem d_X11_lay_14 : decode m_X11_lay.2.1 14 = .ok (.getfield 13, 3) := by decide +kernel
theorem d_X11_lay_17 : decode m_X11_lay.2.1 17 = .ok (.bipush 60, 2) := by decide +kernel
theorem d_X11_lay_19 : decode m_X11_lay.2.1 19 = .ok (.iaload, 1) := by decide +kernel
theorem d_X11_lay_20 : decode m_X11_lay.2.1 20 = .ok (.if_icmp .ge 38, 3) := by decide +kernel
theorem d_X11_lay_23 : decode m_X11_lay.2.1 23 = .ok (.aload_n 0, 1) := by decide +kernel
theorem d_X11_lay_24 : decode m_X11_lay.2.1 24 = .ok (.iconst 0, 1) := by decide +kernel
theorem d_X11_lay_25 : decode m_X11_lay.2.1 25 = .ok (.aload_n 0, 1) := by decide +kernel
theorem d_X11_lay_26 : decode m_X11_lay.2.1 26 = .ok (.getfield 13, 3) := by decide +kernel
theorem d_X11_lay_29 : decode m_X11_lay.2.1 29 = .ok (.bipush 61, 2) := by decide +kernel
theorem d_X11_lay_31 : decode m_X11_lay.2.1 31 = .ok (.iconst 2, 1) := by decide +kernel
theorem d_X11_lay_32 : decode m_X11_lay.2.1 32 = .ok (.iload_n 1, 1) := by decide +kernel
theorem d_X11_lay_33 : decode m_X11_lay.2.1 33 = .ok (.imul, 1) := by decide +kernel
theorem d_X11_lay_34 : decode m_X11_lay.2.1 34 = .ok (.iadd, 1) := by decide +kernel
theorem d_X11_lay_35 : decode m_X11_lay.2.1 35 = .ok (.iaload, 1) := by decide +kernel
theorem d_X11_lay_36 : decode m_X11_lay.2.1 36 = .ok (.aload_n 0, 1) := by decide +kernel
theorem d_X11_lay_37 : decode m_X11_lay.2.1 37 = .ok (.getfield 13, 3) := by decide +kernel
theorem d_X11_lay_40 : decode m_X11_lay.2.1 40 = .ok (.bipush 61, 2) := by decide +kernel
theorem d_X11_lay_42 : decode m_X11_lay.2.1 42 = .ok (.iconst 2, 1) := by decide +kernel
theorem d_X11_lay_43 : decode m_X11_lay.2.1 43 = .ok (.iload_n 1, 1) := by decide +kernel
theorem d_X11_lay_44 : decode m_X11_lay.2.1 44 = .ok (.imul, 1) := by decide +kernel
theorem d_X11_lay_45 : decode m_X11_lay.2.1 45 = .ok (.iadd, 1) := by decide +kernel
theorem d_X11_lay_46 : decode m_X11_lay.2.1 46 = .ok (.iconst 1, 1) := by decide +kernel
theorem d_X11_lay_47 : decode m_X11_lay.2.1 47 = .ok (.iadd, 1) := by decide +kernel
theorem d_X11_lay_48 : decode m_X11_lay.2.1 48 = .ok (.iaload, 1) := by decide +kernel
theorem d_X11_lay_49 : decode m_X11_lay.2.1 49 = .ok (.invokevirtual 266, 3) := by decide +kernel
theorem d_X11_lay_52 : decode m_X11_lay.2.1 52 = .ok (.iinc 1 1, 3) := by decide +kernel
theorem d_X11_lay_55 : decode m_X11_lay.2.1 55 = .ok (.goto (-43), 3) := by decide +kernel
theorem d_X11_lay_58 : decode m_X11_lay.2.1 58 = .ok (.return_, 1) := by decide +kernel
set_option maxRecDepth 20000 in
theorem e_X11_lay {E : jm_E} {d : Nat} {μ : jm_M} {Q : Option jm_V → jm_M → Prop}  (h : (∀ v ∈ ([jm_R 133] : List jm_V), jm_ok v) →
  jc E m_X11_layRules d [jm_R 133, jm_I 0, jm_R 135, jm_I 0] μ (fun (o : Option jm_V) (m1 : jm_M) => o = none →
  jg E m_X11_lay d 12 [some (jm_R 133), some (jm_I 0)] [] m1 Q)) : jc E m_X11_lay (d + 1) [jm_R 133] μ Q := by
  refine jm_Cl.of2 (by decide +kernel) (L0 := [some (jm_R 133), none]) rfl (Nat.le_of_ble_eq_true rfl) (fun hok => ?_)
  have h := h hok
  refine jm_aloadn d_X11_lay_0 rfl ?_
  refine jm_iconst (v := 0) d_X11_lay_1 rfl (jm_okI (by decide) (by decide)) ?_
  refine jm_aloadn d_X11_lay_2 rfl ?_
  refine jm_getF (k := 14) (ki := 14) rfl cf_X11 (Nat.le_of_ble_eq_true rfl) f_X11_13 d_X11_lay_3 rfl rfl is_133 fr_133_14 ?_
  refine jm_iconst (v := 0) d_X11_lay_6 rfl (jm_okI (by decide) (by decide)) ?_
  refine jm_invV (n1 := jm_N) (mc := 0) (ms := 0) (av := [jm_I _, jm_R _, jm_I _]) w_X11_layRules l_X11_262 d_X11_lay_7 rfl is_133 ⟨_, _, rfl⟩ ⟨Nat.le_refl _, Nat.le_refl _⟩ (Nat.le_of_ble_eq_true rfl) rfl ?_
  refine jm_Cl.mono h (fun o m1 h hr _ => ?_)
  obtain rfl := jm_rokV hr
  have h := h rfl
  refine jm_iconst (v := 0) d_X11_lay_10 rfl (jm_okI (by decide) (by decide)) ?_
  refine jm_istoren (L' := [some (jm_R _), some (jm_I _)]) d_X11_lay_11 (Nat.le_of_ble_eq_true rfl) rfl ?_
  exact h
set_option maxRecDepth 20000 in
theorem r_X11_lay_12 {E : jm_E} {d : Nat} {μ : jm_M} {Q : Option jm_V → jm_M → Prop} {v1 : Int} (h :
  ((μ 135 60 ≤ v1 →
    Q none μ) ∧
   (¬ (μ 135 60 ≤ v1) →
    (0 ≤ jm_wr (61 + (jm_wr (2 * v1))) ∧ jm_wr (61 + (jm_wr (2 * v1))) < 1152) ∧
    (0 ≤ jm_wr ((jm_wr (61 + (jm_wr (2 * v1)))) + 1) ∧ jm_wr ((jm_wr (61 + (jm_wr (2 * v1)))) + 1) < 1152) ∧
    jc E m_X11_push d [jm_R 133, jm_I 0, jm_I (μ 135 (jm_wr (61 + (jm_wr (2 * v1))))), jm_I (μ 135 (jm_wr ((jm_wr (61 + (jm_wr (2 * v1)))) + 1)))] μ (fun (o : Option jm_V) (m4 : jm_M) => o = none →
    jg E m_X11_lay d 12 [some (jm_R 133), some (jm_I (jm_wr (v1 + 1)))] [] m4 Q)))) : jg E m_X11_lay d 12 [some (jm_R 133), some (jm_I v1)] [] μ Q := by
  refine jm_iloadn d_X11_lay_12 rfl ?_
  refine jm_aloadn d_X11_lay_13 rfl ?_
  refine jm_getF (k := 14) (ki := 14) rfl cf_X11 (Nat.le_of_ble_eq_true rfl) f_X11_13 d_X11_lay_14 rfl rfl is_133 fr_133_14 ?_
  refine jm_bipush (v := 60) d_X11_lay_17 rfl (jm_okI (by decide) (by decide)) ?_
  refine jm_iaload d_X11_lay_19 (ixl_135 (by decide) (by decide)) ?_
  refine jm_icmp_ge (tgt := 58) d_X11_lay_20 (by decide) (fun c1 => ?_) (fun c1 => ?_)
  · have h := h.1 c1
    exact jm_ret (o := none) d_X11_lay_58 rfl ⟨Nat.le_refl _, Nat.le_refl _⟩ jm_r_V h rfl
  · have h := h.2 c1
    refine jm_aloadn d_X11_lay_23 rfl ?_
    refine jm_iconst (v := 0) d_X11_lay_24 rfl (jm_okI (by decide) (by decide)) ?_
    refine jm_aloadn d_X11_lay_25 rfl ?_
    refine jm_getF (k := 14) (ki := 14) rfl cf_X11 (Nat.le_of_ble_eq_true rfl) f_X11_13 d_X11_lay_26 rfl rfl is_133 fr_133_14 ?_
    refine jm_bipush (v := 61) d_X11_lay_29 rfl (jm_okI (by decide) (by decide)) ?_
    refine jm_iconst (v := 2) d_X11_lay_31 rfl (jm_okI (by decide) (by decide)) ?_
    refine jm_iloadn d_X11_lay_32 rfl ?_
    refine jm_imul d_X11_lay_33 ?_
    refine jm_iadd d_X11_lay_34 ?_
    obtain ⟨f2, h⟩ := h
    refine jm_iaload d_X11_lay_35 (ixl_135 f2.1 f2.2) ?_
    refine jm_aloadn d_X11_lay_36 rfl ?_
    refine jm_getF (k := 14) (ki := 14) rfl cf_X11 (Nat.le_of_ble_eq_true rfl) f_X11_13 d_X11_lay_37 rfl rfl is_133 fr_133_14 ?_
    refine jm_bipush (v := 61) d_X11_lay_40 rfl (jm_okI (by decide) (by decide)) ?_
    refine jm_iconst (v := 2) d_X11_lay_42 rfl (jm_okI (by decide) (by decide)) ?_
    refine jm_iloadn d_X11_lay_43 rfl ?_
    refine jm_imul d_X11_lay_44 ?_
    refine jm_iadd d_X11_lay_45 ?_
    refine jm_iconst (v := 1) d_X11_lay_46 rfl (jm_okI (by decide) (by decide)) ?_
    refine jm_iadd d_X11_lay_47 ?_
    obtain ⟨f3, h⟩ := h
    refine jm_iaload d_X11_lay_48 (ixl_135 f3.1 f3.2) ?_
    refine jm_invV (n1 := jm_N) (mc := 0) (ms := 0) (av := [jm_I _, jm_I _, jm_I _]) w_X11_push l_X11_266 d_X11_lay_49 rfl is_133 ⟨_, _, rfl⟩ ⟨Nat.le_refl _, Nat.le_refl _⟩ (Nat.le_of_ble_eq_true rfl) rfl ?_
    refine jm_Cl.mono h (fun o m4 h hr _ => ?_)
    obtain rfl := jm_rokV hr
    have h := h rfl
    refine jm_iinc (L' := [some (jm_R _), some (jm_I _)]) d_X11_lay_52 rfl rfl (Nat.le_of_ble_eq_true rfl) rfl ?_
    refine jm_goto (tgt := 12) d_X11_lay_55 (by decide) ?_
    exact h
/-! ('CombTableModel', 'tries', '(II)I') -/
theorem d_X11_tries_0 : decode m_X11_tries.2.1 0 = .ok (.aload_n 0, 1) := by decide +kernel
theorem d_X11_tries_1 : decode m_X11_tries.2.1 1 = .ok (.iconst 0, 1) := by decide +kernel
theorem d_X11_tries_2 : decode m_X11_tries.2.1 2 = .ok (.putfield 106, 3) := by decide +kernel
theorem d_X11_tries_5 : decode m_X11_tries.2.1 5 = .ok (.aload_n 0, 1) := by decide +kernel
theorem d_X11_tries_6 : decode m_X11_tries.2.1 6 = .ok (.iload_n 1, 1) := by decide +kernel
theorem d_X11_tries_7 : decode m_X11_tries.2.1 7 = .ok (.invokevirtual 242, 3) := by decide +kernel
theorem d_X11_tries_10 : decode m_X11_tries.2.1 10 = .ok (.ifCond .eq 24, 3) := by decide +kernel
theorem d_X11_tries_13 : decode m_X11_tries.2.1 13 = .ok (.aload_n 0, 1) := by decide +kernel
theorem d_X11_tries_14 : decode m_X11_tries.2.1 14 = .ok (.iload_n 2, 1) := by decide +kernel
theorem d_X11_tries_15 : decode m_X11_tries.2.1 15 = .ok (.invokevirtual 245, 3) := by decide +kernel
theorem d_X11_tries_18 : decode m_X11_tries.2.1 18 = .ok (.ifCond .eq 16, 3) := by decide +kernel
theorem d_X11_tries_21 : decode m_X11_tries.2.1 21 = .ok (.aload_n 0, 1) := by decide +kernel
theorem d_X11_tries_22 : decode m_X11_tries.2.1 22 = .ok (.getfield 13, 3) := by decide +kernel
theorem d_X11_tries_25 : decode m_X11_tries.2.1 25 = .ok (.bipush 60, 2) := by decide +kernel
theorem d_X11_tries_27 : decode m_X11_tries.2.1 27 = .ok (.iaload, 1) := by decide +kernel
theorem d_X11_tries_28 : decode m_X11_tries.2.1 28 = .ok (.sipush 400, 3) := by decide +kernel
theorem d_X11_tries_31 : decode m_X11_tries.2.1 31 = .ok (.if_icmp .ne 5, 3) := by decide +kernel
theorem d_X11_tries_34 : decode m_X11_tries.2.1 34 = .ok (.iconst (-1), 1) := by decide +kernel
theorem d_X11_tries_35 : decode m_X11_tries.2.1 35 = .ok (.ireturn, 1) := by decide +kernel
theorem d_X11_tries_36 : decode m_X11_tries.2.1 36 = .ok (.aload_n 0, 1) := by decide +kernel
theorem d_X11_tries_37 : decode m_X11_tries.2.1 37 = .ok (.invokevirtual 270, 3) := by decide +kernel
theorem d_X11_tries_40 : decode m_X11_tries.2.1 40 = .ok (.aload_n 0, 1) := by decide +kernel
theorem d_X11_tries_41 : decode m_X11_tries.2.1 41 = .ok (.iconst 0, 1) := by decide +kernel
theorem d_X11_tries_42 : decode m_X11_tries.2.1 42 = .ok (.iload_n 1, 1) := by decide +kernel
theorem d_X11_tries_43 : decode m_X11_tries.2.1 43 = .ok (.iload_n 2, 1) := by decide +kernel
theorem d_X11_tries_44 : decode m_X11_tries.2.1 44 = .ok (.invokevirtual 273, 3) := by decide +kernel
theorem d_X11_tries_47 : decode m_X11_tries.2.1 47 = .ok (.ireturn, 1) := by decide +kernel
set_option maxRecDepth 20000 in
theorem e_X11_tries {E : jm_E} {d : Nat} {μ : jm_M} {Q : Option jm_V → jm_M → Prop} {v1 v2 : Int} (h : (∀ v ∈ ([jm_R 133, jm_I v1, jm_I v2] : List jm_V), jm_ok v) →
  jc E m_X11_isWho d [jm_R 133, jm_I v1] (jm_up μ 133 0 0) (fun (o : Option jm_V) (m1 : jm_M) => ∀ r2 : Int, o = some (jm_I r2) → (r2 = 0 ∨ r2 = 1) →
  ((r2 = 0 →
    Q (some (jm_I ((-1)))) m1) ∧
   (¬ (r2 = 0) →
    jc E m_X11_isKind d [jm_R 133, jm_I v2] m1 (fun (o : Option jm_V) (m5 : jm_M) => ∀ r6 : Int, o = some (jm_I r6) → (r6 = 0 ∨ r6 = 1) →
    ((r6 = 0 →
      Q (some (jm_I ((-1)))) m5) ∧
     (¬ (r6 = 0) →
      ((m5 135 60 ≠ 400 →
        jc E m_X11_lay d [jm_R 133] m5 (fun (o : Option jm_V) (m10 : jm_M) => o = none →
        jc E m_X11_wrongOf d [jm_R 133, jm_I 0, jm_I v1, jm_I v2] m10 (fun (o : Option jm_V) (m11 : jm_M) => ∀ r12 : Int, o = some (jm_I r12) →
        Q (some (jm_I r12)) m11))) ∧
       (¬ (m5 135 60 ≠ 400) →
        Q (some (jm_I ((-1)))) m5))))))))) : jc E m_X11_tries (d + 1) [jm_R 133, jm_I v1, jm_I v2] μ Q := by
  refine jm_Cl.of2 (by decide +kernel) (L0 := [some (jm_R 133), some (jm_I v1), some (jm_I v2)]) rfl (Nat.le_of_ble_eq_true rfl) (fun hok => ?_)
  have h := h hok
  refine jm_aloadn d_X11_tries_0 rfl ?_
  refine jm_iconst (v := 0) d_X11_tries_1 rfl (jm_okI (by decide) (by decide)) ?_
  refine jm_putI (k := 0) (ki := 0) cf_X11 (Nat.le_of_ble_eq_true rfl) f_X11_106 d_X11_tries_2 (fun z => absurd z (by decide)) rfl rfl rfl (fun _ => rfl) is_133 ?_
  refine jm_aloadn d_X11_tries_5 rfl ?_
  refine jm_iloadn d_X11_tries_6 rfl ?_
  refine jm_invV (n1 := jm_N) (mc := 0) (ms := 0) (av := [jm_I _]) w_X11_isWho l_X11_242 d_X11_tries_7 rfl is_133 ⟨_, _, rfl⟩ ⟨Nat.le_refl _, Nat.le_refl _⟩ (Nat.le_of_ble_eq_true rfl) rfl ?_
  refine jm_Cl.mono h (fun o m1 h hr _ => ?_)
  obtain ⟨r2, rfl, z3⟩ := jm_rokZ hr
  have h := h _ rfl z3
  refine jm_if_eq (tgt := 34) d_X11_tries_10 (by decide) (fun c4 => ?_) (fun c4 => ?_)
  · have h := h.1 c4
    refine jm_iconst (v := (-1)) d_X11_tries_34 rfl (jm_okI (by decide) (by decide)) ?_
    exact jm_ret (o := some (jm_I _)) d_X11_tries_35 rfl ⟨Nat.le_refl _, Nat.le_refl _⟩ jm_r_I h rfl
  · have h := h.2 c4
    refine jm_aloadn d_X11_tries_13 rfl ?_
    refine jm_iloadn d_X11_tries_14 rfl ?_
    refine jm_invV (n1 := jm_N) (mc := 0) (ms := 0) (av := [jm_I _]) w_X11_isKind l_X11_245 d_X11_tries_15 rfl is_133 ⟨_, _, rfl⟩ ⟨Nat.le_refl _, Nat.le_refl _⟩ (Nat.le_of_ble_eq_true rfl) rfl ?_
    refine jm_Cl.mono h (fun o m5 h hr _ => ?_)
    obtain ⟨r6, rfl, z7⟩ := jm_rokZ hr
    have h := h _ rfl z7
    refine jm_if_eq (tgt := 34) d_X11_tries_18 (by decide) (fun c8 => ?_) (fun c8 => ?_)
    · have h := h.1 c8
      refine jm_iconst (v := (-1)) d_X11_tries_34 rfl (jm_okI (by decide) (by decide)) ?_
      exact jm_ret (o := some (jm_I _)) d_X11_tries_35 rfl ⟨Nat.le_refl _, Nat.le_refl _⟩ jm_r_I h rfl
    · have h := h.2 c8
      refine jm_aloadn d_X11_tries_21 rfl ?_
      refine jm_getF (k := 14) (ki := 14) rfl cf_X11 (Nat.le_of_ble_eq_true rfl) f_X11_13 d_X11_tries_22 rfl rfl is_133 fr_133_14 ?_
      refine jm_bipush (v := 60) d_X11_tries_25 rfl (jm_okI (by decide) (by decide)) ?_
      refine jm_iaload d_X11_tries_27 (ixl_135 (by decide) (by decide)) ?_
      refine jm_sipush (v := 400) d_X11_tries_28 rfl (jm_okI (by decide) (by decide)) ?_
      refine jm_icmp_ne (tgt := 36) d_X11_tries_31 (by decide) (fun c9 => ?_) (fun c9 => ?_)
      · have h := h.1 c9
        refine jm_aloadn d_X11_tries_36 rfl ?_
        refine jm_invV (n1 := jm_N) (mc := 0) (ms := 0) (av := []) w_X11_lay l_X11_270 d_X11_tries_37 rfl is_133 ⟨_, _, rfl⟩ ⟨Nat.le_refl _, Nat.le_refl _⟩ (Nat.le_of_ble_eq_true rfl) rfl ?_
        refine jm_Cl.mono h (fun o m10 h hr _ => ?_)
        obtain rfl := jm_rokV hr
        have h := h rfl
        refine jm_aloadn d_X11_tries_40 rfl ?_
        refine jm_iconst (v := 0) d_X11_tries_41 rfl (jm_okI (by decide) (by decide)) ?_
        refine jm_iloadn d_X11_tries_42 rfl ?_
        refine jm_iloadn d_X11_tries_43 rfl ?_
        refine jm_invV (n1 := jm_N) (mc := 0) (ms := 0) (av := [jm_I _, jm_I _, jm_I _]) w_X11_wrongOf l_X11_273 d_X11_tries_44 rfl is_133 ⟨_, _, rfl⟩ ⟨Nat.le_refl _, Nat.le_refl _⟩ (Nat.le_of_ble_eq_true rfl) rfl ?_
        refine jm_Cl.mono h (fun o m11 h hr _ => ?_)
        obtain ⟨r12, rfl⟩ := jm_rokI hr
        have h := h _ rfl
        exact jm_ret (o := some (jm_I _)) d_X11_tries_47 rfl ⟨Nat.le_refl _, Nat.le_refl _⟩ jm_r_I h rfl
      · have h := h.2 c9
        refine jm_iconst (v := (-1)) d_X11_tries_34 rfl (jm_okI (by decide) (by decide)) ?_
        exact jm_ret (o := some (jm_I _)) d_X11_tries_35 rfl ⟨Nat.le_refl _, Nat.le_refl _⟩ jm_r_I h rfl
/-! ('CombTableModel', 'say', '(II)I') -/
theorem d_X11_say_0 : decode m_X11_say.2.1 0 = .ok (.aload_n 0, 1) := by decide +kernel
theorem d_X11_say_1 : decode m_X11_say.2.1 1 = .ok (.iload_n 1, 1) := by decide +kernel
theorem d_X11_say_2 : decode m_X11_say.2.1 2 = .ok (.iload_n 2, 1) := by decide +kernel
theorem d_X11_say_3 : decode m_X11_say.2.1 3 = .ok (.invokevirtual 276, 3) := by decide +kernel
theorem d_X11_say_6 : decode m_X11_say.2.1 6 = .ok (.istore_n 3, 1) := by decide +kernel
theorem d_X11_say_7 : decode m_X11_say.2.1 7 = .ok (.iload_n 3, 1) := by decide +kernel
theorem d_X11_say_8 : decode m_X11_say.2.1 8 = .ok (.ifCond .eq 5, 3) := by decide +kernel
theorem d_X11_say_11 : decode m_X11_say.2.1 11 = .ok (.iload_n 3, 1) := by decide +kernel
theorem d_X11_say_12 : decode m_X11_say.2.1 12 = .ok (.ireturn, 1) := by decide +kernel
theorem d_X11_say_13 : decode m_X11_say.2.1 13 = .ok (.aload_n 0, 1) := by decide +kernel
theorem d_X11_say_14 : decode m_X11_say.2.1 14 = .ok (.iload_n 1, 1) := by decide +kernel
theorem d_X11_say_15 : decode m_X11_say.2.1 15 = .ok (.iload_n 2, 1) := by decide +kernel
theorem d_X11_say_16 : decode m_X11_say.2.1 16 = .ok (.invokevirtual 279, 3) := by decide +kernel
theorem d_X11_say_19 : decode m_X11_say.2.1 19 = .ok (.iconst 0, 1) := by decide +kernel
theorem d_X11_say_20 : decode m_X11_say.2.1 20 = .ok (.ireturn, 1) := by decide +kernel
set_option maxRecDepth 20000 in
theorem e_X11_say {E : jm_E} {d : Nat} {μ : jm_M} {Q : Option jm_V → jm_M → Prop} {v1 v2 : Int} (h : (∀ v ∈ ([jm_R 133, jm_I v1, jm_I v2] : List jm_V), jm_ok v) →
  jc E m_X11_tries d [jm_R 133, jm_I v1, jm_I v2] μ (fun (o : Option jm_V) (m1 : jm_M) => ∀ r2 : Int, o = some (jm_I r2) →
  ((r2 = 0 →
    jc E m_X11_keepWord d [jm_R 133, jm_I v1, jm_I v2] m1 (fun (o : Option jm_V) (m4 : jm_M) => o = none →
    Q (some (jm_I 0)) m4)) ∧
   (¬ (r2 = 0) →
    Q (some (jm_I r2)) m1)))) : jc E m_X11_say (d + 1) [jm_R 133, jm_I v1, jm_I v2] μ Q := by
  refine jm_Cl.of2 (by decide +kernel) (L0 := [some (jm_R 133), some (jm_I v1), some (jm_I v2), none]) rfl (Nat.le_of_ble_eq_true rfl) (fun hok => ?_)
  have h := h hok
  refine jm_aloadn d_X11_say_0 rfl ?_
  refine jm_iloadn d_X11_say_1 rfl ?_
  refine jm_iloadn d_X11_say_2 rfl ?_
  refine jm_invV (n1 := jm_N) (mc := 0) (ms := 0) (av := [jm_I _, jm_I _]) w_X11_tries l_X11_276 d_X11_say_3 rfl is_133 ⟨_, _, rfl⟩ ⟨Nat.le_refl _, Nat.le_refl _⟩ (Nat.le_of_ble_eq_true rfl) rfl ?_
  refine jm_Cl.mono h (fun o m1 h hr _ => ?_)
  obtain ⟨r2, rfl⟩ := jm_rokI hr
  have h := h _ rfl
  refine jm_istoren (L' := [some (jm_R _), some (jm_I _), some (jm_I _), some (jm_I _)]) d_X11_say_6 (Nat.le_of_ble_eq_true rfl) rfl ?_
  refine jm_iloadn d_X11_say_7 rfl ?_
  refine jm_if_eq (tgt := 13) d_X11_say_8 (by decide) (fun c3 => ?_) (fun c3 => ?_)
  · have h := h.1 c3
    refine jm_aloadn d_X11_say_13 rfl ?_
    refine jm_iloadn d_X11_say_14 rfl ?_
    refine jm_iloadn d_X11_say_15 rfl ?_
    refine jm_invV (n1 := jm_N) (mc := 0) (ms := 0) (av := [jm_I _, jm_I _]) w_X11_keepWord l_X11_279 d_X11_say_16 rfl is_133 ⟨_, _, rfl⟩ ⟨Nat.le_refl _, Nat.le_refl _⟩ (Nat.le_of_ble_eq_true rfl) rfl ?_
    refine jm_Cl.mono h (fun o m4 h hr _ => ?_)
    obtain rfl := jm_rokV hr
    have h := h rfl
    refine jm_iconst (v := 0) d_X11_say_19 rfl (jm_okI (by decide) (by decide)) ?_
    exact jm_ret (o := some (jm_I _)) d_X11_say_20 rfl ⟨Nat.le_refl _, Nat.le_refl _⟩ jm_r_I h rfl
  · have h := h.2 c3
    refine jm_iloadn d_X11_say_11 rfl ?_
    exact jm_ret (o := some (jm_I _)) d_X11_say_12 rfl ⟨Nat.le_refl _, Nat.le_refl _⟩ jm_r_I h rfl
/-! ('CombTableModel', 'keepWord', '(II)V') -/
theorem d_X11_keepWord_0 : decode m_X11_keepWord.2.1 0 = .ok (.aload_n 0, 1) := by decide +kernel
theorem d_X11_keepWord_1 : decode m_X11_keepWord.2.1 1 = .ok (.getfield 13, 3) := by decide +kernel
theorem d_X11_keepWord_4 : decode m_X11_keepWord.2.1 4 = .ok (.bipush 61, 2) := by decide +kernel
theorem d_X11_keepWord_6 : decode m_X11_keepWord.2.1 6 = .ok (.iconst 2, 1) := by decide +kernel
theorem d_X11_keepWord_7 : decode m_X11_keepWord.2.1 7 = .ok (.aload_n 0, 1) := by decide +kernel
theorem d_X11_keepWord_8 : decode m_X11_keepWord.2.1 8 = .ok (.getfield 13, 3) := by decide +kernel
theorem d_X11_keepWord_11 : decode m_X11_keepWord.2.1 11 = .ok (.bipush 60, 2) := by decide +kernel
theorem d_X11_keepWord_13 : decode m_X11_keepWord.2.1 13 = .ok (.iaload, 1) := by decide +kernel
theorem d_X11_keepWord_14 : decode m_X11_keepWord.2.1 14 = .ok (.imul, 1) := by decide +kernel
theorem d_X11_keepWord_15 : decode m_X11_keepWord.2.1 15 = .ok (.iadd, 1) := by decide +kernel
theorem d_X11_keepWord_16 : decode m_X11_keepWord.2.1 16 = .ok (.iload_n 1, 1) := by decide +kernel
theorem d_X11_keepWord_17 : decode m_X11_keepWord.2.1 17 = .ok (.iastore, 1) := by decide +kernel
theorem d_X11_keepWord_18 : decode m_X11_keepWord.2.1 18 = .ok (.aload_n 0, 1) := by decide +kernel
theorem d_X11_keepWord_19 : decode m_X11_keepWord.2.1 19 = .ok (.getfield 13, 3) := by decide +kernel
theorem d_X11_keepWord_22 : decode m_X11_keepWord.2.1 22 = .ok (.bipush 61, 2) := by decide +kernel
theorem d_X11_keepWord_24 : decode m_X11_keepWord.2.1 24 = .ok (.iconst 2, 1) := by decide +kernel
theorem d_X11_keepWord_25 : decode m_X11_keepWord.2.1 25 = .ok (.aload_n 0, 1) := by decide +kernel
theorem d_X11_keepWord_26 : decode m_X11_keepWord.2.1 26 = .ok (.getfield 13, 3) := by decide +kernel
theorem d_X11_keepWord_29 : decode m_X11_keepWord.2.1 29 = .ok (.bipush 60, 2) := by decide +kernel
theorem d_X11_keepWord_31 : decode m_X11_keepWord.2.1 31 = .ok (.iaload, 1) := by decide +kernel
theorem d_X11_keepWord_32 : decode m_X11_keepWord.2.1 32 = .ok (.imul, 1) := by decide +kernel
theorem d_X11_keepWord_33 : decode m_X11_keepWord.2.1 33 = .ok (.iadd, 1) := by decide +kernel
theorem d_X11_keepWord_34 : decode m_X11_keepWord.2.1 34 = .ok (.iconst 1, 1) := by decide +kernel
theorem d_X11_keepWord_35 : decode m_X11_keepWord.2.1 35 = .ok (.iadd, 1) := by decide +kernel
theorem d_X11_keepWord_36 : decode m_X11_keepWord.2.1 36 = .ok (.iload_n 2, 1) := by decide +kernel
theorem d_X11_keepWord_37 : decode m_X11_keepWord.2.1 37 = .ok (.iastore, 1) := by decide +kernel
theorem d_X11_keepWord_38 : decode m_X11_keepWord.2.1 38 = .ok (.aload_n 0, 1) := by decide +kernel
theorem d_X11_keepWord_39 : decode m_X11_keepWord.2.1 39 = .ok (.getfield 13, 3) := by decide +kernel
theorem d_X11_keepWord_42 : decode m_X11_keepWord.2.1 42 = .ok (.bipush 60, 2) := by decide +kernel
theorem d_X11_keepWord_44 : decode m_X11_keepWord.2.1 44 = .ok (.dup2, 1) := by decide +kernel
theorem d_X11_keepWord_45 : decode m_X11_keepWord.2.1 45 = .ok (.iaload, 1) := by decide +kernel
theorem d_X11_keepWord_46 : decode m_X11_keepWord.2.1 46 = .ok (.iconst 1, 1) := by decide +kernel
theorem d_X11_keepWord_47 : decode m_X11_keepWord.2.1 47 = .ok (.iadd, 1) := by decide +kernel
theorem d_X11_keepWord_48 : decode m_X11_keepWord.2.1 48 = .ok (.iastore, 1) := by decide +kernel
theorem d_X11_keepWord_49 : decode m_X11_keepWord.2.1 49 = .ok (.return_, 1) := by decide +kernel
set_option maxRecDepth 20000 in
theorem e_X11_keepWord {E : jm_E} {d : Nat} {μ : jm_M} {Q : Option jm_V → jm_M → Prop} {v1 v2 : Int} (h : (∀ v ∈ ([jm_R 133, jm_I v1, jm_I v2] : List jm_V), jm_ok v) →
  (0 ≤ jm_wr (61 + (jm_wr (2 * (μ 135 60)))) ∧ jm_wr (61 + (jm_wr (2 * (μ 135 60)))) < 1152) ∧
  ∀ m2 : jm_M, m2 = (jm_up μ 135 (jm_wr (61 + (jm_wr (2 * (μ 135 60))))) v1) →
  (0 ≤ jm_wr ((jm_wr (61 + (jm_wr (2 * (m2 135 60))))) + 1) ∧ jm_wr ((jm_wr (61 + (jm_wr (2 * (m2 135 60))))) + 1) < 1152) ∧
  ∀ m4 : jm_M, m4 = (jm_up m2 135 (jm_wr ((jm_wr (61 + (jm_wr (2 * (m2 135 60))))) + 1)) v2) →
  ∀ m5 : jm_M, m5 = (jm_up m4 135 60 (jm_wr ((m4 135 60) + 1))) →
  Q none m5) : jc E m_X11_keepWord (d + 1) [jm_R 133, jm_I v1, jm_I v2] μ Q := by
  refine jm_Cl.of2 (by decide +kernel) (L0 := [some (jm_R 133), some (jm_I v1), some (jm_I v2)]) rfl (Nat.le_of_ble_eq_true rfl) (fun hok => ?_)
  have h := h hok
  refine jm_aloadn d_X11_keepWord_0 rfl ?_
  refine jm_getF (k := 14) (ki := 14) rfl cf_X11 (Nat.le_of_ble_eq_true rfl) f_X11_13 d_X11_keepWord_1 rfl rfl is_133 fr_133_14 ?_
  refine jm_bipush (v := 61) d_X11_keepWord_4 rfl (jm_okI (by decide) (by decide)) ?_
  refine jm_iconst (v := 2) d_X11_keepWord_6 rfl (jm_okI (by decide) (by decide)) ?_
  refine jm_aloadn d_X11_keepWord_7 rfl ?_
  refine jm_getF (k := 14) (ki := 14) rfl cf_X11 (Nat.le_of_ble_eq_true rfl) f_X11_13 d_X11_keepWord_8 rfl rfl is_133 fr_133_14 ?_
  refine jm_bipush (v := 60) d_X11_keepWord_11 rfl (jm_okI (by decide) (by decide)) ?_
  refine jm_iaload d_X11_keepWord_13 (ixl_135 (by decide) (by decide)) ?_
  refine jm_imul d_X11_keepWord_14 ?_
  refine jm_iadd d_X11_keepWord_15 ?_
  refine jm_iloadn d_X11_keepWord_16 rfl ?_
  obtain ⟨f1, h⟩ := h
  refine jm_iastore d_X11_keepWord_17 (ixl_135 f1.1 f1.2) ?_
  have h := h _ rfl
  refine jm_aloadn d_X11_keepWord_18 rfl ?_
  refine jm_getF (k := 14) (ki := 14) rfl cf_X11 (Nat.le_of_ble_eq_true rfl) f_X11_13 d_X11_keepWord_19 rfl rfl is_133 fr_133_14 ?_
  refine jm_bipush (v := 61) d_X11_keepWord_22 rfl (jm_okI (by decide) (by decide)) ?_
  refine jm_iconst (v := 2) d_X11_keepWord_24 rfl (jm_okI (by decide) (by decide)) ?_
  refine jm_aloadn d_X11_keepWord_25 rfl ?_
  refine jm_getF (k := 14) (ki := 14) rfl cf_X11 (Nat.le_of_ble_eq_true rfl) f_X11_13 d_X11_keepWord_26 rfl rfl is_133 fr_133_14 ?_
  refine jm_bipush (v := 60) d_X11_keepWord_29 rfl (jm_okI (by decide) (by decide)) ?_
  refine jm_iaload d_X11_keepWord_31 (ixl_135 (by decide) (by decide)) ?_
  refine jm_imul d_X11_keepWord_32 ?_
  refine jm_iadd d_X11_keepWord_33 ?_
  refine jm_iconst (v := 1) d_X11_keepWord_34 rfl (jm_okI (by decide) (by decide)) ?_
  refine jm_iadd d_X11_keepWord_35 ?_
  refine jm_iloadn d_X11_keepWord_36 rfl ?_
  obtain ⟨f3, h⟩ := h
  refine jm_iastore d_X11_keepWord_37 (ixl_135 f3.1 f3.2) ?_
  have h := h _ rfl
  refine jm_aloadn d_X11_keepWord_38 rfl ?_
  refine jm_getF (k := 14) (ki := 14) rfl cf_X11 (Nat.le_of_ble_eq_true rfl) f_X11_13 d_X11_keepWord_39 rfl rfl is_133 fr_133_14 ?_
  refine jm_bipush (v := 60) d_X11_keepWord_42 rfl (jm_okI (by decide) (by decide)) ?_
  refine jm_dup2 rfl rfl d_X11_keepWord_44 ?_
  refine jm_iaload d_X11_keepWord_45 (ixl_135 (by decide) (by decide)) ?_
  refine jm_iconst (v := 1) d_X11_keepWord_46 rfl (jm_okI (by decide) (by decide)) ?_
  refine jm_iadd d_X11_keepWord_47 ?_
  refine jm_iastore d_X11_keepWord_48 (ixl_135 (by decide) (by decide)) ?_
  have h := h _ rfl
  exact jm_ret (o := none) d_X11_keepWord_49 rfl ⟨Nat.le_refl _, Nat.le_refl _⟩ jm_r_V h rfl
/-! ('CombTableModel', 'wrong', '(II)I') -/
theorem d_X11_wrong_0 : decode m_X11_wrong.2.1 0 = .ok (.aload_n 0, 1) := by decide +kernel
theorem d_X11_wrong_1 : decode m_X11_wrong.2.1 1 = .ok (.iload_n 1, 1) := by decide +kernel
theorem d_X11_wrong_2 : decode m_X11_wrong.2.1 2 = .ok (.iload_n 2, 1) := by decide +kernel
theorem d_X11_wrong_3 : decode m_X11_wrong.2.1 3 = .ok (.invokevirtual 276, 3) := by decide +kernel
theorem d_X11_wrong_6 : decode m_X11_wrong.2.1 6 = .ok (.ireturn, 1) := by decide +kernel
set_option maxRecDepth 20000 in
theorem e_X11_wrong {E : jm_E} {d : Nat} {μ : jm_M} {Q : Option jm_V → jm_M → Prop} {v1 v2 : Int} (h : (∀ v ∈ ([jm_R 133, jm_I v1, jm_I v2] : List jm_V), jm_ok v) →
  jc E m_X11_tries d [jm_R 133, jm_I v1, jm_I v2] μ (fun (o : Option jm_V) (m1 : jm_M) => ∀ r2 : Int, o = some (jm_I r2) →
  Q (some (jm_I r2)) m1)) : jc E m_X11_wrong (d + 1) [jm_R 133, jm_I v1, jm_I v2] μ Q := by
  refine jm_Cl.of2 (by decide +kernel) (L0 := [some (jm_R 133), some (jm_I v1), some (jm_I v2)]) rfl (Nat.le_of_ble_eq_true rfl) (fun hok => ?_)
  have h := h hok
  refine jm_aloadn d_X11_wrong_0 rfl ?_
  refine jm_iloadn d_X11_wrong_1 rfl ?_
  refine jm_iloadn d_X11_wrong_2 rfl ?_
  refine jm_invV (n1 := jm_N) (mc := 0) (ms := 0) (av := [jm_I _, jm_I _]) w_X11_tries l_X11_276 d_X11_wrong_3 rfl is_133 ⟨_, _, rfl⟩ ⟨Nat.le_refl _, Nat.le_refl _⟩ (Nat.le_of_ble_eq_true rfl) rfl ?_
  refine jm_Cl.mono h (fun o m1 h hr _ => ?_)
  obtain ⟨r2, rfl⟩ := jm_rokI hr
  have h := h _ rfl
  exact jm_ret (o := some (jm_I _)) d_X11_wrong_6 rfl ⟨Nat.le_refl _, Nat.le_refl _⟩ jm_r_I h rfl
/-! ('CombTableModel', 'may', '(I)I') -/
theorem d_X11_may_0 : decode m_X11_may.2.1 0 = .ok (.aload_n 0, 1) := by decide +kernel
theorem d_X11_may_1 : decode m_X11_may.2.1 1 = .ok (.iconst 0, 1) := by decide +kernel
theorem d_X11_may_2 : decode m_X11_may.2.1 2 = .ok (.putfield 106, 3) := by decide +kernel
theorem d_X11_may_5 : decode m_X11_may.2.1 5 = .ok (.aload_n 0, 1) := by decide +kernel
theorem d_X11_may_6 : decode m_X11_may.2.1 6 = .ok (.iload_n 1, 1) := by decide +kernel
theorem d_X11_may_7 : decode m_X11_may.2.1 7 = .ok (.invokevirtual 242, 3) := by decide +kernel
theorem d_X11_may_10 : decode m_X11_may.2.1 10 = .ok (.ifCond .ne 5, 3) := by decide +kernel
theorem d_X11_may_13 : decode m_X11_may.2.1 13 = .ok (.iconst (-1), 1) := by decide +kernel
theorem d_X11_may_14 : decode m_X11_may.2.1 14 = .ok (.ireturn, 1) := by decide +kernel
theorem d_X11_may_15 : decode m_X11_may.2.1 15 = .ok (.aload_n 0, 1) := by decide +kernel
theorem d_X11_may_16 : decode m_X11_may.2.1 16 = .ok (.invokevirtual 270, 3) := by decide +kernel
theorem d_X11_may_19 : decode m_X11_may.2.1 19 = .ok (.iconst 0, 1) := by decide +kernel
theorem d_X11_may_20 : decode m_X11_may.2.1 20 = .ok (.istore_n 2, 1) := by decide +kernel
theorem d_X11_may_21 : decode m_X11_may.2.1 21 = .ok (.iconst 0, 1) := by decide +kernel
theorem d_X11_may_22 : decode m_X11_may.2.1 22 = .ok (.istore_n 3, 1) := by decide +kernel
theorem d_X11_may_23 : decode m_X11_may.2.1 23 = .ok (.iload_n 3, 1) := by decide +kernel
theorem d_X11_may_24 : decode m_X11_may.2.1 24 = .ok (.aload_n 0, 1) := by decide +kernel
theorem d_X11_may_25 : decode m_X11_may.2.1 25 = .ok (.getfield 13, 3) := by decide +kernel
theorem d_X11_may_28 : decode m_X11_may.2.1 28 = .ok (.iconst 1, 1) := by decide +kernel
theorem d_X11_may_29 : decode m_X11_may.2.1 29 = .ok (.iaload, 1) := by decide +kernel
theorem d_X11_may_30 : decode m_X11_may.2.1 30 = .ok (.if_icmp .ge 38, 3) := by decide +kernel
theorem d_X11_may_33 : decode m_X11_may.2.1 33 = .ok (.aload_n 0, 1) := by decide +kernel
theorem d_X11_may_34 : decode m_X11_may.2.1 34 = .ok (.getfield 13, 3) := by decide +kernel
theorem d_X11_may_37 : decode m_X11_may.2.1 37 = .ok (.bipush 60, 2) := by decide +kernel
theorem d_X11_may_39 : decode m_X11_may.2.1 39 = .ok (.iaload, 1) := by decide +kernel
theorem d_X11_may_40 : decode m_X11_may.2.1 40 = .ok (.sipush 400, 3) := by decide +kernel
theorem d_X11_may_43 : decode m_X11_may.2.1 43 = .ok (.if_icmp .ge 25, 3) := by decide +kernel
theorem d_X11_may_46 : decode m_X11_may.2.1 46 = .ok (.aload_n 0, 1) := by decide +kernel
theorem d_X11_may_47 : decode m_X11_may.2.1 47 = .ok (.iconst 0, 1) := by decide +kernel
theorem d_X11_may_48 : decode m_X11_may.2.1 48 = .ok (.iload_n 1, 1) := by decide +kernel
theorem d_X11_may_49 : decode m_X11_may.2.1 49 = .ok (.iload_n 3, 1) := by decide +kernel
theorem d_X11_may_50 : decode m_X11_may.2.1 50 = .ok (.invokevirtual 273, 3) := by decide +kernel
theorem d_X11_may_53 : decode m_X11_may.2.1 53 = .ok (.ifCond .ne 9, 3) := by decide +kernel
theorem d_X11_may_56 : decode m_X11_may.2.1 56 = .ok (.iload_n 2, 1) := by decide +kernel
theorem d_X11_may_57 : decode m_X11_may.2.1 57 = .ok (.iconst 1, 1) := by decide +kernel
theorem d_X11_may_58 : decode m_X11_may.2.1 58 = .ok (.iload_n 3, 1) := by decide +kernel
theorem d_X11_may_59 : decode m_X11_may.2.1 59 = .ok (.ishl, 1) := by decide +kernel
theorem d_X11_may_60 : decode m_X11_may.2.1 60 = .ok (.ior, 1) := by decide +kernel
theorem d_X11_may_61 : decode m_X11_may.2.1 61 = .ok (.istore_n 2, 1) := by decide +kernel
theorem d_X11_may_62 : decode m_X11_may.2.1 62 = .ok (.iinc 3 1, 3) := by decide +kernel
theorem d_X11_may_65 : decode m_X11_may.2.1 65 = .ok (.goto (-42), 3) := by decide +kernel
theorem d_X11_may_68 : decode m_X11_may.2.1 68 = .ok (.iload_n 2, 1) := by decide +kernel
theorem d_X11_may_69 : decode m_X11_may.2.1 69 = .ok (.ireturn, 1) := by decide +kernel
set_option maxRecDepth 20000 in
theorem e_X11_may {E : jm_E} {d : Nat} {μ : jm_M} {Q : Option jm_V → jm_M → Prop} {v1 : Int} (h : (∀ v ∈ ([jm_R 133, jm_I v1] : List jm_V), jm_ok v) →
  jc E m_X11_isWho d [jm_R 133, jm_I v1] (jm_up μ 133 0 0) (fun (o : Option jm_V) (m1 : jm_M) => ∀ r2 : Int, o = some (jm_I r2) → (r2 = 0 ∨ r2 = 1) →
  ((r2 ≠ 0 →
    jc E m_X11_lay d [jm_R 133] m1 (fun (o : Option jm_V) (m5 : jm_M) => o = none →
    jg E m_X11_may d 23 [some (jm_R 133), some (jm_I v1), some (jm_I 0), some (jm_I 0)] [] m5 Q)) ∧
   (¬ (r2 ≠ 0) →
    Q (some (jm_I ((-1)))) m1)))) : jc E m_X11_may (d + 1) [jm_R 133, jm_I v1] μ Q := by
  refine jm_Cl.of2 (by decide +kernel) (L0 := [some (jm_R 133), some (jm_I v1), none, none]) rfl (Nat.le_of_ble_eq_true rfl) (fun hok => ?_)
  have h := h hok
  refine jm_aloadn d_X11_may_0 rfl ?_
  refine jm_iconst (v := 0) d_X11_may_1 rfl (jm_okI (by decide) (by decide)) ?_
  refine jm_putI (k := 0) (ki := 0) cf_X11 (Nat.le_of_ble_eq_true rfl) f_X11_106 d_X11_may_2 (fun z => absurd z (by decide)) rfl rfl rfl (fun _ => rfl) is_133 ?_
  refine jm_aloadn d_X11_may_5 rfl ?_
  refine jm_iloadn d_X11_may_6 rfl ?_
  refine jm_invV (n1 := jm_N) (mc := 0) (ms := 0) (av := [jm_I _]) w_X11_isWho l_X11_242 d_X11_may_7 rfl is_133 ⟨_, _, rfl⟩ ⟨Nat.le_refl _, Nat.le_refl _⟩ (Nat.le_of_ble_eq_true rfl) rfl ?_
  refine jm_Cl.mono h (fun o m1 h hr _ => ?_)
  obtain ⟨r2, rfl, z3⟩ := jm_rokZ hr
  have h := h _ rfl z3
  refine jm_if_ne (tgt := 15) d_X11_may_10 (by decide) (fun c4 => ?_) (fun c4 => ?_)
  · have h := h.1 c4
    refine jm_aloadn d_X11_may_15 rfl ?_
    refine jm_invV (n1 := jm_N) (mc := 0) (ms := 0) (av := []) w_X11_lay l_X11_270 d_X11_may_16 rfl is_133 ⟨_, _, rfl⟩ ⟨Nat.le_refl _, Nat.le_refl _⟩ (Nat.le_of_ble_eq_true rfl) rfl ?_
    refine jm_Cl.mono h (fun o m5 h hr _ => ?_)
    obtain rfl := jm_rokV hr
    have h := h rfl
    refine jm_iconst (v := 0) d_X11_may_19 rfl (jm_okI (by decide) (by decide)) ?_
    refine jm_istoren (L' := [some (jm_R _), some (jm_I _), some (jm_I _), none]) d_X11_may_20 (Nat.le_of_ble_eq_true rfl) rfl ?_
    refine jm_iconst (v := 0) d_X11_may_21 rfl (jm_okI (by decide) (by decide)) ?_
    refine jm_istoren (L' := [some (jm_R _), some (jm_I _), some (jm_I _), some (jm_I _)]) d_X11_may_22 (Nat.le_of_ble_eq_true rfl) rfl ?_
    exact h
  · have h := h.2 c4
    refine jm_iconst (v := (-1)) d_X11_may_13 rfl (jm_okI (by decide) (by decide)) ?_
    exact jm_ret (o := some (jm_I _)) d_X11_may_14 rfl ⟨Nat.le_refl _, Nat.le_refl _⟩ jm_r_I h rfl
set_option maxRecDepth 20000 in
theorem r_X11_may_23 {E : jm_E} {d : Nat} {μ : jm_M} {Q : Option jm_V → jm_M → Prop} {v1 v2 v3 : Int} (h :
  ((μ 135 1 ≤ v3 →
    Q (some (jm_I v2)) μ) ∧
   (¬ (μ 135 1 ≤ v3) →
    ((400 ≤ μ 135 60 →
      Q (some (jm_I v2)) μ) ∧
     (¬ (400 ≤ μ 135 60) →
      jc E m_X11_wrongOf d [jm_R 133, jm_I 0, jm_I v1, jm_I v3] μ (fun (o : Option jm_V) (m3 : jm_M) => ∀ r4 : Int, o = some (jm_I r4) →
      ((r4 ≠ 0 →
        jg E m_X11_may d 23 [some (jm_R 133), some (jm_I v1), some (jm_I v2), some (jm_I (jm_wr (v3 + 1)))] [] m3 Q) ∧
       (¬ (r4 ≠ 0) →
        ∀ x6 : Int, x6 = jm_or v2 (jm_shl 1 v3) →
        jg E m_X11_may d 23 [some (jm_R 133), some (jm_I v1), some (jm_I x6), some (jm_I (jm_wr (v3 + 1)))] [] m3 Q)))))))) : jg E m_X11_may d 23 [some (jm_R 133), some (jm_I v1), some (jm_I v2), some (jm_I v3)] [] μ Q := by
  refine jm_iloadn d_X11_may_23 rfl ?_
  refine jm_aloadn d_X11_may_24 rfl ?_
  refine jm_getF (k := 14) (ki := 14) rfl cf_X11 (Nat.le_of_ble_eq_true rfl) f_X11_13 d_X11_may_25 rfl rfl is_133 fr_133_14 ?_
  refine jm_iconst (v := 1) d_X11_may_28 rfl (jm_okI (by decide) (by decide)) ?_
  refine jm_iaload d_X11_may_29 (ixl_135 (by decide) (by decide)) ?_
  refine jm_icmp_ge (tgt := 68) d_X11_may_30 (by decide) (fun c1 => ?_) (fun c1 => ?_)
  · have h := h.1 c1
    refine jm_iloadn d_X11_may_68 rfl ?_
    exact jm_ret (o := some (jm_I _)) d_X11_may_69 rfl ⟨Nat.le_refl _, Nat.le_refl _⟩ jm_r_I h rfl
  · have h := h.2 c1
    refine jm_aloadn d_X11_may_33 rfl ?_
    refine jm_getF (k := 14) (ki := 14) rfl cf_X11 (Nat.le_of_ble_eq_true rfl) f_X11_13 d_X11_may_34 rfl rfl is_133 fr_133_14 ?_
    refine jm_bipush (v := 60) d_X11_may_37 rfl (jm_okI (by decide) (by decide)) ?_
    refine jm_iaload d_X11_may_39 (ixl_135 (by decide) (by decide)) ?_
    refine jm_sipush (v := 400) d_X11_may_40 rfl (jm_okI (by decide) (by decide)) ?_
    refine jm_icmp_ge (tgt := 68) d_X11_may_43 (by decide) (fun c2 => ?_) (fun c2 => ?_)
    · have h := h.1 c2
      refine jm_iloadn d_X11_may_68 rfl ?_
      exact jm_ret (o := some (jm_I _)) d_X11_may_69 rfl ⟨Nat.le_refl _, Nat.le_refl _⟩ jm_r_I h rfl
    · have h := h.2 c2
      refine jm_aloadn d_X11_may_46 rfl ?_
      refine jm_iconst (v := 0) d_X11_may_47 rfl (jm_okI (by decide) (by decide)) ?_
      refine jm_iloadn d_X11_may_48 rfl ?_
      refine jm_iloadn d_X11_may_49 rfl ?_
      refine jm_invV (n1 := jm_N) (mc := 0) (ms := 0) (av := [jm_I _, jm_I _, jm_I _]) w_X11_wrongOf l_X11_273 d_X11_may_50 rfl is_133 ⟨_, _, rfl⟩ ⟨Nat.le_refl _, Nat.le_refl _⟩ (Nat.le_of_ble_eq_true rfl) rfl ?_
      refine jm_Cl.mono h (fun o m3 h hr _ => ?_)
      obtain ⟨r4, rfl⟩ := jm_rokI hr
      have h := h _ rfl
      refine jm_if_ne (tgt := 62) d_X11_may_53 (by decide) (fun c5 => ?_) (fun c5 => ?_)
      · have h := h.1 c5
        refine jm_iinc (L' := [some (jm_R _), some (jm_I _), some (jm_I _), some (jm_I _)]) d_X11_may_62 rfl rfl (Nat.le_of_ble_eq_true rfl) rfl ?_
        refine jm_goto (tgt := 23) d_X11_may_65 (by decide) ?_
        exact h
      · have h := h.2 c5
        refine jm_iloadn d_X11_may_56 rfl ?_
        refine jm_iconst (v := 1) d_X11_may_57 rfl (jm_okI (by decide) (by decide)) ?_
        refine jm_iloadn d_X11_may_58 rfl ?_
        refine jm_ishl d_X11_may_59 ?_
        refine jm_ior d_X11_may_60 ?_
        have h := h _ rfl
        refine jm_istoren (L' := [some (jm_R _), some (jm_I _), some (jm_I _), some (jm_I _)]) d_X11_may_61 (Nat.le_of_ble_eq_true rfl) rfl ?_
        refine jm_iinc (L' := [some (jm_R _), some (jm_I _), some (jm_I _), some (jm_I _)]) d_X11_may_62 rfl rfl (Nat.le_of_ble_eq_true rfl) rfl ?_
        refine jm_goto (tgt := 23) d_X11_may_65 (by decide) ?_
        exact h
/-! ('CombTableModel', 'undo', '()I') -/
theorem d_X11_undo_0 : decode m_X11_undo.2.1 0 = .ok (.aload_n 0, 1) := by decide +kernel
theorem d_X11_undo_1 : decode m_X11_undo.2.1 1 = .ok (.iconst 0, 1) := by decide +kernel
theorem d_X11_undo_2 : decode m_X11_undo.2.1 2 = .ok (.putfield 106, 3) := by decide +kernel
theorem d_X11_undo_5 : decode m_X11_undo.2.1 5 = .ok (.aload_n 0, 1) := by decide +kernel
theorem d_X11_undo_6 : decode m_X11_undo.2.1 6 = .ok (.getfield 13, 3) := by decide +kernel
theorem d_X11_undo_9 : decode m_X11_undo.2.1 9 = .ok (.bipush 60, 2) := by decide +kernel
theorem d_X11_undo_11 : decode m_X11_undo.2.1 11 = .ok (.iaload, 1) := by decide +kernel
theorem d_X11_undo_12 : decode m_X11_undo.2.1 12 = .ok (.ifCond .ne 5, 3) := by decide +kernel
theorem d_X11_undo_15 : decode m_X11_undo.2.1 15 = .ok (.iconst (-1), 1) := by decide +kernel
theorem d_X11_undo_16 : decode m_X11_undo.2.1 16 = .ok (.ireturn, 1) := by decide +kernel
theorem d_X11_undo_17 : decode m_X11_undo.2.1 17 = .ok (.aload_n 0, 1) := by decide +kernel
theorem d_X11_undo_18 : decode m_X11_undo.2.1 18 = .ok (.getfield 13, 3) := by decide +kernel
theorem d_X11_undo_21 : decode m_X11_undo.2.1 21 = .ok (.bipush 60, 2) := by decide +kernel
theorem d_X11_undo_23 : decode m_X11_undo.2.1 23 = .ok (.dup2, 1) := by decide +kernel
theorem d_X11_undo_24 : decode m_X11_undo.2.1 24 = .ok (.iaload, 1) := by decide +kernel
theorem d_X11_undo_25 : decode m_X11_undo.2.1 25 = .ok (.iconst 1, 1) := by decide +kernel
theorem d_X11_undo_26 : decode m_X11_undo.2.1 26 = .ok (.isub, 1) := by decide +kernel
theorem d_X11_undo_27 : decode m_X11_undo.2.1 27 = .ok (.iastore, 1) := by decide +kernel
theorem d_X11_undo_28 : decode m_X11_undo.2.1 28 = .ok (.aload_n 0, 1) := by decide +kernel
theorem d_X11_undo_29 : decode m_X11_undo.2.1 29 = .ok (.getfield 13, 3) := by decide +kernel
theorem d_X11_undo_32 : decode m_X11_undo.2.1 32 = .ok (.bipush 60, 2) := by decide +kernel
theorem d_X11_undo_34 : decode m_X11_undo.2.1 34 = .ok (.iaload, 1) := by decide +kernel
theorem d_X11_undo_35 : decode m_X11_undo.2.1 35 = .ok (.ireturn, 1) := by decide +kernel
set_option maxRecDepth 20000 in
theorem e_X11_undo {E : jm_E} {d : Nat} {μ : jm_M} {Q : Option jm_V → jm_M → Prop}  (h : (∀ v ∈ ([jm_R 133] : List jm_V), jm_ok v) →
  ((μ 135 60 ≠ 0 →
    ∀ m2 : jm_M, m2 = (jm_up (jm_up μ 133 0 0) 135 60 (jm_wr ((μ 135 60) - 1))) →
    Q (some (jm_I (m2 135 60))) m2) ∧
   (¬ (μ 135 60 ≠ 0) →
    Q (some (jm_I ((-1)))) (jm_up μ 133 0 0)))) : jc E m_X11_undo (d + 1) [jm_R 133] μ Q := by
  refine jm_Cl.of2 (by decide +kernel) (L0 := [some (jm_R 133)]) rfl (Nat.le_of_ble_eq_true rfl) (fun hok => ?_)
  have h := h hok
  refine jm_aloadn d_X11_undo_0 rfl ?_
  refine jm_iconst (v := 0) d_X11_undo_1 rfl (jm_okI (by decide) (by decide)) ?_
  refine jm_putI (k := 0) (ki := 0) cf_X11 (Nat.le_of_ble_eq_true rfl) f_X11_106 d_X11_undo_2 (fun z => absurd z (by decide)) rfl rfl rfl (fun _ => rfl) is_133 ?_
  refine jm_aloadn d_X11_undo_5 rfl ?_
  refine jm_getF (k := 14) (ki := 14) rfl cf_X11 (Nat.le_of_ble_eq_true rfl) f_X11_13 d_X11_undo_6 rfl rfl is_133 fr_133_14 ?_
  refine jm_bipush (v := 60) d_X11_undo_9 rfl (jm_okI (by decide) (by decide)) ?_
  refine jm_ialoadv d_X11_undo_11 (ixl_135 (by decide) (by decide)) ((jm_up_i (by decide)).trans rfl) ?_
  refine jm_if_ne (tgt := 17) d_X11_undo_12 (by decide) (fun c1 => ?_) (fun c1 => ?_)
  · have h := h.1 c1
    refine jm_aloadn d_X11_undo_17 rfl ?_
    refine jm_getF (k := 14) (ki := 14) rfl cf_X11 (Nat.le_of_ble_eq_true rfl) f_X11_13 d_X11_undo_18 rfl rfl is_133 fr_133_14 ?_
    refine jm_bipush (v := 60) d_X11_undo_21 rfl (jm_okI (by decide) (by decide)) ?_
    refine jm_dup2 rfl rfl d_X11_undo_23 ?_
    refine jm_ialoadv d_X11_undo_24 (ixl_135 (by decide) (by decide)) ((jm_up_i (by decide)).trans rfl) ?_
    refine jm_iconst (v := 1) d_X11_undo_25 rfl (jm_okI (by decide) (by decide)) ?_
    refine jm_isub d_X11_undo_26 ?_
    refine jm_iastore d_X11_undo_27 (ixl_135 (by decide) (by decide)) ?_
    have h := h _ rfl
    refine jm_aloadn d_X11_undo_28 rfl ?_
    refine jm_getF (k := 14) (ki := 14) rfl cf_X11 (Nat.le_of_ble_eq_true rfl) f_X11_13 d_X11_undo_29 rfl rfl is_133 fr_133_14 ?_
    refine jm_bipush (v := 60) d_X11_undo_32 rfl (jm_okI (by decide) (by decide)) ?_
    refine jm_iaload d_X11_undo_34 (ixl_135 (by decide) (by decide)) ?_
    exact jm_ret (o := some (jm_I _)) d_X11_undo_35 rfl ⟨Nat.le_refl _, Nat.le_refl _⟩ jm_r_I h rfl
  · have h := h.2 c1
    refine jm_iconst (v := (-1)) d_X11_undo_15 rfl (jm_okI (by decide) (by decide)) ?_
    exact jm_ret (o := some (jm_I _)) d_X11_undo_16 rfl ⟨Nat.le_refl _, Nat.le_refl _⟩ jm_r_I h rfl
/-! ('CombTableModel', 'readWordSaid', '()Z') -/
theorem d_X11_readWordSaid_0 : decode m_X11_readWordSaid.2.1 0 = .ok (.aload_n 0, 1) := by decide +kernel
theorem d_X11_readWordSaid_1 : decode m_X11_readWordSaid.2.1 1 = .ok (.invokevirtual 194, 3) := by decide +kernel
theorem d_X11_readWordSaid_4 : decode m_X11_readWordSaid.2.1 4 = .ok (.ifCond .ne 9, 3) := by decide +kernel
theorem d_X11_readWordSaid_7 : decode m_X11_readWordSaid.2.1 7 = .ok (.aload_n 0, 1) := by decide +kernel
theorem d_X11_readWordSaid_8 : decode m_X11_readWordSaid.2.1 8 = .ok (.iconst 1, 1) := by decide +kernel
theorem d_X11_readWordSaid_9 : decode m_X11_readWordSaid.2.1 9 = .ok (.invokevirtual 174, 3) := by decide +kernel
theorem d_X11_readWordSaid_12 : decode m_X11_readWordSaid.2.1 12 = .ok (.ireturn, 1) := by decide +kernel
theorem d_X11_readWordSaid_13 : decode m_X11_readWordSaid.2.1 13 = .ok (.aload_n 0, 1) := by decide +kernel
theorem d_X11_readWordSaid_14 : decode m_X11_readWordSaid.2.1 14 = .ok (.aload_n 0, 1) := by decide +kernel
theorem d_X11_readWordSaid_15 : decode m_X11_readWordSaid.2.1 15 = .ok (.getfield 25, 3) := by decide +kernel
theorem d_X11_readWordSaid_18 : decode m_X11_readWordSaid.2.1 18 = .ok (.iconst 0, 1) := by decide +kernel
theorem d_X11_readWordSaid_19 : decode m_X11_readWordSaid.2.1 19 = .ok (.aload_n 0, 1) := by decide +kernel
theorem d_X11_readWordSaid_20 : decode m_X11_readWordSaid.2.1 20 = .ok (.getfield 13, 3) := by decide +kernel
theorem d_X11_readWordSaid_23 : decode m_X11_readWordSaid.2.1 23 = .ok (.iconst 0, 1) := by decide +kernel
theorem d_X11_readWordSaid_24 : decode m_X11_readWordSaid.2.1 24 = .ok (.iaload, 1) := by decide +kernel
theorem d_X11_readWordSaid_25 : decode m_X11_readWordSaid.2.1 25 = .ok (.invokevirtual 198, 3) := by decide +kernel
theorem d_X11_readWordSaid_28 : decode m_X11_readWordSaid.2.1 28 = .ok (.istore_n 1, 1) := by decide +kernel
theorem d_X11_readWordSaid_29 : decode m_X11_readWordSaid.2.1 29 = .ok (.iload_n 1, 1) := by decide +kernel
theorem d_X11_readWordSaid_30 : decode m_X11_readWordSaid.2.1 30 = .ok (.iconst (-1), 1) := by decide +kernel
theorem d_X11_readWordSaid_31 : decode m_X11_readWordSaid.2.1 31 = .ok (.if_icmp .ne 9, 3) := by decide +kernel
theorem d_X11_readWordSaid_34 : decode m_X11_readWordSaid.2.1 34 = .ok (.aload_n 0, 1) := by decide +kernel
theorem d_X11_readWordSaid_35 : decode m_X11_readWordSaid.2.1 35 = .ok (.iconst 3, 1) := by decide +kernel
theorem d_X11_readWordSaid_36 : decode m_X11_readWordSaid.2.1 36 = .ok (.invokevirtual 174, 3) := by decide +kernel
theorem d_X11_readWordSaid_39 : decode m_X11_readWordSaid.2.1 39 = .ok (.ireturn, 1) := by decide +kernel
theorem d_X11_readWordSaid_40 : decode m_X11_readWordSaid.2.1 40 = .ok (.aload_n 0, 1) := by decide +kernel
theorem d_X11_readWordSaid_41 : decode m_X11_readWordSaid.2.1 41 = .ok (.getfield 60, 3) := by decide +kernel
theorem d_X11_readWordSaid_44 : decode m_X11_readWordSaid.2.1 44 = .ok (.iconst 0, 1) := by decide +kernel
theorem d_X11_readWordSaid_45 : decode m_X11_readWordSaid.2.1 45 = .ok (.iaload, 1) := by decide +kernel
theorem d_X11_readWordSaid_46 : decode m_X11_readWordSaid.2.1 46 = .ok (.sipush 400, 3) := by decide +kernel
theorem d_X11_readWordSaid_49 : decode m_X11_readWordSaid.2.1 49 = .ok (.if_icmp .ne 9, 3) := by decide +kernel
theorem d_X11_readWordSaid_52 : decode m_X11_readWordSaid.2.1 52 = .ok (.aload_n 0, 1) := by decide +kernel
theorem d_X11_readWordSaid_53 : decode m_X11_readWordSaid.2.1 53 = .ok (.iconst 4, 1) := by decide +kernel
theorem d_X11_readWordSaid_54 : decode m_X11_readWordSaid.2.1 54 = .ok (.invokevirtual 174, 3) := by decide +kernel
theorem d_X11_readWordSaid_57 : decode m_X11_readWordSaid.2.1 57 = .ok (.ireturn, 1) := by decide +kernel
theorem d_X11_readWordSaid_58 : decode m_X11_readWordSaid.2.1 58 = .ok (.aload_n 0, 1) := by decide +kernel
theorem d_X11_readWordSaid_59 : decode m_X11_readWordSaid.2.1 59 = .ok (.getfield 122, 3) := by decide +kernel
theorem d_X11_readWordSaid_62 : decode m_X11_readWordSaid.2.1 62 = .ok (.istore_n 2, 1) := by decide +kernel
theorem d_X11_readWordSaid_63 : decode m_X11_readWordSaid.2.1 63 = .ok (.aload_n 0, 1) := by decide +kernel
theorem d_X11_readWordSaid_64 : decode m_X11_readWordSaid.2.1 64 = .ok (.invokevirtual 184, 3) := by decide +kernel
theorem d_X11_readWordSaid_67 : decode m_X11_readWordSaid.2.1 67 = .ok (.aload_n 0, 1) := by decide +kernel
theorem d_X11_readWordSaid_68 : decode m_X11_readWordSaid.2.1 68 = .ok (.invokevirtual 194, 3) := by decide +kernel
theorem d_X11_readWordSaid_71 : decode m_X11_readWordSaid.2.1 71 = .ok (.ifCond .ne 9, 3) := by decide +kernel
theorem d_X11_readWordSaid_74 : decode m_X11_readWordSaid.2.1 74 = .ok (.aload_n 0, 1) := by decide +kernel
theorem d_X11_readWordSaid_75 : decode m_X11_readWordSaid.2.1 75 = .ok (.iconst 1, 1) := by decide +kernel
theorem d_X11_readWordSaid_76 : decode m_X11_readWordSaid.2.1 76 = .ok (.invokevirtual 174, 3) := by decide +kernel
theorem d_X11_readWordSaid_79 : decode m_X11_readWordSaid.2.1 79 = .ok (.ireturn, 1) := by decide +kernel
theorem d_X11_readWordSaid_80 : decode m_X11_readWordSaid.2.1 80 = .ok (.aload_n 0, 1) := by decide +kernel
theorem d_X11_readWordSaid_81 : decode m_X11_readWordSaid.2.1 81 = .ok (.aload_n 0, 1) := by decide +kernel
theorem d_X11_readWordSaid_82 : decode m_X11_readWordSaid.2.1 82 = .ok (.getfield 25, 3) := by decide +kernel
theorem d_X11_readWordSaid_85 : decode m_X11_readWordSaid.2.1 85 = .ok (.bipush 8, 2) := by decide +kernel
theorem d_X11_readWordSaid_87 : decode m_X11_readWordSaid.2.1 87 = .ok (.aload_n 0, 1) := by decide +kernel
theorem d_X11_readWordSaid_88 : decode m_X11_readWordSaid.2.1 88 = .ok (.getfield 13, 3) := by decide +kernel
theorem d_X11_readWordSaid_91 : decode m_X11_readWordSaid.2.1 91 = .ok (.iconst 1, 1) := by decide +kernel
theorem d_X11_readWordSaid_92 : decode m_X11_readWordSaid.2.1 92 = .ok (.iaload, 1) := by decide +kernel
theorem d_X11_readWordSaid_93 : decode m_X11_readWordSaid.2.1 93 = .ok (.invokevirtual 198, 3) := by decide +kernel
theorem d_X11_readWordSaid_96 : decode m_X11_readWordSaid.2.1 96 = .ok (.istore_n 3, 1) := by decide +kernel
theorem d_X11_readWordSaid_97 : decode m_X11_readWordSaid.2.1 97 = .ok (.iload_n 3, 1) := by decide +kernel
theorem d_X11_readWordSaid_98 : decode m_X11_readWordSaid.2.1 98 = .ok (.iconst (-1), 1) := by decide +kernel
theorem d_X11_readWordSaid_99 : decode m_X11_readWordSaid.2.1 99 = .ok (.if_icmp .ne 9, 3) := by decide +kernel
theorem d_X11_readWordSaid_102 : decode m_X11_readWordSaid.2.1 102 = .ok (.aload_n 0, 1) := by decide +kernel
theorem d_X11_readWordSaid_103 : decode m_X11_readWordSaid.2.1 103 = .ok (.iconst 3, 1) := by decide +kernel
theorem d_X11_readWordSaid_104 : decode m_X11_readWordSaid.2.1 104 = .ok (.invokevirtual 174, 3) := by decide +kernel
theorem d_X11_readWordSaid_107 : decode m_X11_readWordSaid.2.1 107 = .ok (.ireturn, 1) := by decide +kernel
theorem d_X11_readWordSaid_108 : decode m_X11_readWordSaid.2.1 108 = .ok (.aload_n 0, 1) := by decide +kernel
theorem d_X11_readWordSaid_109 : decode m_X11_readWordSaid.2.1 109 = .ok (.iconst 0, 1) := by decide +kernel
theorem d_X11_readWordSaid_110 : decode m_X11_readWordSaid.2.1 110 = .ok (.iload_n 1, 1) := by decide +kernel
theorem d_X11_readWordSaid_111 : decode m_X11_readWordSaid.2.1 111 = .ok (.iload_n 3, 1) := by decide +kernel
theorem d_X11_readWordSaid_112 : decode m_X11_readWordSaid.2.1 112 = .ok (.invokevirtual 273, 3) := by decide +kernel
theorem d_X11_readWordSaid_115 : decode m_X11_readWordSaid.2.1 115 = .ok (.istore 4, 2) := by decide +kernel
theorem d_X11_readWordSaid_117 : decode m_X11_readWordSaid.2.1 117 = .ok (.iload 4, 2) := by decide +kernel
theorem d_X11_readWordSaid_119 : decode m_X11_readWordSaid.2.1 119 = .ok (.ifCond .eq 21, 3) := by decide +kernel
theorem d_X11_readWordSaid_122 : decode m_X11_readWordSaid.2.1 122 = .ok (.aload_n 0, 1) := by decide +kernel
theorem d_X11_readWordSaid_123 : decode m_X11_readWordSaid.2.1 123 = .ok (.iload 4, 2) := by decide +kernel
theorem d_X11_readWordSaid_125 : decode m_X11_readWordSaid.2.1 125 = .ok (.putfield 283, 3) := by decide +kernel
theorem d_X11_readWordSaid_128 : decode m_X11_readWordSaid.2.1 128 = .ok (.aload_n 0, 1) := by decide +kernel
theorem d_X11_readWordSaid_129 : decode m_X11_readWordSaid.2.1 129 = .ok (.iconst 5, 1) := by decide +kernel
theorem d_X11_readWordSaid_130 : decode m_X11_readWordSaid.2.1 130 = .ok (.putfield 168, 3) := by decide +kernel
theorem d_X11_readWordSaid_133 : decode m_X11_readWordSaid.2.1 133 = .ok (.aload_n 0, 1) := by decide +kernel
theorem d_X11_readWordSaid_134 : decode m_X11_readWordSaid.2.1 134 = .ok (.iload_n 2, 1) := by decide +kernel
theorem d_X11_readWordSaid_135 : decode m_X11_readWordSaid.2.1 135 = .ok (.putfield 171, 3) := by decide +kernel
theorem d_X11_readWordSaid_138 : decode m_X11_readWordSaid.2.1 138 = .ok (.iconst 0, 1) := by decide +kernel
theorem d_X11_readWordSaid_139 : decode m_X11_readWordSaid.2.1 139 = .ok (.ireturn, 1) := by decide +kernel
theorem d_X11_readWordSaid_140 : decode m_X11_readWordSaid.2.1 140 = .ok (.aload_n 0, 1) := by decide +kernel
theorem d_X11_readWordSaid_141 : decode m_X11_readWordSaid.2.1 141 = .ok (.iconst 0, 1) := by decide +kernel
theorem d_X11_readWordSaid_142 : decode m_X11_readWordSaid.2.1 142 = .ok (.iload_n 1, 1) := by decide +kernel
theorem d_X11_readWordSaid_143 : decode m_X11_readWordSaid.2.1 143 = .ok (.iload_n 3, 1) := by decide +kernel
theorem d_X11_readWordSaid_144 : decode m_X11_readWordSaid.2.1 144 = .ok (.invokevirtual 266, 3) := by decide +kernel
theorem d_X11_readWordSaid_147 : decode m_X11_readWordSaid.2.1 147 = .ok (.aload_n 0, 1) := by decide +kernel
theorem d_X11_readWordSaid_148 : decode m_X11_readWordSaid.2.1 148 = .ok (.invokevirtual 184, 3) := by decide +kernel
theorem d_X11_readWordSaid_151 : decode m_X11_readWordSaid.2.1 151 = .ok (.aload_n 0, 1) := by decide +kernel
theorem d_X11_readWordSaid_152 : decode m_X11_readWordSaid.2.1 152 = .ok (.invokevirtual 233, 3) := by decide +kernel
theorem d_X11_readWordSaid_155 : decode m_X11_readWordSaid.2.1 155 = .ok (.ireturn, 1) := by decide +kernel
set_option maxRecDepth 20000 in
theorem e_X11_readWordSaid {E : jm_E} {d : Nat} {μ : jm_M} {Q : Option jm_V → jm_M → Prop}  (h : (∀ v ∈ ([jm_R 133] : List jm_V), jm_ok v) →
  jc E m_X11_isName d [jm_R 133] μ (fun (o : Option jm_V) (m1 : jm_M) => ∀ r2 : Int, o = some (jm_I r2) → (r2 = 0 ∨ r2 = 1) →
  ((r2 ≠ 0 →
    jc E m_X11_findIn d [jm_R 133, jm_R 139, jm_I 0, jm_I (m1 135 0)] m1 (fun (o : Option jm_V) (m5 : jm_M) => ∀ r6 : Int, o = some (jm_I r6) →
    ((r6 ≠ ((-1)) →
      ((m5 150 0 ≠ 400 →
        jc E m_X11_go d [jm_R 133] m5 (fun (o : Option jm_V) (m9 : jm_M) => o = none →
        jc E m_X11_isName d [jm_R 133] m9 (fun (o : Option jm_V) (m10 : jm_M) => ∀ r11 : Int, o = some (jm_I r11) → (r11 = 0 ∨ r11 = 1) →
        ((r11 ≠ 0 →
          jc E m_X11_findIn d [jm_R 133, jm_R 139, jm_I 8, jm_I (m10 135 1)] m10 (fun (o : Option jm_V) (m14 : jm_M) => ∀ r15 : Int, o = some (jm_I r15) →
          ((r15 ≠ ((-1)) →
            jc E m_X11_wrongOf d [jm_R 133, jm_I 0, jm_I r6, jm_I r15] m14 (fun (o : Option jm_V) (m17 : jm_M) => ∀ r18 : Int, o = some (jm_I r18) →
            ((r18 = 0 →
              jc E m_X11_push d [jm_R 133, jm_I 0, jm_I r6, jm_I r15] m17 (fun (o : Option jm_V) (m20 : jm_M) => o = none →
              jc E m_X11_go d [jm_R 133] m20 (fun (o : Option jm_V) (m21 : jm_M) => o = none →
              jc E m_X11_readEnd d [jm_R 133] m21 (fun (o : Option jm_V) (m22 : jm_M) => ∀ r23 : Int, o = some (jm_I r23) → (r23 = 0 ∨ r23 = 1) →
              Q (some (jm_I r23)) m22)))) ∧
             (¬ (r18 = 0) →
              Q (some (jm_I 0)) (jm_up (jm_up (jm_up m17 133 31 r18) 133 10 5) 133 11 (m5 133 6)))))) ∧
           (¬ (r15 ≠ ((-1))) →
            jc E m_X11_bad d [jm_R 133, jm_I 3] m14 (fun (o : Option jm_V) (m25 : jm_M) => ∀ r26 : Int, o = some (jm_I r26) → (r26 = 0 ∨ r26 = 1) →
            Q (some (jm_I r26)) m25))))) ∧
         (¬ (r11 ≠ 0) →
          jc E m_X11_bad d [jm_R 133, jm_I 1] m10 (fun (o : Option jm_V) (m28 : jm_M) => ∀ r29 : Int, o = some (jm_I r29) → (r29 = 0 ∨ r29 = 1) →
          Q (some (jm_I r29)) m28)))))) ∧
       (¬ (m5 150 0 ≠ 400) →
        jc E m_X11_bad d [jm_R 133, jm_I 4] m5 (fun (o : Option jm_V) (m31 : jm_M) => ∀ r32 : Int, o = some (jm_I r32) → (r32 = 0 ∨ r32 = 1) →
        Q (some (jm_I r32)) m31)))) ∧
     (¬ (r6 ≠ ((-1))) →
      jc E m_X11_bad d [jm_R 133, jm_I 3] m5 (fun (o : Option jm_V) (m34 : jm_M) => ∀ r35 : Int, o = some (jm_I r35) → (r35 = 0 ∨ r35 = 1) →
      Q (some (jm_I r35)) m34))))) ∧
   (¬ (r2 ≠ 0) →
    jc E m_X11_bad d [jm_R 133, jm_I 1] m1 (fun (o : Option jm_V) (m37 : jm_M) => ∀ r38 : Int, o = some (jm_I r38) → (r38 = 0 ∨ r38 = 1) →
    Q (some (jm_I r38)) m37))))) : jc E m_X11_readWordSaid (d + 1) [jm_R 133] μ Q := by
  refine jm_Cl.of2 (by decide +kernel) (L0 := [some (jm_R 133), none, none, none, none]) rfl (Nat.le_of_ble_eq_true rfl) (fun hok => ?_)
  have h := h hok
  refine jm_aloadn d_X11_readWordSaid_0 rfl ?_
  refine jm_invV (n1 := jm_N) (mc := 0) (ms := 0) (av := []) w_X11_isName l_X11_194 d_X11_readWordSaid_1 rfl is_133 ⟨_, _, rfl⟩ ⟨Nat.le_refl _, Nat.le_refl _⟩ (Nat.le_of_ble_eq_true rfl) rfl ?_
  refine jm_Cl.mono h (fun o m1 h hr _ => ?_)
  obtain ⟨r2, rfl, z3⟩ := jm_rokZ hr
  have h := h _ rfl z3
  refine jm_if_ne (tgt := 13) d_X11_readWordSaid_4 (by decide) (fun c4 => ?_) (fun c4 => ?_)
  · have h := h.1 c4
    refine jm_aloadn d_X11_readWordSaid_13 rfl ?_
    refine jm_aloadn d_X11_readWordSaid_14 rfl ?_
    refine jm_getF (k := 18) (ki := 18) rfl cf_X11 (Nat.le_of_ble_eq_true rfl) f_X11_25 d_X11_readWordSaid_15 rfl rfl is_133 fr_133_18 ?_
    refine jm_iconst (v := 0) d_X11_readWordSaid_18 rfl (jm_okI (by decide) (by decide)) ?_
    refine jm_aloadn d_X11_readWordSaid_19 rfl ?_
    refine jm_getF (k := 14) (ki := 14) rfl cf_X11 (Nat.le_of_ble_eq_true rfl) f_X11_13 d_X11_readWordSaid_20 rfl rfl is_133 fr_133_14 ?_
    refine jm_iconst (v := 0) d_X11_readWordSaid_23 rfl (jm_okI (by decide) (by decide)) ?_
    refine jm_iaload d_X11_readWordSaid_24 (ixl_135 (by decide) (by decide)) ?_
    refine jm_invV (n1 := jm_N) (mc := 0) (ms := 0) (av := [jm_R _, jm_I _, jm_I _]) w_X11_findIn l_X11_198 d_X11_readWordSaid_25 rfl is_133 ⟨_, _, rfl⟩ ⟨Nat.le_refl _, Nat.le_refl _⟩ (Nat.le_of_ble_eq_true rfl) rfl ?_
    refine jm_Cl.mono h (fun o m5 h hr _ => ?_)
    obtain ⟨r6, rfl⟩ := jm_rokI hr
    have h := h _ rfl
    refine jm_istoren (L' := [some (jm_R _), some (jm_I _), none, none, none]) d_X11_readWordSaid_28 (Nat.le_of_ble_eq_true rfl) rfl ?_
    refine jm_iloadn d_X11_readWordSaid_29 rfl ?_
    refine jm_iconst (v := (-1)) d_X11_readWordSaid_30 rfl (jm_okI (by decide) (by decide)) ?_
    refine jm_icmp_ne (tgt := 40) d_X11_readWordSaid_31 (by decide) (fun c7 => ?_) (fun c7 => ?_)
    · have h := h.1 c7
      refine jm_aloadn d_X11_readWordSaid_40 rfl ?_
      refine jm_getF (k := 29) (ki := 29) rfl cf_X11 (Nat.le_of_ble_eq_true rfl) f_X11_60 d_X11_readWordSaid_41 rfl rfl is_133 fr_133_29 ?_
      refine jm_iconst (v := 0) d_X11_readWordSaid_44 rfl (jm_okI (by decide) (by decide)) ?_
      refine jm_iaload d_X11_readWordSaid_45 (ixl_150 (by decide) (by decide)) ?_
      refine jm_sipush (v := 400) d_X11_readWordSaid_46 rfl (jm_okI (by decide) (by decide)) ?_
      refine jm_icmp_ne (tgt := 58) d_X11_readWordSaid_49 (by decide) (fun c8 => ?_) (fun c8 => ?_)
      · have h := h.1 c8
        refine jm_aloadn d_X11_readWordSaid_58 rfl ?_
        refine jm_getI (k := 6) (ki := 6) cf_X11 (Nat.le_of_ble_eq_true rfl) f_X11_122 d_X11_readWordSaid_59 rfl rfl is_133 rfl ?_
        refine jm_istoren (L' := [some (jm_R _), some (jm_I _), some (jm_I _), none, none]) d_X11_readWordSaid_62 (Nat.le_of_ble_eq_true rfl) rfl ?_
        refine jm_aloadn d_X11_readWordSaid_63 rfl ?_
        refine jm_invV (n1 := jm_N) (mc := 0) (ms := 0) (av := []) w_X11_go l_X11_184 d_X11_readWordSaid_64 rfl is_133 ⟨_, _, rfl⟩ ⟨Nat.le_refl _, Nat.le_refl _⟩ (Nat.le_of_ble_eq_true rfl) rfl ?_
        refine jm_Cl.mono h (fun o m9 h hr _ => ?_)
        obtain rfl := jm_rokV hr
        have h := h rfl
        refine jm_aloadn d_X11_readWordSaid_67 rfl ?_
        refine jm_invV (n1 := jm_N) (mc := 0) (ms := 0) (av := []) w_X11_isName l_X11_194 d_X11_readWordSaid_68 rfl is_133 ⟨_, _, rfl⟩ ⟨Nat.le_refl _, Nat.le_refl _⟩ (Nat.le_of_ble_eq_true rfl) rfl ?_
        refine jm_Cl.mono h (fun o m10 h hr _ => ?_)
        obtain ⟨r11, rfl, z12⟩ := jm_rokZ hr
        have h := h _ rfl z12
        refine jm_if_ne (tgt := 80) d_X11_readWordSaid_71 (by decide) (fun c13 => ?_) (fun c13 => ?_)
        · have h := h.1 c13
          refine jm_aloadn d_X11_readWordSaid_80 rfl ?_
          refine jm_aloadn d_X11_readWordSaid_81 rfl ?_
          refine jm_getF (k := 18) (ki := 18) rfl cf_X11 (Nat.le_of_ble_eq_true rfl) f_X11_25 d_X11_readWordSaid_82 rfl rfl is_133 fr_133_18 ?_
          refine jm_bipush (v := 8) d_X11_readWordSaid_85 rfl (jm_okI (by decide) (by decide)) ?_
          refine jm_aloadn d_X11_readWordSaid_87 rfl ?_
          refine jm_getF (k := 14) (ki := 14) rfl cf_X11 (Nat.le_of_ble_eq_true rfl) f_X11_13 d_X11_readWordSaid_88 rfl rfl is_133 fr_133_14 ?_
          refine jm_iconst (v := 1) d_X11_readWordSaid_91 rfl (jm_okI (by decide) (by decide)) ?_
          refine jm_iaload d_X11_readWordSaid_92 (ixl_135 (by decide) (by decide)) ?_
          refine jm_invV (n1 := jm_N) (mc := 0) (ms := 0) (av := [jm_R _, jm_I _, jm_I _]) w_X11_findIn l_X11_198 d_X11_readWordSaid_93 rfl is_133 ⟨_, _, rfl⟩ ⟨Nat.le_refl _, Nat.le_refl _⟩ (Nat.le_of_ble_eq_true rfl) rfl ?_
          refine jm_Cl.mono h (fun o m14 h hr _ => ?_)
          obtain ⟨r15, rfl⟩ := jm_rokI hr
          have h := h _ rfl
          refine jm_istoren (L' := [some (jm_R _), some (jm_I _), some (jm_I _), some (jm_I _), none]) d_X11_readWordSaid_96 (Nat.le_of_ble_eq_true rfl) rfl ?_
          refine jm_iloadn d_X11_readWordSaid_97 rfl ?_
          refine jm_iconst (v := (-1)) d_X11_readWordSaid_98 rfl (jm_okI (by decide) (by decide)) ?_
          refine jm_icmp_ne (tgt := 108) d_X11_readWordSaid_99 (by decide) (fun c16 => ?_) (fun c16 => ?_)
          · have h := h.1 c16
            refine jm_aloadn d_X11_readWordSaid_108 rfl ?_
            refine jm_iconst (v := 0) d_X11_readWordSaid_109 rfl (jm_okI (by decide) (by decide)) ?_
            refine jm_iloadn d_X11_readWordSaid_110 rfl ?_
            refine jm_iloadn d_X11_readWordSaid_111 rfl ?_
            refine jm_invV (n1 := jm_N) (mc := 0) (ms := 0) (av := [jm_I _, jm_I _, jm_I _]) w_X11_wrongOf l_X11_273 d_X11_readWordSaid_112 rfl is_133 ⟨_, _, rfl⟩ ⟨Nat.le_refl _, Nat.le_refl _⟩ (Nat.le_of_ble_eq_true rfl) rfl ?_
            refine jm_Cl.mono h (fun o m17 h hr _ => ?_)
            obtain ⟨r18, rfl⟩ := jm_rokI hr
            have h := h _ rfl
            refine jm_istore (L' := [some (jm_R _), some (jm_I _), some (jm_I _), some (jm_I _), some (jm_I _)]) d_X11_readWordSaid_115 (Nat.le_of_ble_eq_true rfl) rfl ?_
            refine jm_iload d_X11_readWordSaid_117 rfl ?_
            refine jm_if_eq (tgt := 140) d_X11_readWordSaid_119 (by decide) (fun c19 => ?_) (fun c19 => ?_)
            · have h := h.1 c19
              refine jm_aloadn d_X11_readWordSaid_140 rfl ?_
              refine jm_iconst (v := 0) d_X11_readWordSaid_141 rfl (jm_okI (by decide) (by decide)) ?_
              refine jm_iloadn d_X11_readWordSaid_142 rfl ?_
              refine jm_iloadn d_X11_readWordSaid_143 rfl ?_
              refine jm_invV (n1 := jm_N) (mc := 0) (ms := 0) (av := [jm_I _, jm_I _, jm_I _]) w_X11_push l_X11_266 d_X11_readWordSaid_144 rfl is_133 ⟨_, _, rfl⟩ ⟨Nat.le_refl _, Nat.le_refl _⟩ (Nat.le_of_ble_eq_true rfl) rfl ?_
              refine jm_Cl.mono h (fun o m20 h hr _ => ?_)
              obtain rfl := jm_rokV hr
              have h := h rfl
              refine jm_aloadn d_X11_readWordSaid_147 rfl ?_
              refine jm_invV (n1 := jm_N) (mc := 0) (ms := 0) (av := []) w_X11_go l_X11_184 d_X11_readWordSaid_148 rfl is_133 ⟨_, _, rfl⟩ ⟨Nat.le_refl _, Nat.le_refl _⟩ (Nat.le_of_ble_eq_true rfl) rfl ?_
              refine jm_Cl.mono h (fun o m21 h hr _ => ?_)
              obtain rfl := jm_rokV hr
              have h := h rfl
              refine jm_aloadn d_X11_readWordSaid_151 rfl ?_
              refine jm_invV (n1 := jm_N) (mc := 0) (ms := 0) (av := []) w_X11_readEnd l_X11_233 d_X11_readWordSaid_152 rfl is_133 ⟨_, _, rfl⟩ ⟨Nat.le_refl _, Nat.le_refl _⟩ (Nat.le_of_ble_eq_true rfl) rfl ?_
              refine jm_Cl.mono h (fun o m22 h hr _ => ?_)
              obtain ⟨r23, rfl, z24⟩ := jm_rokZ hr
              have h := h _ rfl z24
              exact jm_ret (o := some (jm_I _)) d_X11_readWordSaid_155 rfl ⟨Nat.le_refl _, Nat.le_refl _⟩ (jm_r_Z z24) h rfl
            · have h := h.2 c19
              refine jm_aloadn d_X11_readWordSaid_122 rfl ?_
              refine jm_iload d_X11_readWordSaid_123 rfl ?_
              refine jm_putI (k := 31) (ki := 31) cf_X11 (Nat.le_of_ble_eq_true rfl) f_X11_283 d_X11_readWordSaid_125 (fun z => absurd z (by decide)) rfl rfl rfl (fun _ => rfl) is_133 ?_
              refine jm_aloadn d_X11_readWordSaid_128 rfl ?_
              refine jm_iconst (v := 5) d_X11_readWordSaid_129 rfl (jm_okI (by decide) (by decide)) ?_
              refine jm_putI (k := 10) (ki := 10) cf_X11 (Nat.le_of_ble_eq_true rfl) f_X11_168 d_X11_readWordSaid_130 (fun z => absurd z (by decide)) rfl rfl rfl (fun _ => rfl) is_133 ?_
              refine jm_aloadn d_X11_readWordSaid_133 rfl ?_
              refine jm_iloadn d_X11_readWordSaid_134 rfl ?_
              refine jm_putI (k := 11) (ki := 11) cf_X11 (Nat.le_of_ble_eq_true rfl) f_X11_171 d_X11_readWordSaid_135 (fun z => absurd z (by decide)) rfl rfl rfl (fun _ => rfl) is_133 ?_
              refine jm_iconst (v := 0) d_X11_readWordSaid_138 rfl (jm_okI (by decide) (by decide)) ?_
              exact jm_ret (o := some (jm_I _)) d_X11_readWordSaid_139 rfl ⟨Nat.le_refl _, Nat.le_refl _⟩ (jm_r_Z (by decide)) h rfl
          · have h := h.2 c16
            refine jm_aloadn d_X11_readWordSaid_102 rfl ?_
            refine jm_iconst (v := 3) d_X11_readWordSaid_103 rfl (jm_okI (by decide) (by decide)) ?_
            refine jm_invV (n1 := jm_N) (mc := 0) (ms := 0) (av := [jm_I _]) w_X11_bad l_X11_174 d_X11_readWordSaid_104 rfl is_133 ⟨_, _, rfl⟩ ⟨Nat.le_refl _, Nat.le_refl _⟩ (Nat.le_of_ble_eq_true rfl) rfl ?_
            refine jm_Cl.mono h (fun o m25 h hr _ => ?_)
            obtain ⟨r26, rfl, z27⟩ := jm_rokZ hr
            have h := h _ rfl z27
            exact jm_ret (o := some (jm_I _)) d_X11_readWordSaid_107 rfl ⟨Nat.le_refl _, Nat.le_refl _⟩ (jm_r_Z z27) h rfl
        · have h := h.2 c13
          refine jm_aloadn d_X11_readWordSaid_74 rfl ?_
          refine jm_iconst (v := 1) d_X11_readWordSaid_75 rfl (jm_okI (by decide) (by decide)) ?_
          refine jm_invV (n1 := jm_N) (mc := 0) (ms := 0) (av := [jm_I _]) w_X11_bad l_X11_174 d_X11_readWordSaid_76 rfl is_133 ⟨_, _, rfl⟩ ⟨Nat.le_refl _, Nat.le_refl _⟩ (Nat.le_of_ble_eq_true rfl) rfl ?_
          refine jm_Cl.mono h (fun o m28 h hr _ => ?_)
          obtain ⟨r29, rfl, z30⟩ := jm_rokZ hr
          have h := h _ rfl z30
          exact jm_ret (o := some (jm_I _)) d_X11_readWordSaid_79 rfl ⟨Nat.le_refl _, Nat.le_refl _⟩ (jm_r_Z z30) h rfl
      · have h := h.2 c8
        refine jm_aloadn d_X11_readWordSaid_52 rfl ?_
        refine jm_iconst (v := 4) d_X11_readWordSaid_53 rfl (jm_okI (by decide) (by decide)) ?_
        refine jm_invV (n1 := jm_N) (mc := 0) (ms := 0) (av := [jm_I _]) w_X11_bad l_X11_174 d_X11_readWordSaid_54 rfl is_133 ⟨_, _, rfl⟩ ⟨Nat.le_refl _, Nat.le_refl _⟩ (Nat.le_of_ble_eq_true rfl) rfl ?_
        refine jm_Cl.mono h (fun o m31 h hr _ => ?_)
        obtain ⟨r32, rfl, z33⟩ := jm_rokZ hr
        have h := h _ rfl z33
        exact jm_ret (o := some (jm_I _)) d_X11_readWordSaid_57 rfl ⟨Nat.le_refl _, Nat.le_refl _⟩ (jm_r_Z z33) h rfl
    · have h := h.2 c7
      refine jm_aloadn d_X11_readWordSaid_34 rfl ?_
      refine jm_iconst (v := 3) d_X11_readWordSaid_35 rfl (jm_okI (by decide) (by decide)) ?_
      refine jm_invV (n1 := jm_N) (mc := 0) (ms := 0) (av := [jm_I _]) w_X11_bad l_X11_174 d_X11_readWordSaid_36 rfl is_133 ⟨_, _, rfl⟩ ⟨Nat.le_refl _, Nat.le_refl _⟩ (Nat.le_of_ble_eq_true rfl) rfl ?_
      refine jm_Cl.mono h (fun o m34 h hr _ => ?_)
      obtain ⟨r35, rfl, z36⟩ := jm_rokZ hr
      have h := h _ rfl z36
      exact jm_ret (o := some (jm_I _)) d_X11_readWordSaid_39 rfl ⟨Nat.le_refl _, Nat.le_refl _⟩ (jm_r_Z z36) h rfl
  · have h := h.2 c4
    refine jm_aloadn d_X11_readWordSaid_7 rfl ?_
    refine jm_iconst (v := 1) d_X11_readWordSaid_8 rfl (jm_okI (by decide) (by decide)) ?_
    refine jm_invV (n1 := jm_N) (mc := 0) (ms := 0) (av := [jm_I _]) w_X11_bad l_X11_174 d_X11_readWordSaid_9 rfl is_133 ⟨_, _, rfl⟩ ⟨Nat.le_refl _, Nat.le_refl _⟩ (Nat.le_of_ble_eq_true rfl) rfl ?_
    refine jm_Cl.mono h (fun o m37 h hr _ => ?_)
    obtain ⟨r38, rfl, z39⟩ := jm_rokZ hr
    have h := h _ rfl z39
    exact jm_ret (o := some (jm_I _)) d_X11_readWordSaid_12 rfl ⟨Nat.le_refl _, Nat.le_refl _⟩ (jm_r_Z z39) h rfl
/-! ('CombTableModel', 'talk', '()I') -/
theorem d_X11_talk_0 : decode m_X11_talk.2.1 0 = .ok (.aload_n 0, 1) := by decide +kernel
theorem d_X11_talk_1 : decode m_X11_talk.2.1 1 = .ok (.sipush 900, 3) := by decide +kernel
theorem d_X11_talk_4 : decode m_X11_talk.2.1 4 = .ok (.invokevirtual 236, 3) := by decide +kernel
theorem d_X11_talk_7 : decode m_X11_talk.2.1 7 = .ok (.aload_n 0, 1) := by decide +kernel
theorem d_X11_talk_8 : decode m_X11_talk.2.1 8 = .ok (.iconst 0, 1) := by decide +kernel
theorem d_X11_talk_9 : decode m_X11_talk.2.1 9 = .ok (.putfield 283, 3) := by decide +kernel
theorem d_X11_talk_12 : decode m_X11_talk.2.1 12 = .ok (.aload_n 0, 1) := by decide +kernel
theorem d_X11_talk_13 : decode m_X11_talk.2.1 13 = .ok (.iconst 0, 1) := by decide +kernel
theorem d_X11_talk_14 : decode m_X11_talk.2.1 14 = .ok (.aload_n 0, 1) := by decide +kernel
theorem d_X11_talk_15 : decode m_X11_talk.2.1 15 = .ok (.getfield 13, 3) := by decide +kernel
theorem d_X11_talk_18 : decode m_X11_talk.2.1 18 = .ok (.iconst 0, 1) := by decide +kernel
theorem d_X11_talk_19 : decode m_X11_talk.2.1 19 = .ok (.invokevirtual 262, 3) := by decide +kernel
theorem d_X11_talk_22 : decode m_X11_talk.2.1 22 = .ok (.aload_n 0, 1) := by decide +kernel
theorem d_X11_talk_23 : decode m_X11_talk.2.1 23 = .ok (.getfield 128, 3) := by decide +kernel
theorem d_X11_talk_26 : decode m_X11_talk.2.1 26 = .ok (.ifCond .eq 17, 3) := by decide +kernel
theorem d_X11_talk_29 : decode m_X11_talk.2.1 29 = .ok (.aload_n 0, 1) := by decide +kernel
theorem d_X11_talk_30 : decode m_X11_talk.2.1 30 = .ok (.invokevirtual 286, 3) := by decide +kernel
theorem d_X11_talk_33 : decode m_X11_talk.2.1 33 = .ok (.ifCond .ne (-11), 3) := by decide +kernel
theorem d_X11_talk_36 : decode m_X11_talk.2.1 36 = .ok (.iconst (-1), 1) := by decide +kernel
theorem d_X11_talk_37 : decode m_X11_talk.2.1 37 = .ok (.aload_n 0, 1) := by decide +kernel
theorem d_X11_talk_38 : decode m_X11_talk.2.1 38 = .ok (.getfield 171, 3) := by decide +kernel
theorem d_X11_talk_41 : decode m_X11_talk.2.1 41 = .ok (.isub, 1) := by decide +kernel
theorem d_X11_talk_42 : decode m_X11_talk.2.1 42 = .ok (.ireturn, 1) := by decide +kernel
theorem d_X11_talk_43 : decode m_X11_talk.2.1 43 = .ok (.iconst 0, 1) := by decide +kernel
theorem d_X11_talk_44 : decode m_X11_talk.2.1 44 = .ok (.istore_n 1, 1) := by decide +kernel
theorem d_X11_talk_45 : decode m_X11_talk.2.1 45 = .ok (.iload_n 1, 1) := by decide +kernel
theorem d_X11_talk_46 : decode m_X11_talk.2.1 46 = .ok (.aload_n 0, 1) := by decide +kernel
theorem d_X11_talk_47 : decode m_X11_talk.2.1 47 = .ok (.getfield 60, 3) := by decide +kernel
theorem d_X11_talk_50 : decode m_X11_talk.2.1 50 = .ok (.iconst 0, 1) := by decide +kernel
theorem d_X11_talk_51 : decode m_X11_talk.2.1 51 = .ok (.iaload, 1) := by decide +kernel
theorem d_X11_talk_52 : decode m_X11_talk.2.1 52 = .ok (.if_icmp .ge 45, 3) := by decide +kernel
theorem d_X11_talk_55 : decode m_X11_talk.2.1 55 = .ok (.aload_n 0, 1) := by decide +kernel
theorem d_X11_talk_56 : decode m_X11_talk.2.1 56 = .ok (.getfield 13, 3) := by decide +kernel
theorem d_X11_talk_59 : decode m_X11_talk.2.1 59 = .ok (.bipush 61, 2) := by decide +kernel
theorem d_X11_talk_61 : decode m_X11_talk.2.1 61 = .ok (.iconst 2, 1) := by decide +kernel
theorem d_X11_talk_62 : decode m_X11_talk.2.1 62 = .ok (.iload_n 1, 1) := by decide +kernel
theorem d_X11_talk_63 : decode m_X11_talk.2.1 63 = .ok (.imul, 1) := by decide +kernel
theorem d_X11_talk_64 : decode m_X11_talk.2.1 64 = .ok (.iadd, 1) := by decide +kernel
theorem d_X11_talk_65 : decode m_X11_talk.2.1 65 = .ok (.aload_n 0, 1) := by decide +kernel
theorem d_X11_talk_66 : decode m_X11_talk.2.1 66 = .ok (.getfield 42, 3) := by decide +kernel
theorem d_X11_talk_69 : decode m_X11_talk.2.1 69 = .ok (.iload_n 1, 1) := by decide +kernel
theorem d_X11_talk_70 : decode m_X11_talk.2.1 70 = .ok (.iaload, 1) := by decide +kernel
theorem d_X11_talk_71 : decode m_X11_talk.2.1 71 = .ok (.iastore, 1) := by decide +kernel
theorem d_X11_talk_72 : decode m_X11_talk.2.1 72 = .ok (.aload_n 0, 1) := by decide +kernel
theorem d_X11_talk_73 : decode m_X11_talk.2.1 73 = .ok (.getfield 13, 3) := by decide +kernel
theorem d_X11_talk_76 : decode m_X11_talk.2.1 76 = .ok (.bipush 61, 2) := by decide +kernel
theorem d_X11_talk_78 : decode m_X11_talk.2.1 78 = .ok (.iconst 2, 1) := by decide +kernel
theorem d_X11_talk_79 : decode m_X11_talk.2.1 79 = .ok (.iload_n 1, 1) := by decide +kernel
theorem d_X11_talk_80 : decode m_X11_talk.2.1 80 = .ok (.imul, 1) := by decide +kernel
theorem d_X11_talk_81 : decode m_X11_talk.2.1 81 = .ok (.iadd, 1) := by decide +kernel
theorem d_X11_talk_82 : decode m_X11_talk.2.1 82 = .ok (.iconst 1, 1) := by decide +kernel
theorem d_X11_talk_83 : decode m_X11_talk.2.1 83 = .ok (.iadd, 1) := by decide +kernel
theorem d_X11_talk_84 : decode m_X11_talk.2.1 84 = .ok (.aload_n 0, 1) := by decide +kernel
theorem d_X11_talk_85 : decode m_X11_talk.2.1 85 = .ok (.getfield 45, 3) := by decide +kernel
theorem d_X11_talk_88 : decode m_X11_talk.2.1 88 = .ok (.iload_n 1, 1) := by decide +kernel
theorem d_X11_talk_89 : decode m_X11_talk.2.1 89 = .ok (.iaload, 1) := by decide +kernel
theorem d_X11_talk_90 : decode m_X11_talk.2.1 90 = .ok (.iastore, 1) := by decide +kernel
theorem d_X11_talk_91 : decode m_X11_talk.2.1 91 = .ok (.iinc 1 1, 3) := by decide +kernel
theorem d_X11_talk_94 : decode m_X11_talk.2.1 94 = .ok (.goto (-49), 3) := by decide +kernel
theorem d_X11_talk_97 : decode m_X11_talk.2.1 97 = .ok (.aload_n 0, 1) := by decide +kernel
theorem d_X11_talk_98 : decode m_X11_talk.2.1 98 = .ok (.getfield 13, 3) := by decide +kernel
theorem d_X11_talk_101 : decode m_X11_talk.2.1 101 = .ok (.bipush 60, 2) := by decide +kernel
theorem d_X11_talk_103 : decode m_X11_talk.2.1 103 = .ok (.aload_n 0, 1) := by decide +kernel
theorem d_X11_talk_104 : decode m_X11_talk.2.1 104 = .ok (.getfield 60, 3) := by decide +kernel
theorem d_X11_talk_107 : decode m_X11_talk.2.1 107 = .ok (.iconst 0, 1) := by decide +kernel
theorem d_X11_talk_108 : decode m_X11_talk.2.1 108 = .ok (.iaload, 1) := by decide +kernel
theorem d_X11_talk_109 : decode m_X11_talk.2.1 109 = .ok (.iastore, 1) := by decide +kernel
theorem d_X11_talk_110 : decode m_X11_talk.2.1 110 = .ok (.aload_n 0, 1) := by decide +kernel
theorem d_X11_talk_111 : decode m_X11_talk.2.1 111 = .ok (.getfield 60, 3) := by decide +kernel
theorem d_X11_talk_114 : decode m_X11_talk.2.1 114 = .ok (.iconst 0, 1) := by decide +kernel
theorem d_X11_talk_115 : decode m_X11_talk.2.1 115 = .ok (.iaload, 1) := by decide +kernel
theorem d_X11_talk_116 : decode m_X11_talk.2.1 116 = .ok (.ireturn, 1) := by decide +kernel
set_option maxRecDepth 20000 in
theorem e_X11_talk {E : jm_E} {d : Nat} {μ : jm_M} {Q : Option jm_V → jm_M → Prop}  (h : (∀ v ∈ ([jm_R 133] : List jm_V), jm_ok v) →
  jc E m_X11_begin d [jm_R 133, jm_I 900] μ (fun (o : Option jm_V) (m1 : jm_M) => o = none →
  jc E m_X11_layRules d [jm_R 133, jm_I 0, jm_R 135, jm_I 0] (jm_up m1 133 31 0) (fun (o : Option jm_V) (m2 : jm_M) => o = none →
  jg E m_X11_talk d 22 [some (jm_R 133), none] [] m2 Q))) : jc E m_X11_talk (d + 1) [jm_R 133] μ Q := by
  refine jm_Cl.of2 (by decide +kernel) (L0 := [some (jm_R 133), none]) rfl (Nat.le_of_ble_eq_true rfl) (fun hok => ?_)
  have h := h hok
  refine jm_aloadn d_X11_talk_0 rfl ?_
  refine jm_sipush (v := 900) d_X11_talk_1 rfl (jm_okI (by decide) (by decide)) ?_
  refine jm_invV (n1 := jm_N) (mc := 0) (ms := 0) (av := [jm_I _]) w_X11_begin l_X11_236 d_X11_talk_4 rfl is_133 ⟨_, _, rfl⟩ ⟨Nat.le_refl _, Nat.le_refl _⟩ (Nat.le_of_ble_eq_true rfl) rfl ?_
  refine jm_Cl.mono h (fun o m1 h hr _ => ?_)
  obtain rfl := jm_rokV hr
  have h := h rfl
  refine jm_aloadn d_X11_talk_7 rfl ?_
  refine jm_iconst (v := 0) d_X11_talk_8 rfl (jm_okI (by decide) (by decide)) ?_
  refine jm_putI (k := 31) (ki := 31) cf_X11 (Nat.le_of_ble_eq_true rfl) f_X11_283 d_X11_talk_9 (fun z => absurd z (by decide)) rfl rfl rfl (fun _ => rfl) is_133 ?_
  refine jm_aloadn d_X11_talk_12 rfl ?_
  refine jm_iconst (v := 0) d_X11_talk_13 rfl (jm_okI (by decide) (by decide)) ?_
  refine jm_aloadn d_X11_talk_14 rfl ?_
  refine jm_getF (k := 14) (ki := 14) rfl cf_X11 (Nat.le_of_ble_eq_true rfl) f_X11_13 d_X11_talk_15 rfl rfl is_133 fr_133_14 ?_
  refine jm_iconst (v := 0) d_X11_talk_18 rfl (jm_okI (by decide) (by decide)) ?_
  refine jm_invV (n1 := jm_N) (mc := 0) (ms := 0) (av := [jm_I _, jm_R _, jm_I _]) w_X11_layRules l_X11_262 d_X11_talk_19 rfl is_133 ⟨_, _, rfl⟩ ⟨Nat.le_refl _, Nat.le_refl _⟩ (Nat.le_of_ble_eq_true rfl) rfl ?_
  refine jm_Cl.mono h (fun o m2 h hr _ => ?_)
  obtain rfl := jm_rokV hr
  have h := h rfl
  exact h
set_option maxRecDepth 20000 in
theorem r_X11_talk_22 {E : jm_E} {d : Nat} {μ : jm_M} {Q : Option jm_V → jm_M → Prop}  (h :
  ((μ 133 7 = 0 →
    jg E m_X11_talk d 45 [some (jm_R 133), some (jm_I 0)] [] μ Q) ∧
   (¬ (μ 133 7 = 0) →
    jc E m_X11_readWordSaid d [jm_R 133] μ (fun (o : Option jm_V) (m2 : jm_M) => ∀ r3 : Int, o = some (jm_I r3) → (r3 = 0 ∨ r3 = 1) →
    ((r3 ≠ 0 →
      jg E m_X11_talk d 22 [some (jm_R 133), none] [] m2 Q) ∧
     (¬ (r3 ≠ 0) →
      Q (some (jm_I (jm_wr (((-1)) - (m2 133 11))))) m2)))))) : jg E m_X11_talk d 22 [some (jm_R 133), none] [] μ Q := by
  refine jm_aloadn d_X11_talk_22 rfl ?_
  refine jm_getI (k := 7) (ki := 7) cf_X11 (Nat.le_of_ble_eq_true rfl) f_X11_128 d_X11_talk_23 rfl rfl is_133 rfl ?_
  refine jm_if_eq (tgt := 43) d_X11_talk_26 (by decide) (fun c1 => ?_) (fun c1 => ?_)
  · have h := h.1 c1
    refine jm_iconst (v := 0) d_X11_talk_43 rfl (jm_okI (by decide) (by decide)) ?_
    refine jm_istoren (L' := [some (jm_R _), some (jm_I _)]) d_X11_talk_44 (Nat.le_of_ble_eq_true rfl) rfl ?_
    exact h
  · have h := h.2 c1
    refine jm_aloadn d_X11_talk_29 rfl ?_
    refine jm_invV (n1 := jm_N) (mc := 0) (ms := 0) (av := []) w_X11_readWordSaid l_X11_286 d_X11_talk_30 rfl is_133 ⟨_, _, rfl⟩ ⟨Nat.le_refl _, Nat.le_refl _⟩ (Nat.le_of_ble_eq_true rfl) rfl ?_
    refine jm_Cl.mono h (fun o m2 h hr _ => ?_)
    obtain ⟨r3, rfl, z4⟩ := jm_rokZ hr
    have h := h _ rfl z4
    refine jm_if_ne (tgt := 22) d_X11_talk_33 (by decide) (fun c5 => ?_) (fun c5 => ?_)
    · have h := h.1 c5
      exact h
    · have h := h.2 c5
      refine jm_iconst (v := (-1)) d_X11_talk_36 rfl (jm_okI (by decide) (by decide)) ?_
      refine jm_aloadn d_X11_talk_37 rfl ?_
      refine jm_getI (k := 11) (ki := 11) cf_X11 (Nat.le_of_ble_eq_true rfl) f_X11_171 d_X11_talk_38 rfl rfl is_133 rfl ?_
      refine jm_isub d_X11_talk_41 ?_
      exact jm_ret (o := some (jm_I _)) d_X11_talk_42 rfl ⟨Nat.le_refl _, Nat.le_refl _⟩ jm_r_I h rfl
set_option maxRecDepth 20000 in
theorem r_X11_talk_45 {E : jm_E} {d : Nat} {μ : jm_M} {Q : Option jm_V → jm_M → Prop} {v1 : Int} (h :
  ((μ 150 0 ≤ v1 →
    ∀ m2 : jm_M, m2 = (jm_up μ 135 60 (μ 150 0)) →
    Q (some (jm_I (m2 150 0))) m2) ∧
   (¬ (μ 150 0 ≤ v1) →
    (0 ≤ v1 ∧ v1 < 800) ∧
    (0 ≤ jm_wr (61 + (jm_wr (2 * v1))) ∧ jm_wr (61 + (jm_wr (2 * v1))) < 1152) ∧
    ∀ m5 : jm_M, m5 = (jm_up μ 135 (jm_wr (61 + (jm_wr (2 * v1)))) (μ 144 v1)) →
    (0 ≤ jm_wr ((jm_wr (61 + (jm_wr (2 * v1)))) + 1) ∧ jm_wr ((jm_wr (61 + (jm_wr (2 * v1)))) + 1) < 1152) ∧
    ∀ m7 : jm_M, m7 = (jm_up m5 135 (jm_wr ((jm_wr (61 + (jm_wr (2 * v1)))) + 1)) (m5 145 v1)) →
    jg E m_X11_talk d 45 [some (jm_R 133), some (jm_I (jm_wr (v1 + 1)))] [] m7 Q))) : jg E m_X11_talk d 45 [some (jm_R 133), some (jm_I v1)] [] μ Q := by
  refine jm_iloadn d_X11_talk_45 rfl ?_
  refine jm_aloadn d_X11_talk_46 rfl ?_
  refine jm_getF (k := 29) (ki := 29) rfl cf_X11 (Nat.le_of_ble_eq_true rfl) f_X11_60 d_X11_talk_47 rfl rfl is_133 fr_133_29 ?_
  refine jm_iconst (v := 0) d_X11_talk_50 rfl (jm_okI (by decide) (by decide)) ?_
  refine jm_iaload d_X11_talk_51 (ixl_150 (by decide) (by decide)) ?_
  refine jm_icmp_ge (tgt := 97) d_X11_talk_52 (by decide) (fun c1 => ?_) (fun c1 => ?_)
  · have h := h.1 c1
    refine jm_aloadn d_X11_talk_97 rfl ?_
    refine jm_getF (k := 14) (ki := 14) rfl cf_X11 (Nat.le_of_ble_eq_true rfl) f_X11_13 d_X11_talk_98 rfl rfl is_133 fr_133_14 ?_
    refine jm_bipush (v := 60) d_X11_talk_101 rfl (jm_okI (by decide) (by decide)) ?_
    refine jm_aloadn d_X11_talk_103 rfl ?_
    refine jm_getF (k := 29) (ki := 29) rfl cf_X11 (Nat.le_of_ble_eq_true rfl) f_X11_60 d_X11_talk_104 rfl rfl is_133 fr_133_29 ?_
    refine jm_iconst (v := 0) d_X11_talk_107 rfl (jm_okI (by decide) (by decide)) ?_
    refine jm_iaload d_X11_talk_108 (ixl_150 (by decide) (by decide)) ?_
    refine jm_iastore d_X11_talk_109 (ixl_135 (by decide) (by decide)) ?_
    have h := h _ rfl
    refine jm_aloadn d_X11_talk_110 rfl ?_
    refine jm_getF (k := 29) (ki := 29) rfl cf_X11 (Nat.le_of_ble_eq_true rfl) f_X11_60 d_X11_talk_111 rfl rfl is_133 fr_133_29 ?_
    refine jm_iconst (v := 0) d_X11_talk_114 rfl (jm_okI (by decide) (by decide)) ?_
    refine jm_iaload d_X11_talk_115 (ixl_150 (by decide) (by decide)) ?_
    exact jm_ret (o := some (jm_I _)) d_X11_talk_116 rfl ⟨Nat.le_refl _, Nat.le_refl _⟩ jm_r_I h rfl
  · have h := h.2 c1
    refine jm_aloadn d_X11_talk_55 rfl ?_
    refine jm_getF (k := 14) (ki := 14) rfl cf_X11 (Nat.le_of_ble_eq_true rfl) f_X11_13 d_X11_talk_56 rfl rfl is_133 fr_133_14 ?_
    refine jm_bipush (v := 61) d_X11_talk_59 rfl (jm_okI (by decide) (by decide)) ?_
    refine jm_iconst (v := 2) d_X11_talk_61 rfl (jm_okI (by decide) (by decide)) ?_
    refine jm_iloadn d_X11_talk_62 rfl ?_
    refine jm_imul d_X11_talk_63 ?_
    refine jm_iadd d_X11_talk_64 ?_
    refine jm_aloadn d_X11_talk_65 rfl ?_
    refine jm_getF (k := 23) (ki := 23) rfl cf_X11 (Nat.le_of_ble_eq_true rfl) f_X11_42 d_X11_talk_66 rfl rfl is_133 fr_133_23 ?_
    refine jm_iloadn d_X11_talk_69 rfl ?_
    obtain ⟨f3, h⟩ := h
    refine jm_iaload d_X11_talk_70 (ixl_144 f3.1 f3.2) ?_
    obtain ⟨f4, h⟩ := h
    refine jm_iastore d_X11_talk_71 (ixl_135 f4.1 f4.2) ?_
    have h := h _ rfl
    refine jm_aloadn d_X11_talk_72 rfl ?_
    refine jm_getF (k := 14) (ki := 14) rfl cf_X11 (Nat.le_of_ble_eq_true rfl) f_X11_13 d_X11_talk_73 rfl rfl is_133 fr_133_14 ?_
    refine jm_bipush (v := 61) d_X11_talk_76 rfl (jm_okI (by decide) (by decide)) ?_
    refine jm_iconst (v := 2) d_X11_talk_78 rfl (jm_okI (by decide) (by decide)) ?_
    refine jm_iloadn d_X11_talk_79 rfl ?_
    refine jm_imul d_X11_talk_80 ?_
    refine jm_iadd d_X11_talk_81 ?_
    refine jm_iconst (v := 1) d_X11_talk_82 rfl (jm_okI (by decide) (by decide)) ?_
    refine jm_iadd d_X11_talk_83 ?_
    refine jm_aloadn d_X11_talk_84 rfl ?_
    refine jm_getF (k := 24) (ki := 24) rfl cf_X11 (Nat.le_of_ble_eq_true rfl) f_X11_45 d_X11_talk_85 rfl rfl is_133 fr_133_24 ?_
    refine jm_iloadn d_X11_talk_88 rfl ?_
    refine jm_iaload d_X11_talk_89 (ixl_145 f3.1 f3.2) ?_
    obtain ⟨f6, h⟩ := h
    refine jm_iastore d_X11_talk_90 (ixl_135 f6.1 f6.2) ?_
    have h := h _ rfl
    refine jm_iinc (L' := [some (jm_R _), some (jm_I _)]) d_X11_talk_91 rfl rfl (Nat.le_of_ble_eq_true rfl) rfl ?_
    refine jm_goto (tgt := 45) d_X11_talk_94 (by decide) ?_
    exact h
/-! ('CombTableModel', 'why', '()I') -/
theorem d_X11_why_0 : decode m_X11_why.2.1 0 = .ok (.aload_n 0, 1) := by decide +kernel
theorem d_X11_why_1 : decode m_X11_why.2.1 1 = .ok (.iconst 0, 1) := by decide +kernel
theorem d_X11_why_2 : decode m_X11_why.2.1 2 = .ok (.putfield 106, 3) := by decide +kernel
theorem d_X11_why_5 : decode m_X11_why.2.1 5 = .ok (.aload_n 0, 1) := by decide +kernel
theorem d_X11_why_6 : decode m_X11_why.2.1 6 = .ok (.getfield 283, 3) := by decide +kernel
theorem d_X11_why_9 : decode m_X11_why.2.1 9 = .ok (.ireturn, 1) := by decide +kernel
set_option maxRecDepth 20000 in
theorem e_X11_why {E : jm_E} {d : Nat} {μ : jm_M} {Q : Option jm_V → jm_M → Prop}  (h : (∀ v ∈ ([jm_R 133] : List jm_V), jm_ok v) →
  Q (some (jm_I (μ 133 31))) (jm_up μ 133 0 0)) : jc E m_X11_why (d + 1) [jm_R 133] μ Q := by
  refine jm_Cl.of2 (by decide +kernel) (L0 := [some (jm_R 133)]) rfl (Nat.le_of_ble_eq_true rfl) (fun hok => ?_)
  have h := h hok
  refine jm_aloadn d_X11_why_0 rfl ?_
  refine jm_iconst (v := 0) d_X11_why_1 rfl (jm_okI (by decide) (by decide)) ?_
  refine jm_putI (k := 0) (ki := 0) cf_X11 (Nat.le_of_ble_eq_true rfl) f_X11_106 d_X11_why_2 (fun z => absurd z (by decide)) rfl rfl rfl (fun _ => rfl) is_133 ?_
  refine jm_aloadn d_X11_why_5 rfl ?_
  refine jm_getI (k := 31) (ki := 31) cf_X11 (Nat.le_of_ble_eq_true rfl) f_X11_283 d_X11_why_6 rfl rfl is_133 ((jm_up_i (by decide)).trans rfl) ?_
  exact jm_ret (o := some (jm_I _)) d_X11_why_9 rfl ⟨Nat.le_refl _, Nat.le_refl _⟩ jm_r_I h rfl
/-! ('CombTableModel', 'isPromise', '(I)Z') -/
theorem d_X11_isPromise_0 : decode m_X11_isPromise.2.1 0 = .ok (.aload_n 0, 1) := by decide +kernel
theorem d_X11_isPromise_1 : decode m_X11_isPromise.2.1 1 = .ok (.iconst 0, 1) := by decide +kernel
theorem d_X11_isPromise_2 : decode m_X11_isPromise.2.1 2 = .ok (.aload_n 0, 1) := by decide +kernel
theorem d_X11_isPromise_3 : decode m_X11_isPromise.2.1 3 = .ok (.getfield 45, 3) := by decide +kernel
theorem d_X11_isPromise_6 : decode m_X11_isPromise.2.1 6 = .ok (.iload_n 1, 1) := by decide +kernel
theorem d_X11_isPromise_7 : decode m_X11_isPromise.2.1 7 = .ok (.iaload, 1) := by decide +kernel
theorem d_X11_isPromise_8 : decode m_X11_isPromise.2.1 8 = .ok (.iconst 1, 1) := by decide +kernel
theorem d_X11_isPromise_9 : decode m_X11_isPromise.2.1 9 = .ok (.invokevirtual 251, 3) := by decide +kernel
theorem d_X11_isPromise_12 : decode m_X11_isPromise.2.1 12 = .ok (.iconst 2, 1) := by decide +kernel
theorem d_X11_isPromise_13 : decode m_X11_isPromise.2.1 13 = .ok (.if_icmp .ne 7, 3) := by decide +kernel
theorem d_X11_isPromise_16 : decode m_X11_isPromise.2.1 16 = .ok (.iconst 1, 1) := by decide +kernel
theorem d_X11_isPromise_17 : decode m_X11_isPromise.2.1 17 = .ok (.goto 4, 3) := by decide +kernel
theorem d_X11_isPromise_20 : decode m_X11_isPromise.2.1 20 = .ok (.iconst 0, 1) := by decide +kernel
theorem d_X11_isPromise_21 : decode m_X11_isPromise.2.1 21 = .ok (.ireturn, 1) := by decide +kernel
set_option maxRecDepth 20000 in
theorem e_X11_isPromise {E : jm_E} {d : Nat} {μ : jm_M} {Q : Option jm_V → jm_M → Prop} {v1 : Int} (h : (∀ v ∈ ([jm_R 133, jm_I v1] : List jm_V), jm_ok v) →
  (0 ≤ v1 ∧ v1 < 800) ∧
  jc E m_X11_ofKind d [jm_R 133, jm_I 0, jm_I (μ 145 v1), jm_I 1] μ (fun (o : Option jm_V) (m2 : jm_M) => ∀ r3 : Int, o = some (jm_I r3) →
  ((r3 ≠ 2 →
    Q (some (jm_I 0)) m2) ∧
   (¬ (r3 ≠ 2) →
    Q (some (jm_I 1)) m2)))) : jc E m_X11_isPromise (d + 1) [jm_R 133, jm_I v1] μ Q := by
  refine jm_Cl.of2 (by decide +kernel) (L0 := [some (jm_R 133), some (jm_I v1)]) rfl (Nat.le_of_ble_eq_true rfl) (fun hok => ?_)
  have h := h hok
  refine jm_aloadn d_X11_isPromise_0 rfl ?_
  refine jm_iconst (v := 0) d_X11_isPromise_1 rfl (jm_okI (by decide) (by decide)) ?_
  refine jm_aloadn d_X11_isPromise_2 rfl ?_
  refine jm_getF (k := 24) (ki := 24) rfl cf_X11 (Nat.le_of_ble_eq_true rfl) f_X11_45 d_X11_isPromise_3 rfl rfl is_133 fr_133_24 ?_
  refine jm_iloadn d_X11_isPromise_6 rfl ?_
  obtain ⟨f1, h⟩ := h
  refine jm_iaload d_X11_isPromise_7 (ixl_145 f1.1 f1.2) ?_
  refine jm_iconst (v := 1) d_X11_isPromise_8 rfl (jm_okI (by decide) (by decide)) ?_
  refine jm_invV (n1 := jm_N) (mc := 0) (ms := 0) (av := [jm_I _, jm_I _, jm_I _]) w_X11_ofKind l_X11_251 d_X11_isPromise_9 rfl is_133 ⟨_, _, rfl⟩ ⟨Nat.le_refl _, Nat.le_refl _⟩ (Nat.le_of_ble_eq_true rfl) rfl ?_
  refine jm_Cl.mono h (fun o m2 h hr _ => ?_)
  obtain ⟨r3, rfl⟩ := jm_rokI hr
  have h := h _ rfl
  refine jm_iconst (v := 2) d_X11_isPromise_12 rfl (jm_okI (by decide) (by decide)) ?_
  refine jm_icmp_ne (tgt := 20) d_X11_isPromise_13 (by decide) (fun c4 => ?_) (fun c4 => ?_)
  · have h := h.1 c4
    refine jm_iconst (v := 0) d_X11_isPromise_20 rfl (jm_okI (by decide) (by decide)) ?_
    exact jm_ret (o := some (jm_I _)) d_X11_isPromise_21 rfl ⟨Nat.le_refl _, Nat.le_refl _⟩ (jm_r_Z (by decide)) h rfl
  · have h := h.2 c4
    refine jm_iconst (v := 1) d_X11_isPromise_16 rfl (jm_okI (by decide) (by decide)) ?_
    refine jm_goto (tgt := 21) d_X11_isPromise_17 (by decide) ?_
    exact jm_ret (o := some (jm_I _)) d_X11_isPromise_21 rfl ⟨Nat.le_refl _, Nat.le_refl _⟩ (jm_r_Z (by decide)) h rfl
