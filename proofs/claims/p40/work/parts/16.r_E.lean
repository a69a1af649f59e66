-- X3_init: by hand (objinit)
-- X9_init: by hand (objinit)
/-! ('CombTable$Wholes', 'all', '(LCombTable$Minutes;LCombTable$Talk;I)I') -/
theorem d_X9_all_0 : decode m_X9_all.2.1 0 = .ok (.aload_n 0, 1) := by decide +kernel
theorem d_X9_all_1 : decode m_X9_all.2.1 1 = .ok (.iconst 1, 1) := by decide +kernel
theorem d_X9_all_2 : decode m_X9_all.2.1 2 = .ok (.invokevirtual 29, 3) := by decide +kernel
theorem d_X9_all_5 : decode m_X9_all.2.1 5 = .ok (.iconst 0, 1) := by decide +kernel
theorem d_X9_all_6 : decode m_X9_all.2.1 6 = .ok (.istore 4, 2) := by decide +kernel
theorem d_X9_all_8 : decode m_X9_all.2.1 8 = .ok (.iload 4, 2) := by decide +kernel
theorem d_X9_all_10 : decode m_X9_all.2.1 10 = .ok (.bipush 24, 2) := by decide +kernel
theorem d_X9_all_12 : decode m_X9_all.2.1 12 = .ok (.if_icmp .ge 33, 3) := by decide +kernel
theorem d_X9_all_15 : decode m_X9_all.2.1 15 = .ok (.aload_n 0, 1) := by decide +kernel
theorem d_X9_all_16 : decode m_X9_all.2.1 16 = .ok (.getfield 20, 3) := by decide +kernel
theorem d_X9_all_19 : decode m_X9_all.2.1 19 = .ok (.iload 4, 2) := by decide +kernel
theorem d_X9_all_21 : decode m_X9_all.2.1 21 = .ok (.iconst 0, 1) := by decide +kernel
theorem d_X9_all_22 : decode m_X9_all.2.1 22 = .ok (.iastore, 1) := by decide +kernel
theorem d_X9_all_23 : decode m_X9_all.2.1 23 = .ok (.aload_n 0, 1) := by decide +kernel
theorem d_X9_all_24 : decode m_X9_all.2.1 24 = .ok (.getfield 23, 3) := by decide +kernel
theorem d_X9_all_27 : decode m_X9_all.2.1 27 = .ok (.iload 4, 2) := by decide +kernel
theorem d_X9_all_29 : decode m_X9_all.2.1 29 = .ok (.iconst 0, 1) := by decide +kernel
theorem d_X9_all_30 : decode m_X9_all.2.1 30 = .ok (.iastore, 1) := by decide +kernel
theorem d_X9_all_31 : decode m_X9_all.2.1 31 = .ok (.aload_n 0, 1) := by decide +kernel
theorem d_X9_all_32 : decode m_X9_all.2.1 32 = .ok (.getfield 26, 3) := by decide +kernel
theorem d_X9_all_35 : decode m_X9_all.2.1 35 = .ok (.iload 4, 2) := by decide +kernel
theorem d_X9_all_37 : decode m_X9_all.2.1 37 = .ok (.iconst 0, 1) := by decide +kernel
theorem d_X9_all_38 : decode m_X9_all.2.1 38 = .ok (.iastore, 1) := by decide +kernel
theorem d_X9_all_39 : decode m_X9_all.2.1 39 = .ok (.iinc 4 1, 3) := by decide +kernel
theorem d_X9_all_42 : decode m_X9_all.2.1 42 = .ok (.goto (-34), 3) := by decide +kernel
theorem d_X9_all_45 : decode m_X9_all.2.1 45 = .ok (.iload_n 3, 1) := by decide +kernel
theorem d_X9_all_46 : decode m_X9_all.2.1 46 = .ok (.ifCond .ne 7, 3) := by decide +kernel
theorem d_X9_all_49 : decode m_X9_all.2.1 49 = .ok (.iconst 1, 1) := by decide +kernel
theorem d_X9_all_50 : decode m_X9_all.2.1 50 = .ok (.goto 21, 3) := by decide +kernel
theorem d_X9_all_53 : decode m_X9_all.2.1 53 = .ok (.iload_n 3, 1) := by decide +kernel
theorem d_X9_all_54 : decode m_X9_all.2.1 54 = .ok (.iconst 1, 1) := by decide +kernel
theorem d_X9_all_55 : decode m_X9_all.2.1 55 = .ok (.if_icmp .ne 10, 3) := by decide +kernel
theorem d_X9_all_58 : decode m_X9_all.2.1 58 = .ok (.aload_n 1, 1) := by decide +kernel
theorem d_X9_all_59 : decode m_X9_all.2.1 59 = .ok (.getfield 33, 3) := by decide +kernel
theorem d_X9_all_62 : decode m_X9_all.2.1 62 = .ok (.goto 9, 3) := by decide +kernel
theorem d_X9_all_65 : decode m_X9_all.2.1 65 = .ok (.aload_n 1, 1) := by decide +kernel
theorem d_X9_all_66 : decode m_X9_all.2.1 66 = .ok (.getfield 33, 3) := by decide +kernel
theorem d_X9_all_69 : decode m_X9_all.2.1 69 = .ok (.iconst 1, 1) := by decide +kernel
theorem d_X9_all_70 : decode m_X9_all.2.1 70 = .ok (.isub, 1) := by decide +kernel
theorem d_X9_all_71 : decode m_X9_all.2.1 71 = .ok (.istore 4, 2) := by decide +kernel
theorem d_X9_all_73 : decode m_X9_all.2.1 73 = .ok (.iconst 0, 1) := by decide +kernel
theorem d_X9_all_74 : decode m_X9_all.2.1 74 = .ok (.istore 5, 2) := by decide +kernel
theorem d_X9_all_76 : decode m_X9_all.2.1 76 = .ok (.iload 5, 2) := by decide +kernel
theorem d_X9_all_78 : decode m_X9_all.2.1 78 = .ok (.iload 4, 2) := by decide +kernel
theorem d_X9_all_80 : decode m_X9_all.2.1 80 = .ok (.if_icmp .ge 42, 3) := by decide +kernel
theorem d_X9_all_83 : decode m_X9_all.2.1 83 = .ok (.aload_n 0, 1) := by decide +kernel
theorem d_X9_all_84 : decode m_X9_all.2.1 84 = .ok (.aload_n 1, 1) := by decide +kernel
theorem d_X9_all_85 : decode m_X9_all.2.1 85 = .ok (.iload_n 3, 1) := by decide +kernel
theorem d_X9_all_86 : decode m_X9_all.2.1 86 = .ok (.iconst 1, 1) := by decide +kernel
theorem d_X9_all_87 : decode m_X9_all.2.1 87 = .ok (.if_icmp .ne 8, 3) := by decide +kernel
theorem d_X9_all_90 : decode m_X9_all.2.1 90 = .ok (.iload 5, 2) := by decide +kernel
theorem d_X9_all_92 : decode m_X9_all.2.1 92 = .ok (.goto 4, 3) := by decide +kernel
theorem d_X9_all_95 : decode m_X9_all.2.1 95 = .ok (.iconst (-1), 1) := by decide +kernel
theorem d_X9_all_96 : decode m_X9_all.2.1 96 = .ok (.invokevirtual 37, 3) := by decide +kernel
theorem d_X9_all_99 : decode m_X9_all.2.1 99 = .ok (.iload_n 3, 1) := by decide +kernel
theorem d_X9_all_100 : decode m_X9_all.2.1 100 = .ok (.iconst 2, 1) := by decide +kernel
theorem d_X9_all_101 : decode m_X9_all.2.1 101 = .ok (.if_icmp .ne 9, 3) := by decide +kernel
theorem d_X9_all_104 : decode m_X9_all.2.1 104 = .ok (.aload_n 0, 1) := by decide +kernel
theorem d_X9_all_105 : decode m_X9_all.2.1 105 = .ok (.iload 5, 2) := by decide +kernel
theorem d_X9_all_107 : decode m_X9_all.2.1 107 = .ok (.invokevirtual 41, 3) := by decide +kernel
theorem d_X9_all_110 : decode m_X9_all.2.1 110 = .ok (.aload_n 0, 1) := by decide +kernel
theorem d_X9_all_111 : decode m_X9_all.2.1 111 = .ok (.aload_n 2, 1) := by decide +kernel
theorem d_X9_all_112 : decode m_X9_all.2.1 112 = .ok (.iconst 0, 1) := by decide +kernel
theorem d_X9_all_113 : decode m_X9_all.2.1 113 = .ok (.invokevirtual 45, 3) := by decide +kernel
theorem d_X9_all_116 : decode m_X9_all.2.1 116 = .ok (.iinc 5 1, 3) := by decide +kernel
theorem d_X9_all_119 : decode m_X9_all.2.1 119 = .ok (.goto (-43), 3) := by decide +kernel
theorem d_X9_all_122 : decode m_X9_all.2.1 122 = .ok (.aload_n 0, 1) := by decide +kernel
theorem d_X9_all_123 : decode m_X9_all.2.1 123 = .ok (.aload_n 0, 1) := by decide +kernel
theorem d_X9_all_124 : decode m_X9_all.2.1 124 = .ok (.getfield 49, 3) := by decide +kernel
theorem d_X9_all_127 : decode m_X9_all.2.1 127 = .ok (.ifCond .le 10, 3) := by decide +kernel
theorem d_X9_all_130 : decode m_X9_all.2.1 130 = .ok (.aload_n 0, 1) := by decide +kernel
theorem d_X9_all_131 : decode m_X9_all.2.1 131 = .ok (.getfield 52, 3) := by decide +kernel
theorem d_X9_all_134 : decode m_X9_all.2.1 134 = .ok (.goto 4, 3) := by decide +kernel
theorem d_X9_all_137 : decode m_X9_all.2.1 137 = .ok (.iconst 0, 1) := by decide +kernel
theorem d_X9_all_138 : decode m_X9_all.2.1 138 = .ok (.putfield 53, 3) := by decide +kernel
theorem d_X9_all_141 : decode m_X9_all.2.1 141 = .ok (.aload_n 0, 1) := by decide +kernel
theorem d_X9_all_142 : decode m_X9_all.2.1 142 = .ok (.getfield 49, 3) := by decide +kernel
theorem d_X9_all_145 : decode m_X9_all.2.1 145 = .ok (.ireturn, 1) := by decide +kernel
set_option maxRecDepth 20000 in
theorem e_X9_all {E : jm_E} {d : Nat} {μ : jm_M} {Q : Option jm_V → jm_M → Prop} {v1 v2 v3 : Int} (h : (∀ v ∈ ([jm_R 124, jm_R v1, jm_R v2, jm_I v3] : List jm_V), jm_ok v) →
  jc E m_X9_start d [jm_R 124, jm_I 1] μ (fun (o : Option jm_V) (m1 : jm_M) => o = none →
  jg E m_X9_all d 8 [some (jm_R 124), some (jm_R v1), some (jm_R v2), some (jm_I v3), some (jm_I 0), none] [] m1 Q)) : jc E m_X9_all (d + 1) [jm_R 124, jm_R v1, jm_R v2, jm_I v3] μ Q := by
  refine jm_Cl.of2 (by decide +kernel) (L0 := [some (jm_R 124), some (jm_R v1), some (jm_R v2), some (jm_I v3), none, none]) rfl (Nat.le_of_ble_eq_true rfl) (fun hok => ?_)
  have h := h hok
  refine jm_aloadn d_X9_all_0 rfl ?_
  refine jm_iconst (v := 1) d_X9_all_1 rfl (jm_okI (by decide) (by decide)) ?_
  refine jm_invV (n1 := jm_N) (mc := 0) (ms := 0) (av := [jm_I _]) w_X9_start l_X9_29 d_X9_all_2 rfl is_124 ⟨_, _, rfl⟩ ⟨Nat.le_refl _, Nat.le_refl _⟩ (Nat.le_of_ble_eq_true rfl) rfl ?_
  refine jm_Cl.mono h (fun o m1 h hr _ => ?_)
  obtain rfl := jm_rokV hr
  have h := h rfl
  refine jm_iconst (v := 0) d_X9_all_5 rfl (jm_okI (by decide) (by decide)) ?_
  refine jm_istore (L' := [some (jm_R _), some (jm_R _), some (jm_R _), some (jm_I _), some (jm_I _), none]) d_X9_all_6 (Nat.le_of_ble_eq_true rfl) rfl ?_
  exact h
set_option maxRecDepth 20000 in
theorem r_X9_all_8 {E : jm_E} {d : Nat} {μ : jm_M} {Q : Option jm_V → jm_M → Prop} {v1 v2 v3 v4 : Int} (h :
  ((24 ≤ v4 →
    ((v3 ≠ 0 →
      ((v3 ≠ 1 →
        (jm_is jm_N v1 1 1) ∧
        ∀ x5 : Int, x5 = jm_wr ((μ v1 0) - 1) →
        jg E m_X9_all d 76 [some (jm_R 124), some (jm_R v1), some (jm_R v2), some (jm_I v3), some (jm_I x5), some (jm_I 0)] [] μ Q) ∧
       (¬ (v3 ≠ 1) →
        (jm_is jm_N v1 1 1) ∧
        jg E m_X9_all d 76 [some (jm_R 124), some (jm_R v1), some (jm_R v2), some (jm_I v3), some (jm_I (μ v1 0)), some (jm_I 0)] [] μ Q))) ∧
     (¬ (v3 ≠ 0) →
      jg E m_X9_all d 76 [some (jm_R 124), some (jm_R v1), some (jm_R v2), some (jm_I v3), some (jm_I 1), some (jm_I 0)] [] μ Q))) ∧
   (¬ (24 ≤ v4) →
    (0 ≤ v4 ∧ v4 < 24) ∧
    ∀ m8 : jm_M, m8 = (jm_up μ 127 v4 0) →
    ∀ m9 : jm_M, m9 = (jm_up m8 128 v4 0) →
    ∀ m10 : jm_M, m10 = (jm_up m9 129 v4 0) →
    jg E m_X9_all d 8 [some (jm_R 124), some (jm_R v1), some (jm_R v2), some (jm_I v3), some (jm_I (jm_wr (v4 + 1))), none] [] m10 Q))) : jg E m_X9_all d 8 [some (jm_R 124), some (jm_R v1), some (jm_R v2), some (jm_I v3), some (jm_I v4), none] [] μ Q := by
  refine jm_iload d_X9_all_8 rfl ?_
  refine jm_bipush (v := 24) d_X9_all_10 rfl (jm_okI (by decide) (by decide)) ?_
  refine jm_icmp_ge (tgt := 45) d_X9_all_12 (by decide) (fun c1 => ?_) (fun c1 => ?_)
  · have h := h.1 c1
    refine jm_iloadn d_X9_all_45 rfl ?_
    refine jm_if_ne (tgt := 53) d_X9_all_46 (by decide) (fun c2 => ?_) (fun c2 => ?_)
    · have h := h.1 c2
      refine jm_iloadn d_X9_all_53 rfl ?_
      refine jm_iconst (v := 1) d_X9_all_54 rfl (jm_okI (by decide) (by decide)) ?_
      refine jm_icmp_ne (tgt := 65) d_X9_all_55 (by decide) (fun c3 => ?_) (fun c3 => ?_)
      · have h := h.1 c3
        refine jm_aloadn d_X9_all_65 rfl ?_
        obtain ⟨f4, h⟩ := h
        refine jm_getI (k := 0) (ki := 0) cf_X1 (Nat.le_of_ble_eq_true rfl) f_X9_33 d_X9_all_66 rfl rfl f4 rfl ?_
        refine jm_iconst (v := 1) d_X9_all_69 rfl (jm_okI (by decide) (by decide)) ?_
        refine jm_isub d_X9_all_70 ?_
        have h := h _ rfl
        refine jm_istore (L' := [some (jm_R _), some (jm_R _), some (jm_R _), some (jm_I _), some (jm_I _), none]) d_X9_all_71 (Nat.le_of_ble_eq_true rfl) rfl ?_
        refine jm_iconst (v := 0) d_X9_all_73 rfl (jm_okI (by decide) (by decide)) ?_
        refine jm_istore (L' := [some (jm_R _), some (jm_R _), some (jm_R _), some (jm_I _), some (jm_I _), some (jm_I _)]) d_X9_all_74 (Nat.le_of_ble_eq_true rfl) rfl ?_
        exact h
      · have h := h.2 c3
        refine jm_aloadn d_X9_all_58 rfl ?_
        obtain ⟨f6, h⟩ := h
        refine jm_getI (k := 0) (ki := 0) cf_X1 (Nat.le_of_ble_eq_true rfl) f_X9_33 d_X9_all_59 rfl rfl f6 rfl ?_
        refine jm_goto (tgt := 71) d_X9_all_62 (by decide) ?_
        refine jm_istore (L' := [some (jm_R _), some (jm_R _), some (jm_R _), some (jm_I _), some (jm_I _), none]) d_X9_all_71 (Nat.le_of_ble_eq_true rfl) rfl ?_
        refine jm_iconst (v := 0) d_X9_all_73 rfl (jm_okI (by decide) (by decide)) ?_
        refine jm_istore (L' := [some (jm_R _), some (jm_R _), some (jm_R _), some (jm_I _), some (jm_I _), some (jm_I _)]) d_X9_all_74 (Nat.le_of_ble_eq_true rfl) rfl ?_
        exact h
    · have h := h.2 c2
      refine jm_iconst (v := 1) d_X9_all_49 rfl (jm_okI (by decide) (by decide)) ?_
      refine jm_goto (tgt := 71) d_X9_all_50 (by decide) ?_
      refine jm_istore (L' := [some (jm_R _), some (jm_R _), some (jm_R _), some (jm_I _), some (jm_I _), none]) d_X9_all_71 (Nat.le_of_ble_eq_true rfl) rfl ?_
      refine jm_iconst (v := 0) d_X9_all_73 rfl (jm_okI (by decide) (by decide)) ?_
      refine jm_istore (L' := [some (jm_R _), some (jm_R _), some (jm_R _), some (jm_I _), some (jm_I _), some (jm_I _)]) d_X9_all_74 (Nat.le_of_ble_eq_true rfl) rfl ?_
      exact h
  · have h := h.2 c1
    refine jm_aloadn d_X9_all_15 rfl ?_
    refine jm_getF (k := 7) (ki := 7) rfl cf_X9 (Nat.le_of_ble_eq_true rfl) f_X9_20 d_X9_all_16 rfl rfl is_124 fr_124_7 ?_
    refine jm_iload d_X9_all_19 rfl ?_
    refine jm_iconst (v := 0) d_X9_all_21 rfl (jm_okI (by decide) (by decide)) ?_
    obtain ⟨f7, h⟩ := h
    refine jm_iastore d_X9_all_22 (ixl_127 f7.1 f7.2) ?_
    have h := h _ rfl
    refine jm_aloadn d_X9_all_23 rfl ?_
    refine jm_getF (k := 8) (ki := 8) rfl cf_X9 (Nat.le_of_ble_eq_true rfl) f_X9_23 d_X9_all_24 rfl rfl is_124 fr_124_8 ?_
    refine jm_iload d_X9_all_27 rfl ?_
    refine jm_iconst (v := 0) d_X9_all_29 rfl (jm_okI (by decide) (by decide)) ?_
    refine jm_iastore d_X9_all_30 (ixl_128 f7.1 f7.2) ?_
    have h := h _ rfl
    refine jm_aloadn d_X9_all_31 rfl ?_
    refine jm_getF (k := 9) (ki := 9) rfl cf_X9 (Nat.le_of_ble_eq_true rfl) f_X9_26 d_X9_all_32 rfl rfl is_124 fr_124_9 ?_
    refine jm_iload d_X9_all_35 rfl ?_
    refine jm_iconst (v := 0) d_X9_all_37 rfl (jm_okI (by decide) (by decide)) ?_
    refine jm_iastore d_X9_all_38 (ixl_129 f7.1 f7.2) ?_
    have h := h _ rfl
    refine jm_iinc (L' := [some (jm_R _), some (jm_R _), some (jm_R _), some (jm_I _), some (jm_I _), none]) d_X9_all_39 rfl rfl (Nat.le_of_ble_eq_true rfl) rfl ?_
    refine jm_goto (tgt := 8) d_X9_all_42 (by decide) ?_
    exact h
set_option maxRecDepth 20000 in
theorem r_X9_all_76 {E : jm_E} {d : Nat} {μ : jm_M} {Q : Option jm_V → jm_M → Prop} {v1 v2 v3 v4 v5 : Int} (h :
  ((v4 ≤ v5 →
    ((μ 124 3 ≤ 0 →
      Q (some (jm_I (μ 124 3))) (jm_up μ 124 6 0)) ∧
     (¬ (μ 124 3 ≤ 0) →
      Q (some (jm_I (μ 124 3))) (jm_up μ 124 6 (μ 124 0))))) ∧
   (¬ (v4 ≤ v5) →
    ((v3 ≠ 1 →
      jc E m_X9_take d [jm_R 124, jm_R v1, jm_I ((-1))] μ (fun (o : Option jm_V) (m4 : jm_M) => o = none →
      ((v3 ≠ 2 →
        jc E m_X9_fill d [jm_R 124, jm_R v2, jm_I 0] m4 (fun (o : Option jm_V) (m6 : jm_M) => o = none →
        jg E m_X9_all d 76 [some (jm_R 124), some (jm_R v1), some (jm_R v2), some (jm_I v3), some (jm_I v4), some (jm_I (jm_wr (v5 + 1)))] [] m6 Q)) ∧
       (¬ (v3 ≠ 2) →
        jc E m_X9_exchange d [jm_R 124, jm_I v5] m4 (fun (o : Option jm_V) (m7 : jm_M) => o = none →
        jc E m_X9_fill d [jm_R 124, jm_R v2, jm_I 0] m7 (fun (o : Option jm_V) (m8 : jm_M) => o = none →
        jg E m_X9_all d 76 [some (jm_R 124), some (jm_R v1), some (jm_R v2), some (jm_I v3), some (jm_I v4), some (jm_I (jm_wr (v5 + 1)))] [] m8 Q)))))) ∧
     (¬ (v3 ≠ 1) →
      jc E m_X9_take d [jm_R 124, jm_R v1, jm_I v5] μ (fun (o : Option jm_V) (m9 : jm_M) => o = none →
      ((v3 ≠ 2 →
        jc E m_X9_fill d [jm_R 124, jm_R v2, jm_I 0] m9 (fun (o : Option jm_V) (m11 : jm_M) => o = none →
        jg E m_X9_all d 76 [some (jm_R 124), some (jm_R v1), some (jm_R v2), some (jm_I v3), some (jm_I v4), some (jm_I (jm_wr (v5 + 1)))] [] m11 Q)) ∧
       (¬ (v3 ≠ 2) →
        jc E m_X9_exchange d [jm_R 124, jm_I v5] m9 (fun (o : Option jm_V) (m12 : jm_M) => o = none →
        jc E m_X9_fill d [jm_R 124, jm_R v2, jm_I 0] m12 (fun (o : Option jm_V) (m13 : jm_M) => o = none →
        jg E m_X9_all d 76 [some (jm_R 124), some (jm_R v1), some (jm_R v2), some (jm_I v3), some (jm_I v4), some (jm_I (jm_wr (v5 + 1)))] [] m13 Q)))))))))) : jg E m_X9_all d 76 [some (jm_R 124), some (jm_R v1), some (jm_R v2), some (jm_I v3), some (jm_I v4), some (jm_I v5)] [] μ Q := by
  refine jm_iload d_X9_all_76 rfl ?_
  refine jm_iload d_X9_all_78 rfl ?_
  refine jm_icmp_ge (tgt := 122) d_X9_all_80 (by decide) (fun c1 => ?_) (fun c1 => ?_)
  · have h := h.1 c1
    refine jm_aloadn d_X9_all_122 rfl ?_
    refine jm_aloadn d_X9_all_123 rfl ?_
    refine jm_getI (k := 3) (ki := 3) cf_X9 (Nat.le_of_ble_eq_true rfl) f_X9_49 d_X9_all_124 rfl rfl is_124 rfl ?_
    refine jm_if_le (tgt := 137) d_X9_all_127 (by decide) (fun c2 => ?_) (fun c2 => ?_)
    · have h := h.1 c2
      refine jm_iconst (v := 0) d_X9_all_137 rfl (jm_okI (by decide) (by decide)) ?_
      refine jm_putI (k := 6) (ki := 6) cf_X9 (Nat.le_of_ble_eq_true rfl) f_X9_53 d_X9_all_138 (fun z => absurd z (by decide)) rfl rfl rfl (fun _ => rfl) is_124 ?_
      refine jm_aloadn d_X9_all_141 rfl ?_
      refine jm_getI (k := 3) (ki := 3) cf_X9 (Nat.le_of_ble_eq_true rfl) f_X9_49 d_X9_all_142 rfl rfl is_124 ((jm_up_i (by decide)).trans rfl) ?_
      exact jm_ret (o := some (jm_I _)) d_X9_all_145 rfl ⟨Nat.le_refl _, Nat.le_refl _⟩ jm_r_I h rfl
    · have h := h.2 c2
      refine jm_aloadn d_X9_all_130 rfl ?_
      refine jm_getI (k := 0) (ki := 0) cf_X9 (Nat.le_of_ble_eq_true rfl) f_X9_52 d_X9_all_131 rfl rfl is_124 rfl ?_
      refine jm_goto (tgt := 138) d_X9_all_134 (by decide) ?_
      refine jm_putI (k := 6) (ki := 6) cf_X9 (Nat.le_of_ble_eq_true rfl) f_X9_53 d_X9_all_138 (fun z => absurd z (by decide)) rfl rfl rfl (fun _ => rfl) is_124 ?_
      refine jm_aloadn d_X9_all_141 rfl ?_
      refine jm_getI (k := 3) (ki := 3) cf_X9 (Nat.le_of_ble_eq_true rfl) f_X9_49 d_X9_all_142 rfl rfl is_124 ((jm_up_i (by decide)).trans rfl) ?_
      exact jm_ret (o := some (jm_I _)) d_X9_all_145 rfl ⟨Nat.le_refl _, Nat.le_refl _⟩ jm_r_I h rfl
  · have h := h.2 c1
    refine jm_aloadn d_X9_all_83 rfl ?_
    refine jm_aloadn d_X9_all_84 rfl ?_
    refine jm_iloadn d_X9_all_85 rfl ?_
    refine jm_iconst (v := 1) d_X9_all_86 rfl (jm_okI (by decide) (by decide)) ?_
    refine jm_icmp_ne (tgt := 95) d_X9_all_87 (by decide) (fun c3 => ?_) (fun c3 => ?_)
    · have h := h.1 c3
      refine jm_iconst (v := (-1)) d_X9_all_95 rfl (jm_okI (by decide) (by decide)) ?_
      refine jm_invV (n1 := jm_N) (mc := 0) (ms := 0) (av := [jm_R _, jm_I _]) w_X9_take l_X9_37 d_X9_all_96 rfl is_124 ⟨_, _, rfl⟩ ⟨Nat.le_refl _, Nat.le_refl _⟩ (Nat.le_of_ble_eq_true rfl) rfl ?_
      refine jm_Cl.mono h (fun o m4 h hr _ => ?_)
      obtain rfl := jm_rokV hr
      have h := h rfl
      refine jm_iloadn d_X9_all_99 rfl ?_
      refine jm_iconst (v := 2) d_X9_all_100 rfl (jm_okI (by decide) (by decide)) ?_
      refine jm_icmp_ne (tgt := 110) d_X9_all_101 (by decide) (fun c5 => ?_) (fun c5 => ?_)
      · have h := h.1 c5
        refine jm_aloadn d_X9_all_110 rfl ?_
        refine jm_aloadn d_X9_all_111 rfl ?_
        refine jm_iconst (v := 0) d_X9_all_112 rfl (jm_okI (by decide) (by decide)) ?_
        refine jm_invV (n1 := jm_N) (mc := 0) (ms := 0) (av := [jm_R _, jm_I _]) w_X9_fill l_X9_45 d_X9_all_113 rfl is_124 ⟨_, _, rfl⟩ ⟨Nat.le_refl _, Nat.le_refl _⟩ (Nat.le_of_ble_eq_true rfl) rfl ?_
        refine jm_Cl.mono h (fun o m6 h hr _ => ?_)
        obtain rfl := jm_rokV hr
        have h := h rfl
        refine jm_iinc (L' := [some (jm_R _), some (jm_R _), some (jm_R _), some (jm_I _), some (jm_I _), some (jm_I _)]) d_X9_all_116 rfl rfl (Nat.le_of_ble_eq_true rfl) rfl ?_
        refine jm_goto (tgt := 76) d_X9_all_119 (by decide) ?_
        exact h
      · have h := h.2 c5
        refine jm_aloadn d_X9_all_104 rfl ?_
        refine jm_iload d_X9_all_105 rfl ?_
        refine jm_invV (n1 := jm_N) (mc := 0) (ms := 0) (av := [jm_I _]) w_X9_exchange l_X9_41 d_X9_all_107 rfl is_124 ⟨_, _, rfl⟩ ⟨Nat.le_refl _, Nat.le_refl _⟩ (Nat.le_of_ble_eq_true rfl) rfl ?_
        refine jm_Cl.mono h (fun o m7 h hr _ => ?_)
        obtain rfl := jm_rokV hr
        have h := h rfl
        refine jm_aloadn d_X9_all_110 rfl ?_
        refine jm_aloadn d_X9_all_111 rfl ?_
        refine jm_iconst (v := 0) d_X9_all_112 rfl (jm_okI (by decide) (by decide)) ?_
        refine jm_invV (n1 := jm_N) (mc := 0) (ms := 0) (av := [jm_R _, jm_I _]) w_X9_fill l_X9_45 d_X9_all_113 rfl is_124 ⟨_, _, rfl⟩ ⟨Nat.le_refl _, Nat.le_refl _⟩ (Nat.le_of_ble_eq_true rfl) rfl ?_
        refine jm_Cl.mono h (fun o m8 h hr _ => ?_)
        obtain rfl := jm_rokV hr
        have h := h rfl
        refine jm_iinc (L' := [some (jm_R _), some (jm_R _), some (jm_R _), some (jm_I _), some (jm_I _), some (jm_I _)]) d_X9_all_116 rfl rfl (Nat.le_of_ble_eq_true rfl) rfl ?_
        refine jm_goto (tgt := 76) d_X9_all_119 (by decide) ?_
        exact h
    · have h := h.2 c3
      refine jm_iload d_X9_all_90 rfl ?_
      refine jm_goto (tgt := 96) d_X9_all_92 (by decide) ?_
      refine jm_invV (n1 := jm_N) (mc := 0) (ms := 0) (av := [jm_R _, jm_I _]) w_X9_take l_X9_37 d_X9_all_96 rfl is_124 ⟨_, _, rfl⟩ ⟨Nat.le_refl _, Nat.le_refl _⟩ (Nat.le_of_ble_eq_true rfl) rfl ?_
      refine jm_Cl.mono h (fun o m9 h hr _ => ?_)
      obtain rfl := jm_rokV hr
      have h := h rfl
      refine jm_iloadn d_X9_all_99 rfl ?_
      refine jm_iconst (v := 2) d_X9_all_100 rfl (jm_okI (by decide) (by decide)) ?_
      refine jm_icmp_ne (tgt := 110) d_X9_all_101 (by decide) (fun c10 => ?_) (fun c10 => ?_)
      · have h := h.1 c10
        refine jm_aloadn d_X9_all_110 rfl ?_
        refine jm_aloadn d_X9_all_111 rfl ?_
        refine jm_iconst (v := 0) d_X9_all_112 rfl (jm_okI (by decide) (by decide)) ?_
        refine jm_invV (n1 := jm_N) (mc := 0) (ms := 0) (av := [jm_R _, jm_I _]) w_X9_fill l_X9_45 d_X9_all_113 rfl is_124 ⟨_, _, rfl⟩ ⟨Nat.le_refl _, Nat.le_refl _⟩ (Nat.le_of_ble_eq_true rfl) rfl ?_
        refine jm_Cl.mono h (fun o m11 h hr _ => ?_)
        obtain rfl := jm_rokV hr
        have h := h rfl
        refine jm_iinc (L' := [some (jm_R _), some (jm_R _), some (jm_R _), some (jm_I _), some (jm_I _), some (jm_I _)]) d_X9_all_116 rfl rfl (Nat.le_of_ble_eq_true rfl) rfl ?_
        refine jm_goto (tgt := 76) d_X9_all_119 (by decide) ?_
        exact h
      · have h := h.2 c10
        refine jm_aloadn d_X9_all_104 rfl ?_
        refine jm_iload d_X9_all_105 rfl ?_
        refine jm_invV (n1 := jm_N) (mc := 0) (ms := 0) (av := [jm_I _]) w_X9_exchange l_X9_41 d_X9_all_107 rfl is_124 ⟨_, _, rfl⟩ ⟨Nat.le_refl _, Nat.le_refl _⟩ (Nat.le_of_ble_eq_true rfl) rfl ?_
        refine jm_Cl.mono h (fun o m12 h hr _ => ?_)
        obtain rfl := jm_rokV hr
        have h := h rfl
        refine jm_aloadn d_X9_all_110 rfl ?_
        refine jm_aloadn d_X9_all_111 rfl ?_
        refine jm_iconst (v := 0) d_X9_all_112 rfl (jm_okI (by decide) (by decide)) ?_
        refine jm_invV (n1 := jm_N) (mc := 0) (ms := 0) (av := [jm_R _, jm_I _]) w_X9_fill l_X9_45 d_X9_all_113 rfl is_124 ⟨_, _, rfl⟩ ⟨Nat.le_refl _, Nat.le_refl _⟩ (Nat.le_of_ble_eq_true rfl) rfl ?_
        refine jm_Cl.mono h (fun o m13 h hr _ => ?_)
        obtain rfl := jm_rokV hr
        have h := h rfl
        refine jm_iinc (L' := [some (jm_R _), some (jm_R _), some (jm_R _), some (jm_I _), some (jm_I _), some (jm_I _)]) d_X9_all_116 rfl rfl (Nat.le_of_ble_eq_true rfl) rfl ?_
        refine jm_goto (tgt := 76) d_X9_all_119 (by decide) ?_
        exact h
/-! ('CombTable$Wholes', 'start', '(Z)V') -/
theorem d_X9_start_0 : decode m_X9_start.2.1 0 = .ok (.aload_n 0, 1) := by decide +kernel
theorem d_X9_start_1 : decode m_X9_start.2.1 1 = .ok (.iload_n 1, 1) := by decide +kernel
theorem d_X9_start_2 : decode m_X9_start.2.1 2 = .ok (.putfield 70, 3) := by decide +kernel
theorem d_X9_start_5 : decode m_X9_start.2.1 5 = .ok (.aload_n 0, 1) := by decide +kernel
theorem d_X9_start_6 : decode m_X9_start.2.1 6 = .ok (.iconst 0, 1) := by decide +kernel
theorem d_X9_start_7 : decode m_X9_start.2.1 7 = .ok (.putfield 52, 3) := by decide +kernel
theorem d_X9_start_10 : decode m_X9_start.2.1 10 = .ok (.aload_n 0, 1) := by decide +kernel
theorem d_X9_start_11 : decode m_X9_start.2.1 11 = .ok (.iconst 0, 1) := by decide +kernel
theorem d_X9_start_12 : decode m_X9_start.2.1 12 = .ok (.putfield 49, 3) := by decide +kernel
theorem d_X9_start_15 : decode m_X9_start.2.1 15 = .ok (.aload_n 0, 1) := by decide +kernel
theorem d_X9_start_16 : decode m_X9_start.2.1 16 = .ok (.ldc 74, 2) := by decide +kernel
theorem d_X9_start_18 : decode m_X9_start.2.1 18 = .ok (.putfield 67, 3) := by decide +kernel
theorem d_X9_start_21 : decode m_X9_start.2.1 21 = .ok (.return_, 1) := by decide +kernel
set_option maxRecDepth 20000 in
theorem e_X9_start {E : jm_E} {d : Nat} {μ : jm_M} {Q : Option jm_V → jm_M → Prop} {v1 : Int} (h : (∀ v ∈ ([jm_R 124, jm_I v1] : List jm_V), jm_ok v) →
  (v1 = 0 ∨ v1 = 1) ∧
  Q none (jm_up (jm_up (jm_up (jm_up μ 124 5 v1) 124 0 0) 124 3 0) 124 4 1000000)) : jc E m_X9_start (d + 1) [jm_R 124, jm_I v1] μ Q := by
  refine jm_Cl.of2 (by decide +kernel) (L0 := [some (jm_R 124), some (jm_I v1)]) rfl (Nat.le_of_ble_eq_true rfl) (fun hok => ?_)
  have h := h hok
  refine jm_aloadn d_X9_start_0 rfl ?_
  refine jm_iloadn d_X9_start_1 rfl ?_
  obtain ⟨f1, h⟩ := h
  refine jm_putZ (k := 5) (ki := 5) cf_X9 (Nat.le_of_ble_eq_true rfl) f_X9_70 d_X9_start_2 (fun z => absurd z (by decide)) rfl rfl rfl f1 (fun _ => rfl) is_124 ?_
  refine jm_aloadn d_X9_start_5 rfl ?_
  refine jm_iconst (v := 0) d_X9_start_6 rfl (jm_okI (by decide) (by decide)) ?_
  refine jm_putI (k := 0) (ki := 0) cf_X9 (Nat.le_of_ble_eq_true rfl) f_X9_52 d_X9_start_7 (fun z => absurd z (by decide)) rfl rfl rfl (fun _ => rfl) is_124 ?_
  refine jm_aloadn d_X9_start_10 rfl ?_
  refine jm_iconst (v := 0) d_X9_start_11 rfl (jm_okI (by decide) (by decide)) ?_
  refine jm_putI (k := 3) (ki := 3) cf_X9 (Nat.le_of_ble_eq_true rfl) f_X9_49 d_X9_start_12 (fun z => absurd z (by decide)) rfl rfl rfl (fun _ => rfl) is_124 ?_
  refine jm_aloadn d_X9_start_15 rfl ?_
  refine jm_ldc (v := 1000000) d_X9_start_16 k_X9_74 (jm_okI (by decide) (by decide)) ?_
  refine jm_putI (k := 4) (ki := 4) cf_X9 (Nat.le_of_ble_eq_true rfl) f_X9_67 d_X9_start_18 (fun z => absurd z (by decide)) rfl rfl rfl (fun _ => rfl) is_124 ?_
  exact jm_ret (o := none) d_X9_start_21 rfl ⟨Nat.le_refl _, Nat.le_refl _⟩ jm_r_V h rfl
/-! ('CombTable$Wholes', 'take', '(LCombTable$Minutes;I)V') -/
theorem d_X9_take_0 : decode m_X9_take.2.1 0 = .ok (.aload_n 0, 1) := by decide +kernel
theorem d_X9_take_1 : decode m_X9_take.2.1 1 = .ok (.iconst 0, 1) := by decide +kernel
theorem d_X9_take_2 : decode m_X9_take.2.1 2 = .ok (.putfield 52, 3) := by decide +kernel
theorem d_X9_take_5 : decode m_X9_take.2.1 5 = .ok (.iconst 0, 1) := by decide +kernel
theorem d_X9_take_6 : decode m_X9_take.2.1 6 = .ok (.istore_n 3, 1) := by decide +kernel
theorem d_X9_take_7 : decode m_X9_take.2.1 7 = .ok (.iload_n 3, 1) := by decide +kernel
theorem d_X9_take_8 : decode m_X9_take.2.1 8 = .ok (.aload_n 1, 1) := by decide +kernel
theorem d_X9_take_9 : decode m_X9_take.2.1 9 = .ok (.getfield 33, 3) := by decide +kernel
theorem d_X9_take_12 : decode m_X9_take.2.1 12 = .ok (.if_icmp .ge 61, 3) := by decide +kernel
theorem d_X9_take_15 : decode m_X9_take.2.1 15 = .ok (.aload_n 0, 1) := by decide +kernel
theorem d_X9_take_16 : decode m_X9_take.2.1 16 = .ok (.getfield 52, 3) := by decide +kernel
theorem d_X9_take_19 : decode m_X9_take.2.1 19 = .ok (.bipush 24, 2) := by decide +kernel
theorem d_X9_take_21 : decode m_X9_take.2.1 21 = .ok (.if_icmp .ge 52, 3) := by decide +kernel
theorem d_X9_take_24 : decode m_X9_take.2.1 24 = .ok (.iload_n 3, 1) := by decide +kernel
theorem d_X9_take_25 : decode m_X9_take.2.1 25 = .ok (.iload_n 2, 1) := by decide +kernel
theorem d_X9_take_26 : decode m_X9_take.2.1 26 = .ok (.if_icmp .eq 41, 3) := by decide +kernel
theorem d_X9_take_29 : decode m_X9_take.2.1 29 = .ok (.aload_n 0, 1) := by decide +kernel
theorem d_X9_take_30 : decode m_X9_take.2.1 30 = .ok (.getfield 11, 3) := by decide +kernel
theorem d_X9_take_33 : decode m_X9_take.2.1 33 = .ok (.aload_n 0, 1) := by decide +kernel
theorem d_X9_take_34 : decode m_X9_take.2.1 34 = .ok (.getfield 52, 3) := by decide +kernel
theorem d_X9_take_37 : decode m_X9_take.2.1 37 = .ok (.aload_n 1, 1) := by decide +kernel
theorem d_X9_take_38 : decode m_X9_take.2.1 38 = .ok (.iload_n 3, 1) := by decide +kernel
theorem d_X9_take_39 : decode m_X9_take.2.1 39 = .ok (.invokevirtual 56, 3) := by decide +kernel
theorem d_X9_take_42 : decode m_X9_take.2.1 42 = .ok (.iastore, 1) := by decide +kernel
theorem d_X9_take_43 : decode m_X9_take.2.1 43 = .ok (.aload_n 0, 1) := by decide +kernel
theorem d_X9_take_44 : decode m_X9_take.2.1 44 = .ok (.getfield 17, 3) := by decide +kernel
theorem d_X9_take_47 : decode m_X9_take.2.1 47 = .ok (.aload_n 0, 1) := by decide +kernel
theorem d_X9_take_48 : decode m_X9_take.2.1 48 = .ok (.getfield 52, 3) := by decide +kernel
theorem d_X9_take_51 : decode m_X9_take.2.1 51 = .ok (.aload_n 1, 1) := by decide +kernel
theorem d_X9_take_52 : decode m_X9_take.2.1 52 = .ok (.iload_n 3, 1) := by decide +kernel
theorem d_X9_take_53 : decode m_X9_take.2.1 53 = .ok (.invokevirtual 60, 3) := by decide +kernel
theorem d_X9_take_56 : decode m_X9_take.2.1 56 = .ok (.iastore, 1) := by decide +kernel
theorem d_X9_take_57 : decode m_X9_take.2.1 57 = .ok (.aload_n 0, 1) := by decide +kernel
theorem d_X9_take_58 : decode m_X9_take.2.1 58 = .ok (.dup, 1) := by decide +kernel
theorem d_X9_take_59 : decode m_X9_take.2.1 59 = .ok (.getfield 52, 3) := by decide +kernel
theorem d_X9_take_62 : decode m_X9_take.2.1 62 = .ok (.iconst 1, 1) := by decide +kernel
theorem d_X9_take_63 : decode m_X9_take.2.1 63 = .ok (.iadd, 1) := by decide +kernel
theorem d_X9_take_64 : decode m_X9_take.2.1 64 = .ok (.putfield 52, 3) := by decide +kernel
theorem d_X9_take_67 : decode m_X9_take.2.1 67 = .ok (.iinc 3 1, 3) := by decide +kernel
theorem d_X9_take_70 : decode m_X9_take.2.1 70 = .ok (.goto (-63), 3) := by decide +kernel
theorem d_X9_take_73 : decode m_X9_take.2.1 73 = .ok (.return_, 1) := by decide +kernel
set_option maxRecDepth 20000 in
theorem e_X9_take {E : jm_E} {d : Nat} {μ : jm_M} {Q : Option jm_V → jm_M → Prop} {v1 v2 : Int} (h : (∀ v ∈ ([jm_R 124, jm_R v1, jm_I v2] : List jm_V), jm_ok v) →
  jg E m_X9_take d 7 [some (jm_R 124), some (jm_R v1), some (jm_I v2), some (jm_I 0)] [] (jm_up μ 124 0 0) Q) : jc E m_X9_take (d + 1) [jm_R 124, jm_R v1, jm_I v2] μ Q := by
  refine jm_Cl.of2 (by decide +kernel) (L0 := [some (jm_R 124), some (jm_R v1), some (jm_I v2), none]) rfl (Nat.le_of_ble_eq_true rfl) (fun hok => ?_)
  have h := h hok
  refine jm_aloadn d_X9_take_0 rfl ?_
  refine jm_iconst (v := 0) d_X9_take_1 rfl (jm_okI (by decide) (by decide)) ?_
  refine jm_putI (k := 0) (ki := 0) cf_X9 (Nat.le_of_ble_eq_true rfl) f_X9_52 d_X9_take_2 (fun z => absurd z (by decide)) rfl rfl rfl (fun _ => rfl) is_124 ?_
  refine jm_iconst (v := 0) d_X9_take_5 rfl (jm_okI (by decide) (by decide)) ?_
  refine jm_istoren (L' := [some (jm_R _), some (jm_R _), some (jm_I _), some (jm_I _)]) d_X9_take_6 (Nat.le_of_ble_eq_true rfl) rfl ?_
  exact h
set_option maxRecDepth 20000 in
theorem r_X9_take_7 {E : jm_E} {d : Nat} {μ : jm_M} {Q : Option jm_V → jm_M → Prop} {v1 v2 v3 : Int} (h :
  (jm_is jm_N v1 1 1) ∧
  ((μ v1 0 ≤ v3 →
    Q none μ) ∧
   (¬ (μ v1 0 ≤ v3) →
    ((24 ≤ μ 124 0 →
      Q none μ) ∧
     (¬ (24 ≤ μ 124 0) →
      ((v3 = v2 →
        jg E m_X9_take d 7 [some (jm_R 124), some (jm_R v1), some (jm_I v2), some (jm_I (jm_wr (v3 + 1)))] [] μ Q) ∧
       (¬ (v3 = v2) →
        jc E m_X1_whoAt d [jm_R v1, jm_I v3] μ (fun (o : Option jm_V) (m5 : jm_M) => ∀ r6 : Int, o = some (jm_I r6) →
        (0 ≤ μ 124 0 ∧ μ 124 0 < 24) ∧
        ∀ m8 : jm_M, m8 = (jm_up m5 125 (μ 124 0) r6) →
        jc E m_X1_kindAt d [jm_R v1, jm_I v3] m8 (fun (o : Option jm_V) (m9 : jm_M) => ∀ r10 : Int, o = some (jm_I r10) →
        (0 ≤ m8 124 0 ∧ m8 124 0 < 24) ∧
        ∀ m12 : jm_M, m12 = (jm_up m9 126 (m8 124 0) r10) →
        jg E m_X9_take d 7 [some (jm_R 124), some (jm_R v1), some (jm_I v2), some (jm_I (jm_wr (v3 + 1)))] [] (jm_up m12 124 0 (jm_wr ((m12 124 0) + 1))) Q))))))))) : jg E m_X9_take d 7 [some (jm_R 124), some (jm_R v1), some (jm_I v2), some (jm_I v3)] [] μ Q := by
  refine jm_iloadn d_X9_take_7 rfl ?_
  refine jm_aloadn d_X9_take_8 rfl ?_
  obtain ⟨f1, h⟩ := h
  refine jm_getI (k := 0) (ki := 0) cf_X1 (Nat.le_of_ble_eq_true rfl) f_X9_33 d_X9_take_9 rfl rfl f1 rfl ?_
  refine jm_icmp_ge (tgt := 73) d_X9_take_12 (by decide) (fun c2 => ?_) (fun c2 => ?_)
  · have h := h.1 c2
    exact jm_ret (o := none) d_X9_take_73 rfl ⟨Nat.le_refl _, Nat.le_refl _⟩ jm_r_V h rfl
  · have h := h.2 c2
    refine jm_aloadn d_X9_take_15 rfl ?_
    refine jm_getI (k := 0) (ki := 0) cf_X9 (Nat.le_of_ble_eq_true rfl) f_X9_52 d_X9_take_16 rfl rfl is_124 rfl ?_
    refine jm_bipush (v := 24) d_X9_take_19 rfl (jm_okI (by decide) (by decide)) ?_
    refine jm_icmp_ge (tgt := 73) d_X9_take_21 (by decide) (fun c3 => ?_) (fun c3 => ?_)
    · have h := h.1 c3
      exact jm_ret (o := none) d_X9_take_73 rfl ⟨Nat.le_refl _, Nat.le_refl _⟩ jm_r_V h rfl
    · have h := h.2 c3
      refine jm_iloadn d_X9_take_24 rfl ?_
      refine jm_iloadn d_X9_take_25 rfl ?_
      refine jm_icmp_eq (tgt := 67) d_X9_take_26 (by decide) (fun c4 => ?_) (fun c4 => ?_)
      · have h := h.1 c4
        refine jm_iinc (L' := [some (jm_R _), some (jm_R _), some (jm_I _), some (jm_I _)]) d_X9_take_67 rfl rfl (Nat.le_of_ble_eq_true rfl) rfl ?_
        refine jm_goto (tgt := 7) d_X9_take_70 (by decide) ?_
        exact h
      · have h := h.2 c4
        refine jm_aloadn d_X9_take_29 rfl ?_
        refine jm_getF (k := 1) (ki := 1) rfl cf_X9 (Nat.le_of_ble_eq_true rfl) f_X9_11 d_X9_take_30 rfl rfl is_124 fr_124_1 ?_
        refine jm_aloadn d_X9_take_33 rfl ?_
        refine jm_getI (k := 0) (ki := 0) cf_X9 (Nat.le_of_ble_eq_true rfl) f_X9_52 d_X9_take_34 rfl rfl is_124 rfl ?_
        refine jm_aloadn d_X9_take_37 rfl ?_
        refine jm_iloadn d_X9_take_38 rfl ?_
        refine jm_invV (n1 := jm_N) (mc := 0) (ms := 0) (av := [jm_I _]) w_X1_whoAt l_X9_56 d_X9_take_39 rfl f1 ⟨_, _, rfl⟩ ⟨Nat.le_refl _, Nat.le_refl _⟩ (Nat.le_of_ble_eq_true rfl) rfl ?_
        refine jm_Cl.mono h (fun o m5 h hr _ => ?_)
        obtain ⟨r6, rfl⟩ := jm_rokI hr
        have h := h _ rfl
        obtain ⟨f7, h⟩ := h
        refine jm_iastore d_X9_take_42 (ixl_125 f7.1 f7.2) ?_
        have h := h _ rfl
        refine jm_aloadn d_X9_take_43 rfl ?_
        refine jm_getF (k := 2) (ki := 2) rfl cf_X9 (Nat.le_of_ble_eq_true rfl) f_X9_17 d_X9_take_44 rfl rfl is_124 fr_124_2 ?_
        refine jm_aloadn d_X9_take_47 rfl ?_
        refine jm_getI (k := 0) (ki := 0) cf_X9 (Nat.le_of_ble_eq_true rfl) f_X9_52 d_X9_take_48 rfl rfl is_124 rfl ?_
        refine jm_aloadn d_X9_take_51 rfl ?_
        refine jm_iloadn d_X9_take_52 rfl ?_
        refine jm_invV (n1 := jm_N) (mc := 0) (ms := 0) (av := [jm_I _]) w_X1_kindAt l_X9_60 d_X9_take_53 rfl f1 ⟨_, _, rfl⟩ ⟨Nat.le_refl _, Nat.le_refl _⟩ (Nat.le_of_ble_eq_true rfl) rfl ?_
        refine jm_Cl.mono h (fun o m9 h hr _ => ?_)
        obtain ⟨r10, rfl⟩ := jm_rokI hr
        have h := h _ rfl
        obtain ⟨f11, h⟩ := h
        refine jm_iastore d_X9_take_56 (ixl_126 f11.1 f11.2) ?_
        have h := h _ rfl
        refine jm_aloadn d_X9_take_57 rfl ?_
        refine jm_dup rfl d_X9_take_58 ?_
        refine jm_getI (k := 0) (ki := 0) cf_X9 (Nat.le_of_ble_eq_true rfl) f_X9_52 d_X9_take_59 rfl rfl is_124 rfl ?_
        refine jm_iconst (v := 1) d_X9_take_62 rfl (jm_okI (by decide) (by decide)) ?_
        refine jm_iadd d_X9_take_63 ?_
        refine jm_putI (k := 0) (ki := 0) cf_X9 (Nat.le_of_ble_eq_true rfl) f_X9_52 d_X9_take_64 (fun z => absurd z (by decide)) rfl rfl rfl (fun _ => rfl) is_124 ?_
        refine jm_iinc (L' := [some (jm_R _), some (jm_R _), some (jm_I _), some (jm_I _)]) d_X9_take_67 rfl rfl (Nat.le_of_ble_eq_true rfl) rfl ?_
        refine jm_goto (tgt := 7) d_X9_take_70 (by decide) ?_
        exact h
/-! ('CombTable$Wholes', 'exchange', '(I)V') -/
theorem d_X9_exchange_0 : decode m_X9_exchange.2.1 0 = .ok (.iload_n 1, 1) := by decide +kernel
theorem d_X9_exchange_1 : decode m_X9_exchange.2.1 1 = .ok (.ifCond .lt 13, 3) := by decide +kernel
theorem d_X9_exchange_4 : decode m_X9_exchange.2.1 4 = .ok (.iload_n 1, 1) := by decide +kernel
theorem d_X9_exchange_5 : decode m_X9_exchange.2.1 5 = .ok (.iconst 1, 1) := by decide +kernel
theorem d_X9_exchange_6 : decode m_X9_exchange.2.1 6 = .ok (.iadd, 1) := by decide +kernel
theorem d_X9_exchange_7 : decode m_X9_exchange.2.1 7 = .ok (.aload_n 0, 1) := by decide +kernel
theorem d_X9_exchange_8 : decode m_X9_exchange.2.1 8 = .ok (.getfield 52, 3) := by decide +kernel
theorem d_X9_exchange_11 : decode m_X9_exchange.2.1 11 = .ok (.if_icmp .lt 4, 3) := by decide +kernel
theorem d_X9_exchange_14 : decode m_X9_exchange.2.1 14 = .ok (.return_, 1) := by decide +kernel
theorem d_X9_exchange_15 : decode m_X9_exchange.2.1 15 = .ok (.aload_n 0, 1) := by decide +kernel
theorem d_X9_exchange_16 : decode m_X9_exchange.2.1 16 = .ok (.getfield 11, 3) := by decide +kernel
theorem d_X9_exchange_19 : decode m_X9_exchange.2.1 19 = .ok (.iload_n 1, 1) := by decide +kernel
theorem d_X9_exchange_20 : decode m_X9_exchange.2.1 20 = .ok (.iaload, 1) := by decide +kernel
theorem d_X9_exchange_21 : decode m_X9_exchange.2.1 21 = .ok (.istore_n 2, 1) := by decide +kernel
theorem d_X9_exchange_22 : decode m_X9_exchange.2.1 22 = .ok (.aload_n 0, 1) := by decide +kernel
theorem d_X9_exchange_23 : decode m_X9_exchange.2.1 23 = .ok (.getfield 17, 3) := by decide +kernel
theorem d_X9_exchange_26 : decode m_X9_exchange.2.1 26 = .ok (.iload_n 1, 1) := by decide +kernel
theorem d_X9_exchange_27 : decode m_X9_exchange.2.1 27 = .ok (.iaload, 1) := by decide +kernel
theorem d_X9_exchange_28 : decode m_X9_exchange.2.1 28 = .ok (.istore_n 3, 1) := by decide +kernel
theorem d_X9_exchange_29 : decode m_X9_exchange.2.1 29 = .ok (.aload_n 0, 1) := by decide +kernel
theorem d_X9_exchange_30 : decode m_X9_exchange.2.1 30 = .ok (.getfield 11, 3) := by decide +kernel
theorem d_X9_exchange_33 : decode m_X9_exchange.2.1 33 = .ok (.iload_n 1, 1) := by decide +kernel
theorem d_X9_exchange_34 : decode m_X9_exchange.2.1 34 = .ok (.aload_n 0, 1) := by decide +kernel
theorem d_X9_exchange_35 : decode m_X9_exchange.2.1 35 = .ok (.getfield 11, 3) := by decide +kernel
theorem d_X9_exchange_38 : decode m_X9_exchange.2.1 38 = .ok (.iload_n 1, 1) := by decide +kernel
theorem d_X9_exchange_39 : decode m_X9_exchange.2.1 39 = .ok (.iconst 1, 1) := by decide +kernel
theorem d_X9_exchange_40 : decode m_X9_exchange.2.1 40 = .ok (.iadd, 1) := by decide +kernel
theorem d_X9_exchange_41 : decode m_X9_exchange.2.1 41 = .ok (.iaload, 1) := by decide +kernel
theorem d_X9_exchange_42 : decode m_X9_exchange.2.1 42 = .ok (.iastore, 1) := by decide +kernel
theorem d_X9_exchange_43 : decode m_X9_exchange.2.1 43 = .ok (.aload_n 0, 1) := by decide +kernel
theorem d_X9_exchange_44 : decode m_X9_exchange.2.1 44 = .ok (.getfield 17, 3) := by decide +kernel
theorem d_X9_exchange_47 : decode m_X9_exchange.2.1 47 = .ok (.iload_n 1, 1) := by decide +kernel
theorem d_X9_exchange_48 : decode m_X9_exchange.2.1 48 = .ok (.aload_n 0, 1) := by decide +kernel
theorem d_X9_exchange_49 : decode m_X9_exchange.2.1 49 = .ok (.getfield 17, 3) := by decide +kernel
theorem d_X9_exchange_52 : decode m_X9_exchange.2.1 52 = .ok (.iload_n 1, 1) := by decide +kernel
theorem d_X9_exchange_53 : decode m_X9_exchange.2.1 53 = .ok (.iconst 1, 1) := by decide +kernel
theorem d_X9_exchange_54 : decode m_X9_exchange.2.1 54 = .ok (.iadd, 1) := by decide +kernel
theorem d_X9_exchange_55 : decode m_X9_exchange.2.1 55 = .ok (.iaload, 1) := by decide +kernel
theorem d_X9_exchange_56 : decode m_X9_exchange.2.1 56 = .ok (.iastore, 1) := by decide +kernel
theorem d_X9_exchange_57 : decode m_X9_exchange.2.1 57 = .ok (.aload_n 0, 1) := by decide +kernel
theorem d_X9_exchange_58 : decode m_X9_exchange.2.1 58 = .ok (.getfield 11, 3) := by decide +kernel
theorem d_X9_exchange_61 : decode m_X9_exchange.2.1 61 = .ok (.iload_n 1, 1) := by decide +kernel
theorem d_X9_exchange_62 : decode m_X9_exchange.2.1 62 = .ok (.iconst 1, 1) := by decide +kernel
theorem d_X9_exchange_63 : decode m_X9_exchange.2.1 63 = .ok (.iadd, 1) := by decide +kernel
theorem d_X9_exchange_64 : decode m_X9_exchange.2.1 64 = .ok (.iload_n 2, 1) := by decide +kernel
theorem d_X9_exchange_65 : decode m_X9_exchange.2.1 65 = .ok (.iastore, 1) := by decide +kernel
theorem d_X9_exchange_66 : decode m_X9_exchange.2.1 66 = .ok (.aload_n 0, 1) := by decide +kernel
theorem d_X9_exchange_67 : decode m_X9_exchange.2.1 67 = .ok (.getfield 17, 3) := by decide +kernel
theorem d_X9_exchange_70 : decode m_X9_exchange.2.1 70 = .ok (.iload_n 1, 1) := by decide +kernel
theorem d_X9_exchange_71 : decode m_X9_exchange.2.1 71 = .ok (.iconst 1, 1) := by decide +kernel
theorem d_X9_exchange_72 : decode m_X9_exchange.2.1 72 = .ok (.iadd, 1) := by decide +kernel
theorem d_X9_exchange_73 : decode m_X9_exchange.2.1 73 = .ok (.iload_n 3, 1) := by decide +kernel
theorem d_X9_exchange_74 : decode m_X9_exchange.2.1 74 = .ok (.iastore, 1) := by decide +kernel
theorem d_X9_exchange_75 : decode m_X9_exchange.2.1 75 = .ok (.return_, 1) := by decide +kernel
set_option maxRecDepth 20000 in
theorem e_X9_exchange {E : jm_E} {d : Nat} {μ : jm_M} {Q : Option jm_V → jm_M → Prop} {v1 : Int} (h : (∀ v ∈ ([jm_R 124, jm_I v1] : List jm_V), jm_ok v) →
  ((v1 < 0 →
    Q none μ) ∧
   (¬ (v1 < 0) →
    (((jm_wr (v1 + 1)) < μ 124 0 →
      (0 ≤ v1 ∧ v1 < 24) ∧
      ∀ x4 : Int, x4 = μ 125 v1 →
      ∀ x5 : Int, x5 = μ 126 v1 →
      (0 ≤ jm_wr (v1 + 1) ∧ jm_wr (v1 + 1) < 24) ∧
      ∀ m7 : jm_M, m7 = (jm_up μ 125 v1 (μ 125 (jm_wr (v1 + 1)))) →
      ∀ m8 : jm_M, m8 = (jm_up m7 126 v1 (m7 126 (jm_wr (v1 + 1)))) →
      ∀ m9 : jm_M, m9 = (jm_up m8 125 (jm_wr (v1 + 1)) x4) →
      ∀ m10 : jm_M, m10 = (jm_up m9 126 (jm_wr (v1 + 1)) x5) →
      Q none m10) ∧
     (¬ ((jm_wr (v1 + 1)) < μ 124 0) →
      Q none μ))))) : jc E m_X9_exchange (d + 1) [jm_R 124, jm_I v1] μ Q := by
  refine jm_Cl.of2 (by decide +kernel) (L0 := [some (jm_R 124), some (jm_I v1), none, none]) rfl (Nat.le_of_ble_eq_true rfl) (fun hok => ?_)
  have h := h hok
  refine jm_iloadn d_X9_exchange_0 rfl ?_
  refine jm_if_lt (tgt := 14) d_X9_exchange_1 (by decide) (fun c1 => ?_) (fun c1 => ?_)
  · have h := h.1 c1
    exact jm_ret (o := none) d_X9_exchange_14 rfl ⟨Nat.le_refl _, Nat.le_refl _⟩ jm_r_V h rfl
  · have h := h.2 c1
    refine jm_iloadn d_X9_exchange_4 rfl ?_
    refine jm_iconst (v := 1) d_X9_exchange_5 rfl (jm_okI (by decide) (by decide)) ?_
    refine jm_iadd d_X9_exchange_6 ?_
    refine jm_aloadn d_X9_exchange_7 rfl ?_
    refine jm_getI (k := 0) (ki := 0) cf_X9 (Nat.le_of_ble_eq_true rfl) f_X9_52 d_X9_exchange_8 rfl rfl is_124 rfl ?_
    refine jm_icmp_lt (tgt := 15) d_X9_exchange_11 (by decide) (fun c2 => ?_) (fun c2 => ?_)
    · have h := h.1 c2
      refine jm_aloadn d_X9_exchange_15 rfl ?_
      refine jm_getF (k := 1) (ki := 1) rfl cf_X9 (Nat.le_of_ble_eq_true rfl) f_X9_11 d_X9_exchange_16 rfl rfl is_124 fr_124_1 ?_
      refine jm_iloadn d_X9_exchange_19 rfl ?_
      obtain ⟨f3, h⟩ := h
      refine jm_iaload d_X9_exchange_20 (ixl_125 f3.1 f3.2) ?_
      have h := h _ rfl
      refine jm_istoren (L' := [some (jm_R _), some (jm_I _), some (jm_I _), none]) d_X9_exchange_21 (Nat.le_of_ble_eq_true rfl) rfl ?_
      refine jm_aloadn d_X9_exchange_22 rfl ?_
      refine jm_getF (k := 2) (ki := 2) rfl cf_X9 (Nat.le_of_ble_eq_true rfl) f_X9_17 d_X9_exchange_23 rfl rfl is_124 fr_124_2 ?_
      refine jm_iloadn d_X9_exchange_26 rfl ?_
      refine jm_iaload d_X9_exchange_27 (ixl_126 f3.1 f3.2) ?_
      have h := h _ rfl
      refine jm_istoren (L' := [some (jm_R _), some (jm_I _), some (jm_I _), some (jm_I _)]) d_X9_exchange_28 (Nat.le_of_ble_eq_true rfl) rfl ?_
      refine jm_aloadn d_X9_exchange_29 rfl ?_
      refine jm_getF (k := 1) (ki := 1) rfl cf_X9 (Nat.le_of_ble_eq_true rfl) f_X9_11 d_X9_exchange_30 rfl rfl is_124 fr_124_1 ?_
      refine jm_iloadn d_X9_exchange_33 rfl ?_
      refine jm_aloadn d_X9_exchange_34 rfl ?_
      refine jm_getF (k := 1) (ki := 1) rfl cf_X9 (Nat.le_of_ble_eq_true rfl) f_X9_11 d_X9_exchange_35 rfl rfl is_124 fr_124_1 ?_
      refine jm_iloadn d_X9_exchange_38 rfl ?_
      refine jm_iconst (v := 1) d_X9_exchange_39 rfl (jm_okI (by decide) (by decide)) ?_
      refine jm_iadd d_X9_exchange_40 ?_
      obtain ⟨f6, h⟩ := h
      refine jm_iaload d_X9_exchange_41 (ixl_125 f6.1 f6.2) ?_
      refine jm_iastore d_X9_exchange_42 (ixl_125 f3.1 f3.2) ?_
      have h := h _ rfl
      refine jm_aloadn d_X9_exchange_43 rfl ?_
      refine jm_getF (k := 2) (ki := 2) rfl cf_X9 (Nat.le_of_ble_eq_true rfl) f_X9_17 d_X9_exchange_44 rfl rfl is_124 fr_124_2 ?_
      refine jm_iloadn d_X9_exchange_47 rfl ?_
      refine jm_aloadn d_X9_exchange_48 rfl ?_
      refine jm_getF (k := 2) (ki := 2) rfl cf_X9 (Nat.le_of_ble_eq_true rfl) f_X9_17 d_X9_exchange_49 rfl rfl is_124 fr_124_2 ?_
      refine jm_iloadn d_X9_exchange_52 rfl ?_
      refine jm_iconst (v := 1) d_X9_exchange_53 rfl (jm_okI (by decide) (by decide)) ?_
      refine jm_iadd d_X9_exchange_54 ?_
      refine jm_iaload d_X9_exchange_55 (ixl_126 f6.1 f6.2) ?_
      refine jm_iastore d_X9_exchange_56 (ixl_126 f3.1 f3.2) ?_
      have h := h _ rfl
      refine jm_aloadn d_X9_exchange_57 rfl ?_
      refine jm_getF (k := 1) (ki := 1) rfl cf_X9 (Nat.le_of_ble_eq_true rfl) f_X9_11 d_X9_exchange_58 rfl rfl is_124 fr_124_1 ?_
      refine jm_iloadn d_X9_exchange_61 rfl ?_
      refine jm_iconst (v := 1) d_X9_exchange_62 rfl (jm_okI (by decide) (by decide)) ?_
      refine jm_iadd d_X9_exchange_63 ?_
      refine jm_iloadn d_X9_exchange_64 rfl ?_
      refine jm_iastore d_X9_exchange_65 (ixl_125 f6.1 f6.2) ?_
      have h := h _ rfl
      refine jm_aloadn d_X9_exchange_66 rfl ?_
      refine jm_getF (k := 2) (ki := 2) rfl cf_X9 (Nat.le_of_ble_eq_true rfl) f_X9_17 d_X9_exchange_67 rfl rfl is_124 fr_124_2 ?_
      refine jm_iloadn d_X9_exchange_70 rfl ?_
      refine jm_iconst (v := 1) d_X9_exchange_71 rfl (jm_okI (by decide) (by decide)) ?_
      refine jm_iadd d_X9_exchange_72 ?_
      refine jm_iloadn d_X9_exchange_73 rfl ?_
      refine jm_iastore d_X9_exchange_74 (ixl_126 f6.1 f6.2) ?_
      have h := h _ rfl
      exact jm_ret (o := none) d_X9_exchange_75 rfl ⟨Nat.le_refl _, Nat.le_refl _⟩ jm_r_V h rfl
    · have h := h.2 c2
      exact jm_ret (o := none) d_X9_exchange_14 rfl ⟨Nat.le_refl _, Nat.le_refl _⟩ jm_r_V h rfl
/-! ('CombTable$Wholes', 'fill', '(LCombTable$Talk;I)V') -/
theorem d_X9_fill_0 : decode m_X9_fill.2.1 0 = .ok (.iload_n 2, 1) := by decide +kernel
theorem d_X9_fill_1 : decode m_X9_fill.2.1 1 = .ok (.aload_n 0, 1) := by decide +kernel
theorem d_X9_fill_2 : decode m_X9_fill.2.1 2 = .ok (.getfield 52, 3) := by decide +kernel
theorem d_X9_fill_5 : decode m_X9_fill.2.1 5 = .ok (.if_icmp .ge 9, 3) := by decide +kernel
theorem d_X9_fill_8 : decode m_X9_fill.2.1 8 = .ok (.iload_n 2, 1) := by decide +kernel
theorem d_X9_fill_9 : decode m_X9_fill.2.1 9 = .ok (.bipush 24, 2) := by decide +kernel
theorem d_X9_fill_11 : decode m_X9_fill.2.1 11 = .ok (.if_icmp .lt 26, 3) := by decide +kernel
theorem d_X9_fill_14 : decode m_X9_fill.2.1 14 = .ok (.aload_n 0, 1) := by decide +kernel
theorem d_X9_fill_15 : decode m_X9_fill.2.1 15 = .ok (.dup, 1) := by decide +kernel
theorem d_X9_fill_16 : decode m_X9_fill.2.1 16 = .ok (.getfield 49, 3) := by decide +kernel
theorem d_X9_fill_19 : decode m_X9_fill.2.1 19 = .ok (.iconst 1, 1) := by decide +kernel
theorem d_X9_fill_20 : decode m_X9_fill.2.1 20 = .ok (.iadd, 1) := by decide +kernel
theorem d_X9_fill_21 : decode m_X9_fill.2.1 21 = .ok (.putfield 49, 3) := by decide +kernel
theorem d_X9_fill_24 : decode m_X9_fill.2.1 24 = .ok (.aload_n 0, 1) := by decide +kernel
theorem d_X9_fill_25 : decode m_X9_fill.2.1 25 = .ok (.getfield 70, 3) := by decide +kernel
theorem d_X9_fill_28 : decode m_X9_fill.2.1 28 = .ok (.ifCond .eq 8, 3) := by decide +kernel
theorem d_X9_fill_31 : decode m_X9_fill.2.1 31 = .ok (.aload_n 0, 1) := by decide +kernel
theorem d_X9_fill_32 : decode m_X9_fill.2.1 32 = .ok (.aload_n 1, 1) := by decide +kernel
theorem d_X9_fill_33 : decode m_X9_fill.2.1 33 = .ok (.invokevirtual 75, 3) := by decide +kernel
theorem d_X9_fill_36 : decode m_X9_fill.2.1 36 = .ok (.return_, 1) := by decide +kernel
theorem d_X9_fill_37 : decode m_X9_fill.2.1 37 = .ok (.aload_n 0, 1) := by decide +kernel
theorem d_X9_fill_38 : decode m_X9_fill.2.1 38 = .ok (.getfield 11, 3) := by decide +kernel
theorem d_X9_fill_41 : decode m_X9_fill.2.1 41 = .ok (.iload_n 2, 1) := by decide +kernel
theorem d_X9_fill_42 : decode m_X9_fill.2.1 42 = .ok (.iaload, 1) := by decide +kernel
theorem d_X9_fill_43 : decode m_X9_fill.2.1 43 = .ok (.iconst (-1), 1) := by decide +kernel
theorem d_X9_fill_44 : decode m_X9_fill.2.1 44 = .ok (.if_icmp .ne 15, 3) := by decide +kernel
theorem d_X9_fill_47 : decode m_X9_fill.2.1 47 = .ok (.aload_n 1, 1) := by decide +kernel
theorem d_X9_fill_48 : decode m_X9_fill.2.1 48 = .ok (.getfield 79, 3) := by decide +kernel
theorem d_X9_fill_51 : decode m_X9_fill.2.1 51 = .ok (.getfield 85, 3) := by decide +kernel
theorem d_X9_fill_54 : decode m_X9_fill.2.1 54 = .ok (.iconst 1, 1) := by decide +kernel
theorem d_X9_fill_55 : decode m_X9_fill.2.1 55 = .ok (.isub, 1) := by decide +kernel
theorem d_X9_fill_56 : decode m_X9_fill.2.1 56 = .ok (.goto 9, 3) := by decide +kernel
theorem d_X9_fill_59 : decode m_X9_fill.2.1 59 = .ok (.aload_n 0, 1) := by decide +kernel
theorem d_X9_fill_60 : decode m_X9_fill.2.1 60 = .ok (.getfield 11, 3) := by decide +kernel
theorem d_X9_fill_63 : decode m_X9_fill.2.1 63 = .ok (.iload_n 2, 1) := by decide +kernel
theorem d_X9_fill_64 : decode m_X9_fill.2.1 64 = .ok (.iaload, 1) := by decide +kernel
theorem d_X9_fill_65 : decode m_X9_fill.2.1 65 = .ok (.istore_n 3, 1) := by decide +kernel
theorem d_X9_fill_66 : decode m_X9_fill.2.1 66 = .ok (.aload_n 0, 1) := by decide +kernel
theorem d_X9_fill_67 : decode m_X9_fill.2.1 67 = .ok (.getfield 17, 3) := by decide +kernel
theorem d_X9_fill_70 : decode m_X9_fill.2.1 70 = .ok (.iload_n 2, 1) := by decide +kernel
theorem d_X9_fill_71 : decode m_X9_fill.2.1 71 = .ok (.iaload, 1) := by decide +kernel
theorem d_X9_fill_72 : decode m_X9_fill.2.1 72 = .ok (.iconst (-1), 1) := by decide +kernel
theorem d_X9_fill_73 : decode m_X9_fill.2.1 73 = .ok (.if_icmp .ne 15, 3) := by decide +kernel
theorem d_X9_fill_76 : decode m_X9_fill.2.1 76 = .ok (.aload_n 1, 1) := by decide +kernel
theorem d_X9_fill_77 : decode m_X9_fill.2.1 77 = .ok (.getfield 79, 3) := by decide +kernel
theorem d_X9_fill_80 : decode m_X9_fill.2.1 80 = .ok (.getfield 90, 3) := by decide +kernel
theorem d_X9_fill_83 : decode m_X9_fill.2.1 83 = .ok (.iconst 1, 1) := by decide +kernel
theorem d_X9_fill_84 : decode m_X9_fill.2.1 84 = .ok (.isub, 1) := by decide +kernel
theorem d_X9_fill_85 : decode m_X9_fill.2.1 85 = .ok (.goto 9, 3) := by decide +kernel
theorem d_X9_fill_88 : decode m_X9_fill.2.1 88 = .ok (.aload_n 0, 1) := by decide +kernel
theorem d_X9_fill_89 : decode m_X9_fill.2.1 89 = .ok (.getfield 17, 3) := by decide +kernel
theorem d_X9_fill_92 : decode m_X9_fill.2.1 92 = .ok (.iload_n 2, 1) := by decide +kernel
theorem d_X9_fill_93 : decode m_X9_fill.2.1 93 = .ok (.iaload, 1) := by decide +kernel
theorem d_X9_fill_94 : decode m_X9_fill.2.1 94 = .ok (.istore 4, 2) := by decide +kernel
theorem d_X9_fill_96 : decode m_X9_fill.2.1 96 = .ok (.aload_n 0, 1) := by decide +kernel
theorem d_X9_fill_97 : decode m_X9_fill.2.1 97 = .ok (.getfield 11, 3) := by decide +kernel
theorem d_X9_fill_100 : decode m_X9_fill.2.1 100 = .ok (.iload_n 2, 1) := by decide +kernel
theorem d_X9_fill_101 : decode m_X9_fill.2.1 101 = .ok (.iaload, 1) := by decide +kernel
theorem d_X9_fill_102 : decode m_X9_fill.2.1 102 = .ok (.iconst (-1), 1) := by decide +kernel
theorem d_X9_fill_103 : decode m_X9_fill.2.1 103 = .ok (.if_icmp .ne 7, 3) := by decide +kernel
theorem d_X9_fill_106 : decode m_X9_fill.2.1 106 = .ok (.iconst 0, 1) := by decide +kernel
theorem d_X9_fill_107 : decode m_X9_fill.2.1 107 = .ok (.goto 4, 3) := by decide +kernel
theorem d_X9_fill_110 : decode m_X9_fill.2.1 110 = .ok (.iload_n 3, 1) := by decide +kernel
theorem d_X9_fill_111 : decode m_X9_fill.2.1 111 = .ok (.istore 5, 2) := by decide +kernel
theorem d_X9_fill_113 : decode m_X9_fill.2.1 113 = .ok (.iload 5, 2) := by decide +kernel
theorem d_X9_fill_115 : decode m_X9_fill.2.1 115 = .ok (.iload_n 3, 1) := by decide +kernel
theorem d_X9_fill_116 : decode m_X9_fill.2.1 116 = .ok (.if_icmp .gt 130, 3) := by decide +kernel
theorem d_X9_fill_119 : decode m_X9_fill.2.1 119 = .ok (.aload_n 0, 1) := by decide +kernel
theorem d_X9_fill_120 : decode m_X9_fill.2.1 120 = .ok (.getfield 17, 3) := by decide +kernel
theorem d_X9_fill_123 : decode m_X9_fill.2.1 123 = .ok (.iload_n 2, 1) := by decide +kernel
theorem d_X9_fill_124 : decode m_X9_fill.2.1 124 = .ok (.iaload, 1) := by decide +kernel
theorem d_X9_fill_125 : decode m_X9_fill.2.1 125 = .ok (.iconst (-1), 1) := by decide +kernel
theorem d_X9_fill_126 : decode m_X9_fill.2.1 126 = .ok (.if_icmp .ne 7, 3) := by decide +kernel
theorem d_X9_fill_129 : decode m_X9_fill.2.1 129 = .ok (.iconst 0, 1) := by decide +kernel
theorem d_X9_fill_130 : decode m_X9_fill.2.1 130 = .ok (.goto 5, 3) := by decide +kernel
theorem d_X9_fill_133 : decode m_X9_fill.2.1 133 = .ok (.iload 4, 2) := by decide +kernel
theorem d_X9_fill_135 : decode m_X9_fill.2.1 135 = .ok (.istore 6, 2) := by decide +kernel
theorem d_X9_fill_137 : decode m_X9_fill.2.1 137 = .ok (.iload 6, 2) := by decide +kernel
theorem d_X9_fill_139 : decode m_X9_fill.2.1 139 = .ok (.iload 4, 2) := by decide +kernel
theorem d_X9_fill_141 : decode m_X9_fill.2.1 141 = .ok (.if_icmp .gt 99, 3) := by decide +kernel
theorem d_X9_fill_144 : decode m_X9_fill.2.1 144 = .ok (.aload_n 0, 1) := by decide +kernel
theorem d_X9_fill_145 : decode m_X9_fill.2.1 145 = .ok (.getfield 49, 3) := by decide +kernel
theorem d_X9_fill_148 : decode m_X9_fill.2.1 148 = .ok (.aload_n 0, 1) := by decide +kernel
theorem d_X9_fill_149 : decode m_X9_fill.2.1 149 = .ok (.getfield 67, 3) := by decide +kernel
theorem d_X9_fill_152 : decode m_X9_fill.2.1 152 = .ok (.if_icmp .gt 82, 3) := by decide +kernel
theorem d_X9_fill_155 : decode m_X9_fill.2.1 155 = .ok (.aload_n 1, 1) := by decide +kernel
theorem d_X9_fill_156 : decode m_X9_fill.2.1 156 = .ok (.iload 5, 2) := by decide +kernel
theorem d_X9_fill_158 : decode m_X9_fill.2.1 158 = .ok (.iload 6, 2) := by decide +kernel
theorem d_X9_fill_160 : decode m_X9_fill.2.1 160 = .ok (.invokevirtual 93, 3) := by decide +kernel
theorem d_X9_fill_163 : decode m_X9_fill.2.1 163 = .ok (.ifCond .ne 71, 3) := by decide +kernel
theorem d_X9_fill_166 : decode m_X9_fill.2.1 166 = .ok (.aload_n 0, 1) := by decide +kernel
theorem d_X9_fill_167 : decode m_X9_fill.2.1 167 = .ok (.getfield 49, 3) := by decide +kernel
theorem d_X9_fill_170 : decode m_X9_fill.2.1 170 = .ok (.istore 7, 2) := by decide +kernel
theorem d_X9_fill_172 : decode m_X9_fill.2.1 172 = .ok (.aload_n 1, 1) := by decide +kernel
theorem d_X9_fill_173 : decode m_X9_fill.2.1 173 = .ok (.iload 5, 2) := by decide +kernel
theorem d_X9_fill_175 : decode m_X9_fill.2.1 175 = .ok (.iload 6, 2) := by decide +kernel
theorem d_X9_fill_177 : decode m_X9_fill.2.1 177 = .ok (.invokevirtual 97, 3) := by decide +kernel
theorem d_X9_fill_180 : decode m_X9_fill.2.1 180 = .ok (.aload_n 0, 1) := by decide +kernel
theorem d_X9_fill_181 : decode m_X9_fill.2.1 181 = .ok (.aload_n 1, 1) := by decide +kernel
theorem d_X9_fill_182 : decode m_X9_fill.2.1 182 = .ok (.iload_n 2, 1) := by decide +kernel
theorem d_X9_fill_183 : decode m_X9_fill.2.1 183 = .ok (.iconst 1, 1) := by decide +kernel
theorem d_X9_fill_184 : decode m_X9_fill.2.1 184 = .ok (.iadd, 1) := by decide +kernel
theorem d_X9_fill_185 : decode m_X9_fill.2.1 185 = .ok (.invokevirtual 45, 3) := by decide +kernel
theorem d_X9_fill_188 : decode m_X9_fill.2.1 188 = .ok (.aload_n 1, 1) := by decide +kernel
theorem d_X9_fill_189 : decode m_X9_fill.2.1 189 = .ok (.invokevirtual 101, 3) := by decide +kernel
theorem d_X9_fill_192 : decode m_X9_fill.2.1 192 = .ok (.aload_n 0, 1) := by decide +kernel
theorem d_X9_fill_193 : decode m_X9_fill.2.1 193 = .ok (.getfield 70, 3) := by decide +kernel
theorem d_X9_fill_196 : decode m_X9_fill.2.1 196 = .ok (.ifCond .eq 38, 3) := by decide +kernel
theorem d_X9_fill_199 : decode m_X9_fill.2.1 199 = .ok (.aload_n 0, 1) := by decide +kernel
theorem d_X9_fill_200 : decode m_X9_fill.2.1 200 = .ok (.getfield 49, 3) := by decide +kernel
theorem d_X9_fill_203 : decode m_X9_fill.2.1 203 = .ok (.iload 7, 2) := by decide +kernel
theorem d_X9_fill_205 : decode m_X9_fill.2.1 205 = .ok (.if_icmp .le 29, 3) := by decide +kernel
theorem d_X9_fill_208 : decode m_X9_fill.2.1 208 = .ok (.aload_n 0, 1) := by decide +kernel
theorem d_X9_fill_209 : decode m_X9_fill.2.1 209 = .ok (.getfield 20, 3) := by decide +kernel
theorem d_X9_fill_212 : decode m_X9_fill.2.1 212 = .ok (.iload_n 2, 1) := by decide +kernel
theorem d_X9_fill_213 : decode m_X9_fill.2.1 213 = .ok (.dup2, 1) := by decide +kernel
theorem d_X9_fill_214 : decode m_X9_fill.2.1 214 = .ok (.iaload, 1) := by decide +kernel
theorem d_X9_fill_215 : decode m_X9_fill.2.1 215 = .ok (.iconst 1, 1) := by decide +kernel
theorem d_X9_fill_216 : decode m_X9_fill.2.1 216 = .ok (.iload 5, 2) := by decide +kernel
theorem d_X9_fill_218 : decode m_X9_fill.2.1 218 = .ok (.ishl, 1) := by decide +kernel
theorem d_X9_fill_219 : decode m_X9_fill.2.1 219 = .ok (.ior, 1) := by decide +kernel
theorem d_X9_fill_220 : decode m_X9_fill.2.1 220 = .ok (.iastore, 1) := by decide +kernel
theorem d_X9_fill_221 : decode m_X9_fill.2.1 221 = .ok (.aload_n 0, 1) := by decide +kernel
theorem d_X9_fill_222 : decode m_X9_fill.2.1 222 = .ok (.getfield 23, 3) := by decide +kernel
theorem d_X9_fill_225 : decode m_X9_fill.2.1 225 = .ok (.iload_n 2, 1) := by decide +kernel
theorem d_X9_fill_226 : decode m_X9_fill.2.1 226 = .ok (.dup2, 1) := by decide +kernel
theorem d_X9_fill_227 : decode m_X9_fill.2.1 227 = .ok (.iaload, 1) := by decide +kernel
theorem d_X9_fill_228 : decode m_X9_fill.2.1 228 = .ok (.iconst 1, 1) := by decide +kernel
theorem d_X9_fill_229 : decode m_X9_fill.2.1 229 = .ok (.iload 6, 2) := by decide +kernel
theorem d_X9_fill_231 : decode m_X9_fill.2.1 231 = .ok (.ishl, 1) := by decide +kernel
theorem d_X9_fill_232 : decode m_X9_fill.2.1 232 = .ok (.ior, 1) := by decide +kernel
theorem d_X9_fill_233 : decode m_X9_fill.2.1 233 = .ok (.iastore, 1) := by decide +kernel
theorem d_X9_fill_234 : decode m_X9_fill.2.1 234 = .ok (.iinc 6 1, 3) := by decide +kernel
theorem d_X9_fill_237 : decode m_X9_fill.2.1 237 = .ok (.goto (-100), 3) := by decide +kernel
theorem d_X9_fill_240 : decode m_X9_fill.2.1 240 = .ok (.iinc 5 1, 3) := by decide +kernel
theorem d_X9_fill_243 : decode m_X9_fill.2.1 243 = .ok (.goto (-130), 3) := by decide +kernel
theorem d_X9_fill_246 : decode m_X9_fill.2.1 246 = .ok (.return_, 1) := by decide +kernel
set_option maxRecDepth 20000 in
theorem e_X9_fill {E : jm_E} {d : Nat} {μ : jm_M} {Q : Option jm_V → jm_M → Prop} {v1 v2 : Int} (h : (∀ v ∈ ([jm_R 124, jm_R v1, jm_I v2] : List jm_V), jm_ok v) →
  ((μ 124 0 ≤ v2 →
    ((μ 124 5 = 0 →
      Q none (jm_up μ 124 3 (jm_wr ((μ 124 3) + 1)))) ∧
     (¬ (μ 124 5 = 0) →
      jc E m_X9_markStates d [jm_R 124, jm_R v1] (jm_up μ 124 3 (jm_wr ((μ 124 3) + 1))) (fun (o : Option jm_V) (m3 : jm_M) => o = none →
      Q none m3)))) ∧
   (¬ (μ 124 0 ≤ v2) →
    ((v2 < 24 →
      (0 ≤ v2 ∧ v2 < 24) ∧
      ((μ 125 v2 ≠ ((-1)) →
        ∀ x7 : Int, x7 = μ 125 v2 →
        ((μ 126 v2 ≠ ((-1)) →
          ∀ x9 : Int, x9 = μ 126 v2 →
          jg E m_X9_fill d 113 [some (jm_R 124), some (jm_R v1), some (jm_I v2), some (jm_I x7), some (jm_I x9), some (jm_I x7), none, none] [] μ Q) ∧
         (¬ (μ 126 v2 ≠ ((-1))) →
          (jm_is jm_N v1 1 6) ∧
          (jm_is jm_N (μ v1 0) 1 5) ∧
          ∀ x13 : Int, x13 = jm_wr ((μ (μ v1 0) 4) - 1) →
          jg E m_X9_fill d 113 [some (jm_R 124), some (jm_R v1), some (jm_I v2), some (jm_I x7), some (jm_I x13), some (jm_I x7), none, none] [] μ Q))) ∧
       (¬ (μ 125 v2 ≠ ((-1))) →
        (jm_is jm_N v1 1 6) ∧
        (jm_is jm_N (μ v1 0) 1 5) ∧
        ∀ x17 : Int, x17 = jm_wr ((μ (μ v1 0) 1) - 1) →
        ((μ 126 v2 ≠ ((-1)) →
          ∀ x19 : Int, x19 = μ 126 v2 →
          jg E m_X9_fill d 113 [some (jm_R 124), some (jm_R v1), some (jm_I v2), some (jm_I x17), some (jm_I x19), some (jm_I 0), none, none] [] μ Q) ∧
         (¬ (μ 126 v2 ≠ ((-1))) →
          ∀ x21 : Int, x21 = jm_wr ((μ (μ v1 0) 4) - 1) →
          jg E m_X9_fill d 113 [some (jm_R 124), some (jm_R v1), some (jm_I v2), some (jm_I x17), some (jm_I x21), some (jm_I 0), none, none] [] μ Q))))) ∧
     (¬ (v2 < 24) →
      ((μ 124 5 = 0 →
        Q none (jm_up μ 124 3 (jm_wr ((μ 124 3) + 1)))) ∧
       (¬ (μ 124 5 = 0) →
        jc E m_X9_markStates d [jm_R 124, jm_R v1] (jm_up μ 124 3 (jm_wr ((μ 124 3) + 1))) (fun (o : Option jm_V) (m24 : jm_M) => o = none →
        Q none m24)))))))) : jc E m_X9_fill (d + 1) [jm_R 124, jm_R v1, jm_I v2] μ Q := by
  refine jm_Cl.of2 (by decide +kernel) (L0 := [some (jm_R 124), some (jm_R v1), some (jm_I v2), none, none, none, none, none]) rfl (Nat.le_of_ble_eq_true rfl) (fun hok => ?_)
  have h := h hok
  refine jm_iloadn d_X9_fill_0 rfl ?_
  refine jm_aloadn d_X9_fill_1 rfl ?_
  refine jm_getI (k := 0) (ki := 0) cf_X9 (Nat.le_of_ble_eq_true rfl) f_X9_52 d_X9_fill_2 rfl rfl is_124 rfl ?_
  refine jm_icmp_ge (tgt := 14) d_X9_fill_5 (by decide) (fun c1 => ?_) (fun c1 => ?_)
  · have h := h.1 c1
    refine jm_aloadn d_X9_fill_14 rfl ?_
    refine jm_dup rfl d_X9_fill_15 ?_
    refine jm_getI (k := 3) (ki := 3) cf_X9 (Nat.le_of_ble_eq_true rfl) f_X9_49 d_X9_fill_16 rfl rfl is_124 rfl ?_
    refine jm_iconst (v := 1) d_X9_fill_19 rfl (jm_okI (by decide) (by decide)) ?_
    refine jm_iadd d_X9_fill_20 ?_
    refine jm_putI (k := 3) (ki := 3) cf_X9 (Nat.le_of_ble_eq_true rfl) f_X9_49 d_X9_fill_21 (fun z => absurd z (by decide)) rfl rfl rfl (fun _ => rfl) is_124 ?_
    refine jm_aloadn d_X9_fill_24 rfl ?_
    refine jm_getI (k := 5) (ki := 5) cf_X9 (Nat.le_of_ble_eq_true rfl) f_X9_70 d_X9_fill_25 rfl rfl is_124 ((jm_up_i (by decide)).trans rfl) ?_
    refine jm_if_eq (tgt := 36) d_X9_fill_28 (by decide) (fun c2 => ?_) (fun c2 => ?_)
    · have h := h.1 c2
      exact jm_ret (o := none) d_X9_fill_36 rfl ⟨Nat.le_refl _, Nat.le_refl _⟩ jm_r_V h rfl
    · have h := h.2 c2
      refine jm_aloadn d_X9_fill_31 rfl ?_
      refine jm_aloadn d_X9_fill_32 rfl ?_
      refine jm_invV (n1 := jm_N) (mc := 0) (ms := 0) (av := [jm_R _]) w_X9_markStates l_X9_75 d_X9_fill_33 rfl is_124 ⟨_, _, rfl⟩ ⟨Nat.le_refl _, Nat.le_refl _⟩ (Nat.le_of_ble_eq_true rfl) rfl ?_
      refine jm_Cl.mono h (fun o m3 h hr _ => ?_)
      obtain rfl := jm_rokV hr
      have h := h rfl
      exact jm_ret (o := none) d_X9_fill_36 rfl ⟨Nat.le_refl _, Nat.le_refl _⟩ jm_r_V h rfl
  · have h := h.2 c1
    refine jm_iloadn d_X9_fill_8 rfl ?_
    refine jm_bipush (v := 24) d_X9_fill_9 rfl (jm_okI (by decide) (by decide)) ?_
    refine jm_icmp_lt (tgt := 37) d_X9_fill_11 (by decide) (fun c4 => ?_) (fun c4 => ?_)
    · have h := h.1 c4
      refine jm_aloadn d_X9_fill_37 rfl ?_
      refine jm_getF (k := 1) (ki := 1) rfl cf_X9 (Nat.le_of_ble_eq_true rfl) f_X9_11 d_X9_fill_38 rfl rfl is_124 fr_124_1 ?_
      refine jm_iloadn d_X9_fill_41 rfl ?_
      obtain ⟨f5, h⟩ := h
      refine jm_iaload d_X9_fill_42 (ixl_125 f5.1 f5.2) ?_
      refine jm_iconst (v := (-1)) d_X9_fill_43 rfl (jm_okI (by decide) (by decide)) ?_
      refine jm_icmp_ne (tgt := 59) d_X9_fill_44 (by decide) (fun c6 => ?_) (fun c6 => ?_)
      · have h := h.1 c6
        refine jm_aloadn d_X9_fill_59 rfl ?_
        refine jm_getF (k := 1) (ki := 1) rfl cf_X9 (Nat.le_of_ble_eq_true rfl) f_X9_11 d_X9_fill_60 rfl rfl is_124 fr_124_1 ?_
        refine jm_iloadn d_X9_fill_63 rfl ?_
        refine jm_iaload d_X9_fill_64 (ixl_125 f5.1 f5.2) ?_
        have h := h _ rfl
        refine jm_istoren (L' := [some (jm_R _), some (jm_R _), some (jm_I _), some (jm_I _), none, none, none, none]) d_X9_fill_65 (Nat.le_of_ble_eq_true rfl) rfl ?_
        refine jm_aloadn d_X9_fill_66 rfl ?_
        refine jm_getF (k := 2) (ki := 2) rfl cf_X9 (Nat.le_of_ble_eq_true rfl) f_X9_17 d_X9_fill_67 rfl rfl is_124 fr_124_2 ?_
        refine jm_iloadn d_X9_fill_70 rfl ?_
        refine jm_iaload d_X9_fill_71 (ixl_126 f5.1 f5.2) ?_
        refine jm_iconst (v := (-1)) d_X9_fill_72 rfl (jm_okI (by decide) (by decide)) ?_
        refine jm_icmp_ne (tgt := 88) d_X9_fill_73 (by decide) (fun c8 => ?_) (fun c8 => ?_)
        · have h := h.1 c8
          refine jm_aloadn d_X9_fill_88 rfl ?_
          refine jm_getF (k := 2) (ki := 2) rfl cf_X9 (Nat.le_of_ble_eq_true rfl) f_X9_17 d_X9_fill_89 rfl rfl is_124 fr_124_2 ?_
          refine jm_iloadn d_X9_fill_92 rfl ?_
          refine jm_iaload d_X9_fill_93 (ixl_126 f5.1 f5.2) ?_
          have h := h _ rfl
          refine jm_istore (L' := [some (jm_R _), some (jm_R _), some (jm_I _), some (jm_I _), some (jm_I _), none, none, none]) d_X9_fill_94 (Nat.le_of_ble_eq_true rfl) rfl ?_
          refine jm_aloadn d_X9_fill_96 rfl ?_
          refine jm_getF (k := 1) (ki := 1) rfl cf_X9 (Nat.le_of_ble_eq_true rfl) f_X9_11 d_X9_fill_97 rfl rfl is_124 fr_124_1 ?_
          refine jm_iloadn d_X9_fill_100 rfl ?_
          refine jm_iaload d_X9_fill_101 (ixl_125 f5.1 f5.2) ?_
          refine jm_iconst (v := (-1)) d_X9_fill_102 rfl (jm_okI (by decide) (by decide)) ?_
          refine jm_icmp_ne (tgt := 110) d_X9_fill_103 (by decide) (fun _ => ?_) (fun c10 => absurd c6 c10)
          refine jm_iloadn d_X9_fill_110 rfl ?_
          refine jm_istore (L' := [some (jm_R _), some (jm_R _), some (jm_I _), some (jm_I _), some (jm_I _), some (jm_I _), none, none]) d_X9_fill_111 (Nat.le_of_ble_eq_true rfl) rfl ?_
          exact h
        · have h := h.2 c8
          refine jm_aloadn d_X9_fill_76 rfl ?_
          obtain ⟨f11, h⟩ := h
          refine jm_getR (k := 0) (ki := 0) cf_X6 (Nat.le_of_ble_eq_true rfl) f_X9_79 d_X9_fill_77 rfl rfl f11 rfl ?_
          obtain ⟨f12, h⟩ := h
          refine jm_getI (k := 4) (ki := 4) cf_X5 (Nat.le_of_ble_eq_true rfl) f_X9_90 d_X9_fill_80 rfl rfl f12 rfl ?_
          refine jm_iconst (v := 1) d_X9_fill_83 rfl (jm_okI (by decide) (by decide)) ?_
          refine jm_isub d_X9_fill_84 ?_
          refine jm_goto (tgt := 94) d_X9_fill_85 (by decide) ?_
          have h := h _ rfl
          refine jm_istore (L' := [some (jm_R _), some (jm_R _), some (jm_I _), some (jm_I _), some (jm_I _), none, none, none]) d_X9_fill_94 (Nat.le_of_ble_eq_true rfl) rfl ?_
          refine jm_aloadn d_X9_fill_96 rfl ?_
          refine jm_getF (k := 1) (ki := 1) rfl cf_X9 (Nat.le_of_ble_eq_true rfl) f_X9_11 d_X9_fill_97 rfl rfl is_124 fr_124_1 ?_
          refine jm_iloadn d_X9_fill_100 rfl ?_
          refine jm_iaload d_X9_fill_101 (ixl_125 f5.1 f5.2) ?_
          refine jm_iconst (v := (-1)) d_X9_fill_102 rfl (jm_okI (by decide) (by decide)) ?_
          refine jm_icmp_ne (tgt := 110) d_X9_fill_103 (by decide) (fun _ => ?_) (fun c14 => absurd c6 c14)
          refine jm_iloadn d_X9_fill_110 rfl ?_
          refine jm_istore (L' := [some (jm_R _), some (jm_R _), some (jm_I _), some (jm_I _), some (jm_I _), some (jm_I _), none, none]) d_X9_fill_111 (Nat.le_of_ble_eq_true rfl) rfl ?_
          exact h
      · have h := h.2 c6
        refine jm_aloadn d_X9_fill_47 rfl ?_
        obtain ⟨f15, h⟩ := h
        refine jm_getR (k := 0) (ki := 0) cf_X6 (Nat.le_of_ble_eq_true rfl) f_X9_79 d_X9_fill_48 rfl rfl f15 rfl ?_
        obtain ⟨f16, h⟩ := h
        refine jm_getI (k := 1) (ki := 1) cf_X5 (Nat.le_of_ble_eq_true rfl) f_X9_85 d_X9_fill_51 rfl rfl f16 rfl ?_
        refine jm_iconst (v := 1) d_X9_fill_54 rfl (jm_okI (by decide) (by decide)) ?_
        refine jm_isub d_X9_fill_55 ?_
        refine jm_goto (tgt := 65) d_X9_fill_56 (by decide) ?_
        have h := h _ rfl
        refine jm_istoren (L' := [some (jm_R _), some (jm_R _), some (jm_I _), some (jm_I _), none, none, none, none]) d_X9_fill_65 (Nat.le_of_ble_eq_true rfl) rfl ?_
        refine jm_aloadn d_X9_fill_66 rfl ?_
        refine jm_getF (k := 2) (ki := 2) rfl cf_X9 (Nat.le_of_ble_eq_true rfl) f_X9_17 d_X9_fill_67 rfl rfl is_124 fr_124_2 ?_
        refine jm_iloadn d_X9_fill_70 rfl ?_
        refine jm_iaload d_X9_fill_71 (ixl_126 f5.1 f5.2) ?_
        refine jm_iconst (v := (-1)) d_X9_fill_72 rfl (jm_okI (by decide) (by decide)) ?_
        refine jm_icmp_ne (tgt := 88) d_X9_fill_73 (by decide) (fun c18 => ?_) (fun c18 => ?_)
        · have h := h.1 c18
          refine jm_aloadn d_X9_fill_88 rfl ?_
          refine jm_getF (k := 2) (ki := 2) rfl cf_X9 (Nat.le_of_ble_eq_true rfl) f_X9_17 d_X9_fill_89 rfl rfl is_124 fr_124_2 ?_
          refine jm_iloadn d_X9_fill_92 rfl ?_
          refine jm_iaload d_X9_fill_93 (ixl_126 f5.1 f5.2) ?_
          have h := h _ rfl
          refine jm_istore (L' := [some (jm_R _), some (jm_R _), some (jm_I _), some (jm_I _), some (jm_I _), none, none, none]) d_X9_fill_94 (Nat.le_of_ble_eq_true rfl) rfl ?_
          refine jm_aloadn d_X9_fill_96 rfl ?_
          refine jm_getF (k := 1) (ki := 1) rfl cf_X9 (Nat.le_of_ble_eq_true rfl) f_X9_11 d_X9_fill_97 rfl rfl is_124 fr_124_1 ?_
          refine jm_iloadn d_X9_fill_100 rfl ?_
          refine jm_iaload d_X9_fill_101 (ixl_125 f5.1 f5.2) ?_
          refine jm_iconst (v := (-1)) d_X9_fill_102 rfl (jm_okI (by decide) (by decide)) ?_
          refine jm_icmp_ne (tgt := 110) d_X9_fill_103 (by decide) (fun c20 => absurd c20 c6) (fun _ => ?_)
          refine jm_iconst (v := 0) d_X9_fill_106 rfl (jm_okI (by decide) (by decide)) ?_
          refine jm_goto (tgt := 111) d_X9_fill_107 (by decide) ?_
          refine jm_istore (L' := [some (jm_R _), some (jm_R _), some (jm_I _), some (jm_I _), some (jm_I _), some (jm_I _), none, none]) d_X9_fill_111 (Nat.le_of_ble_eq_true rfl) rfl ?_
          exact h
        · have h := h.2 c18
          refine jm_aloadn d_X9_fill_76 rfl ?_
          refine jm_getR (k := 0) (ki := 0) cf_X6 (Nat.le_of_ble_eq_true rfl) f_X9_79 d_X9_fill_77 rfl rfl f15 rfl ?_
          refine jm_getI (k := 4) (ki := 4) cf_X5 (Nat.le_of_ble_eq_true rfl) f_X9_90 d_X9_fill_80 rfl rfl f16 rfl ?_
          refine jm_iconst (v := 1) d_X9_fill_83 rfl (jm_okI (by decide) (by decide)) ?_
          refine jm_isub d_X9_fill_84 ?_
          refine jm_goto (tgt := 94) d_X9_fill_85 (by decide) ?_
          have h := h _ rfl
          refine jm_istore (L' := [some (jm_R _), some (jm_R _), some (jm_I _), some (jm_I _), some (jm_I _), none, none, none]) d_X9_fill_94 (Nat.le_of_ble_eq_true rfl) rfl ?_
          refine jm_aloadn d_X9_fill_96 rfl ?_
          refine jm_getF (k := 1) (ki := 1) rfl cf_X9 (Nat.le_of_ble_eq_true rfl) f_X9_11 d_X9_fill_97 rfl rfl is_124 fr_124_1 ?_
          refine jm_iloadn d_X9_fill_100 rfl ?_
          refine jm_iaload d_X9_fill_101 (ixl_125 f5.1 f5.2) ?_
          refine jm_iconst (v := (-1)) d_X9_fill_102 rfl (jm_okI (by decide) (by decide)) ?_
          refine jm_icmp_ne (tgt := 110) d_X9_fill_103 (by decide) (fun c22 => absurd c22 c6) (fun _ => ?_)
          refine jm_iconst (v := 0) d_X9_fill_106 rfl (jm_okI (by decide) (by decide)) ?_
          refine jm_goto (tgt := 111) d_X9_fill_107 (by decide) ?_
          refine jm_istore (L' := [some (jm_R _), some (jm_R _), some (jm_I _), some (jm_I _), some (jm_I _), some (jm_I _), none, none]) d_X9_fill_111 (Nat.le_of_ble_eq_true rfl) rfl ?_
          exact h
    · have h := h.2 c4
      refine jm_aloadn d_X9_fill_14 rfl ?_
      refine jm_dup rfl d_X9_fill_15 ?_
      refine jm_getI (k := 3) (ki := 3) cf_X9 (Nat.le_of_ble_eq_true rfl) f_X9_49 d_X9_fill_16 rfl rfl is_124 rfl ?_
      refine jm_iconst (v := 1) d_X9_fill_19 rfl (jm_okI (by decide) (by decide)) ?_
      refine jm_iadd d_X9_fill_20 ?_
      refine jm_putI (k := 3) (ki := 3) cf_X9 (Nat.le_of_ble_eq_true rfl) f_X9_49 d_X9_fill_21 (fun z => absurd z (by decide)) rfl rfl rfl (fun _ => rfl) is_124 ?_
      refine jm_aloadn d_X9_fill_24 rfl ?_
      refine jm_getI (k := 5) (ki := 5) cf_X9 (Nat.le_of_ble_eq_true rfl) f_X9_70 d_X9_fill_25 rfl rfl is_124 ((jm_up_i (by decide)).trans rfl) ?_
      refine jm_if_eq (tgt := 36) d_X9_fill_28 (by decide) (fun c23 => ?_) (fun c23 => ?_)
      · have h := h.1 c23
        exact jm_ret (o := none) d_X9_fill_36 rfl ⟨Nat.le_refl _, Nat.le_refl _⟩ jm_r_V h rfl
      · have h := h.2 c23
        refine jm_aloadn d_X9_fill_31 rfl ?_
        refine jm_aloadn d_X9_fill_32 rfl ?_
        refine jm_invV (n1 := jm_N) (mc := 0) (ms := 0) (av := [jm_R _]) w_X9_markStates l_X9_75 d_X9_fill_33 rfl is_124 ⟨_, _, rfl⟩ ⟨Nat.le_refl _, Nat.le_refl _⟩ (Nat.le_of_ble_eq_true rfl) rfl ?_
        refine jm_Cl.mono h (fun o m24 h hr _ => ?_)
        obtain rfl := jm_rokV hr
        have h := h rfl
        exact jm_ret (o := none) d_X9_fill_36 rfl ⟨Nat.le_refl _, Nat.le_refl _⟩ jm_r_V h rfl
set_option maxRecDepth 20000 in
theorem r_X9_fill_113 {E : jm_E} {d : Nat} {μ : jm_M} {Q : Option jm_V → jm_M → Prop} {v1 v2 v3 v4 v5 : Int} (h :
  ((v3 < v5 →
    Q none μ) ∧
   (¬ (v3 < v5) →
    (0 ≤ v2 ∧ v2 < 24) ∧
    ((μ 126 v2 ≠ ((-1)) →
      jg E m_X9_fill d 137 [some (jm_R 124), some (jm_R v1), some (jm_I v2), some (jm_I v3), some (jm_I v4), some (jm_I v5), some (jm_I v4), none] [] μ Q) ∧
     (¬ (μ 126 v2 ≠ ((-1))) →
      jg E m_X9_fill d 137 [some (jm_R 124), some (jm_R v1), some (jm_I v2), some (jm_I v3), some (jm_I v4), some (jm_I v5), some (jm_I 0), none] [] μ Q))))) : jg E m_X9_fill d 113 [some (jm_R 124), some (jm_R v1), some (jm_I v2), some (jm_I v3), some (jm_I v4), some (jm_I v5), none, none] [] μ Q := by
  refine jm_iload d_X9_fill_113 rfl ?_
  refine jm_iloadn d_X9_fill_115 rfl ?_
  refine jm_icmp_gt (tgt := 246) d_X9_fill_116 (by decide) (fun c1 => ?_) (fun c1 => ?_)
  · have h := h.1 c1
    exact jm_ret (o := none) d_X9_fill_246 rfl ⟨Nat.le_refl _, Nat.le_refl _⟩ jm_r_V h rfl
  · have h := h.2 c1
    refine jm_aloadn d_X9_fill_119 rfl ?_
    refine jm_getF (k := 2) (ki := 2) rfl cf_X9 (Nat.le_of_ble_eq_true rfl) f_X9_17 d_X9_fill_120 rfl rfl is_124 fr_124_2 ?_
    refine jm_iloadn d_X9_fill_123 rfl ?_
    obtain ⟨f2, h⟩ := h
    refine jm_iaload d_X9_fill_124 (ixl_126 f2.1 f2.2) ?_
    refine jm_iconst (v := (-1)) d_X9_fill_125 rfl (jm_okI (by decide) (by decide)) ?_
    refine jm_icmp_ne (tgt := 133) d_X9_fill_126 (by decide) (fun c3 => ?_) (fun c3 => ?_)
    · have h := h.1 c3
      refine jm_iload d_X9_fill_133 rfl ?_
      refine jm_istore (L' := [some (jm_R _), some (jm_R _), some (jm_I _), some (jm_I _), some (jm_I _), some (jm_I _), some (jm_I _), none]) d_X9_fill_135 (Nat.le_of_ble_eq_true rfl) rfl ?_
      exact h
    · have h := h.2 c3
      refine jm_iconst (v := 0) d_X9_fill_129 rfl (jm_okI (by decide) (by decide)) ?_
      refine jm_goto (tgt := 135) d_X9_fill_130 (by decide) ?_
      refine jm_istore (L' := [some (jm_R _), some (jm_R _), some (jm_I _), some (jm_I _), some (jm_I _), some (jm_I _), some (jm_I _), none]) d_X9_fill_135 (Nat.le_of_ble_eq_true rfl) rfl ?_
      exact h
set_option maxRecDepth 20000 in
theorem r_X9_fill_137 {E : jm_E} {d : Nat} {μ : jm_M} {Q : Option jm_V → jm_M → Prop} {v1 v2 v3 v4 v5 v6 : Int} (h :
  ((v4 < v6 →
    jg E m_X9_fill d 113 [some (jm_R 124), some (jm_R v1), some (jm_I v2), some (jm_I v3), some (jm_I v4), some (jm_I (jm_wr (v5 + 1))), none, none] [] μ Q) ∧
   (¬ (v4 < v6) →
    ((μ 124 4 < μ 124 3 →
      jg E m_X9_fill d 137 [some (jm_R 124), some (jm_R v1), some (jm_I v2), some (jm_I v3), some (jm_I v4), some (jm_I v5), some (jm_I (jm_wr (v6 + 1))), none] [] μ Q) ∧
     (¬ (μ 124 4 < μ 124 3) →
      (jm_is jm_N v1 1 6) ∧
      jc E m_X6_flaw d [jm_R v1, jm_I v5, jm_I v6] μ (fun (o : Option jm_V) (m3 : jm_M) => ∀ r5 : Int, o = some (jm_I r5) →
      ((r5 ≠ 0 →
        jg E m_X9_fill d 137 [some (jm_R 124), some (jm_R v1), some (jm_I v2), some (jm_I v3), some (jm_I v4), some (jm_I v5), some (jm_I (jm_wr (v6 + 1))), none] [] m3 Q) ∧
       (¬ (r5 ≠ 0) →
        jc E m_X6_add d [jm_R v1, jm_I v5, jm_I v6] m3 (fun (o : Option jm_V) (m7 : jm_M) => o = none →
        jc E m_X9_fill d [jm_R 124, jm_R v1, jm_I (jm_wr (v2 + 1))] m7 (fun (o : Option jm_V) (m8 : jm_M) => o = none →
        jc E m_X6_takeBack d [jm_R v1] m8 (fun (o : Option jm_V) (m9 : jm_M) => o = none →
        ((m9 124 5 = 0 →
          jg E m_X9_fill d 137 [some (jm_R 124), some (jm_R v1), some (jm_I v2), some (jm_I v3), some (jm_I v4), some (jm_I v5), some (jm_I (jm_wr (v6 + 1))), none] [] m9 Q) ∧
         (¬ (m9 124 5 = 0) →
          ((m9 124 3 ≤ m3 124 3 →
            jg E m_X9_fill d 137 [some (jm_R 124), some (jm_R v1), some (jm_I v2), some (jm_I v3), some (jm_I v4), some (jm_I v5), some (jm_I (jm_wr (v6 + 1))), none] [] m9 Q) ∧
           (¬ (m9 124 3 ≤ m3 124 3) →
            (0 ≤ v2 ∧ v2 < 24) ∧
            ∀ m13 : jm_M, m13 = (jm_up m9 127 v2 (jm_or (m9 127 v2) (jm_shl 1 v5))) →
            ∀ m14 : jm_M, m14 = (jm_up m13 128 v2 (jm_or (m13 128 v2) (jm_shl 1 v6))) →
            jg E m_X9_fill d 137 [some (jm_R 124), some (jm_R v1), some (jm_I v2), some (jm_I v3), some (jm_I v4), some (jm_I v5), some (jm_I (jm_wr (v6 + 1))), none] [] m14 Q))))))))))))))) : jg E m_X9_fill d 137 [some (jm_R 124), some (jm_R v1), some (jm_I v2), some (jm_I v3), some (jm_I v4), some (jm_I v5), some (jm_I v6), none] [] μ Q := by
  refine jm_iload d_X9_fill_137 rfl ?_
  refine jm_iload d_X9_fill_139 rfl ?_
  refine jm_icmp_gt (tgt := 240) d_X9_fill_141 (by decide) (fun c1 => ?_) (fun c1 => ?_)
  · have h := h.1 c1
    refine jm_iinc (L' := [some (jm_R _), some (jm_R _), some (jm_I _), some (jm_I _), some (jm_I _), some (jm_I _), some (jm_I _), none]) d_X9_fill_240 rfl rfl (Nat.le_of_ble_eq_true rfl) rfl ?_
    refine jm_goto (tgt := 113) d_X9_fill_243 (by decide) ?_
    exact jm_weak2 h (And.intro rfl (And.intro rfl (And.intro rfl (And.intro rfl (And.intro rfl (And.intro rfl trivial))))))
  · have h := h.2 c1
    refine jm_aloadn d_X9_fill_144 rfl ?_
    refine jm_getI (k := 3) (ki := 3) cf_X9 (Nat.le_of_ble_eq_true rfl) f_X9_49 d_X9_fill_145 rfl rfl is_124 rfl ?_
    refine jm_aloadn d_X9_fill_148 rfl ?_
    refine jm_getI (k := 4) (ki := 4) cf_X9 (Nat.le_of_ble_eq_true rfl) f_X9_67 d_X9_fill_149 rfl rfl is_124 rfl ?_
    refine jm_icmp_gt (tgt := 234) d_X9_fill_152 (by decide) (fun c2 => ?_) (fun c2 => ?_)
    · have h := h.1 c2
      refine jm_iinc (L' := [some (jm_R _), some (jm_R _), some (jm_I _), some (jm_I _), some (jm_I _), some (jm_I _), some (jm_I _), none]) d_X9_fill_234 rfl rfl (Nat.le_of_ble_eq_true rfl) rfl ?_
      refine jm_goto (tgt := 137) d_X9_fill_237 (by decide) ?_
      exact h
    · have h := h.2 c2
      refine jm_aloadn d_X9_fill_155 rfl ?_
      refine jm_iload d_X9_fill_156 rfl ?_
      refine jm_iload d_X9_fill_158 rfl ?_
      obtain ⟨f4, h⟩ := h
      refine jm_invV (n1 := jm_N) (mc := 0) (ms := 0) (av := [jm_I _, jm_I _]) w_X6_flaw l_X9_93 d_X9_fill_160 rfl f4 ⟨_, _, rfl⟩ ⟨Nat.le_refl _, Nat.le_refl _⟩ (Nat.le_of_ble_eq_true rfl) rfl ?_
      refine jm_Cl.mono h (fun o m3 h hr _ => ?_)
      obtain ⟨r5, rfl⟩ := jm_rokI hr
      have h := h _ rfl
      refine jm_if_ne (tgt := 234) d_X9_fill_163 (by decide) (fun c6 => ?_) (fun c6 => ?_)
      · have h := h.1 c6
        refine jm_iinc (L' := [some (jm_R _), some (jm_R _), some (jm_I _), some (jm_I _), some (jm_I _), some (jm_I _), some (jm_I _), none]) d_X9_fill_234 rfl rfl (Nat.le_of_ble_eq_true rfl) rfl ?_
        refine jm_goto (tgt := 137) d_X9_fill_237 (by decide) ?_
        exact h
      · have h := h.2 c6
        refine jm_aloadn d_X9_fill_166 rfl ?_
        refine jm_getI (k := 3) (ki := 3) cf_X9 (Nat.le_of_ble_eq_true rfl) f_X9_49 d_X9_fill_167 rfl rfl is_124 rfl ?_
        refine jm_istore (L' := [some (jm_R _), some (jm_R _), some (jm_I _), some (jm_I _), some (jm_I _), some (jm_I _), some (jm_I _), some (jm_I _)]) d_X9_fill_170 (Nat.le_of_ble_eq_true rfl) rfl ?_
        refine jm_aloadn d_X9_fill_172 rfl ?_
        refine jm_iload d_X9_fill_173 rfl ?_
        refine jm_iload d_X9_fill_175 rfl ?_
        refine jm_invV (n1 := jm_N) (mc := 0) (ms := 0) (av := [jm_I _, jm_I _]) w_X6_add l_X9_97 d_X9_fill_177 rfl f4 ⟨_, _, rfl⟩ ⟨Nat.le_refl _, Nat.le_refl _⟩ (Nat.le_of_ble_eq_true rfl) rfl ?_
        refine jm_Cl.mono h (fun o m7 h hr _ => ?_)
        obtain rfl := jm_rokV hr
        have h := h rfl
        refine jm_aloadn d_X9_fill_180 rfl ?_
        refine jm_aloadn d_X9_fill_181 rfl ?_
        refine jm_iloadn d_X9_fill_182 rfl ?_
        refine jm_iconst (v := 1) d_X9_fill_183 rfl (jm_okI (by decide) (by decide)) ?_
        refine jm_iadd d_X9_fill_184 ?_
        refine jm_invV (n1 := jm_N) (mc := 0) (ms := 0) (av := [jm_R _, jm_I _]) w_X9_fill l_X9_45 d_X9_fill_185 rfl is_124 ⟨_, _, rfl⟩ ⟨Nat.le_refl _, Nat.le_refl _⟩ (Nat.le_of_ble_eq_true rfl) rfl ?_
        refine jm_Cl.mono h (fun o m8 h hr _ => ?_)
        obtain rfl := jm_rokV hr
        have h := h rfl
        refine jm_aloadn d_X9_fill_188 rfl ?_
        refine jm_invV (n1 := jm_N) (mc := 0) (ms := 0) (av := []) w_X6_takeBack l_X9_101 d_X9_fill_189 rfl f4 ⟨_, _, rfl⟩ ⟨Nat.le_refl _, Nat.le_refl _⟩ (Nat.le_of_ble_eq_true rfl) rfl ?_
        refine jm_Cl.mono h (fun o m9 h hr _ => ?_)
        obtain rfl := jm_rokV hr
        have h := h rfl
        refine jm_aloadn d_X9_fill_192 rfl ?_
        refine jm_getI (k := 5) (ki := 5) cf_X9 (Nat.le_of_ble_eq_true rfl) f_X9_70 d_X9_fill_193 rfl rfl is_124 rfl ?_
        refine jm_if_eq (tgt := 234) d_X9_fill_196 (by decide) (fun c10 => ?_) (fun c10 => ?_)
        · have h := h.1 c10
          refine jm_iinc (L' := [some (jm_R _), some (jm_R _), some (jm_I _), some (jm_I _), some (jm_I _), some (jm_I _), some (jm_I _), some (jm_I _)]) d_X9_fill_234 rfl rfl (Nat.le_of_ble_eq_true rfl) rfl ?_
          refine jm_goto (tgt := 137) d_X9_fill_237 (by decide) ?_
          exact jm_weak2 h (And.intro rfl (And.intro rfl (And.intro rfl (And.intro rfl (And.intro rfl (And.intro rfl (And.intro rfl trivial)))))))
        · have h := h.2 c10
          refine jm_aloadn d_X9_fill_199 rfl ?_
          refine jm_getI (k := 3) (ki := 3) cf_X9 (Nat.le_of_ble_eq_true rfl) f_X9_49 d_X9_fill_200 rfl rfl is_124 rfl ?_
          refine jm_iload d_X9_fill_203 rfl ?_
          refine jm_icmp_le (tgt := 234) d_X9_fill_205 (by decide) (fun c11 => ?_) (fun c11 => ?_)
          · have h := h.1 c11
            refine jm_iinc (L' := [some (jm_R _), some (jm_R _), some (jm_I _), some (jm_I _), some (jm_I _), some (jm_I _), some (jm_I _), some (jm_I _)]) d_X9_fill_234 rfl rfl (Nat.le_of_ble_eq_true rfl) rfl ?_
            refine jm_goto (tgt := 137) d_X9_fill_237 (by decide) ?_
            exact jm_weak2 h (And.intro rfl (And.intro rfl (And.intro rfl (And.intro rfl (And.intro rfl (And.intro rfl (And.intro rfl trivial)))))))
          · have h := h.2 c11
            refine jm_aloadn d_X9_fill_208 rfl ?_
            refine jm_getF (k := 7) (ki := 7) rfl cf_X9 (Nat.le_of_ble_eq_true rfl) f_X9_20 d_X9_fill_209 rfl rfl is_124 fr_124_7 ?_
            refine jm_iloadn d_X9_fill_212 rfl ?_
            refine jm_dup2 rfl rfl d_X9_fill_213 ?_
            obtain ⟨f12, h⟩ := h
            refine jm_iaload d_X9_fill_214 (ixl_127 f12.1 f12.2) ?_
            refine jm_iconst (v := 1) d_X9_fill_215 rfl (jm_okI (by decide) (by decide)) ?_
            refine jm_iload d_X9_fill_216 rfl ?_
            refine jm_ishl d_X9_fill_218 ?_
            refine jm_ior d_X9_fill_219 ?_
            refine jm_iastore d_X9_fill_220 (ixl_127 f12.1 f12.2) ?_
            have h := h _ rfl
            refine jm_aloadn d_X9_fill_221 rfl ?_
            refine jm_getF (k := 8) (ki := 8) rfl cf_X9 (Nat.le_of_ble_eq_true rfl) f_X9_23 d_X9_fill_222 rfl rfl is_124 fr_124_8 ?_
            refine jm_iloadn d_X9_fill_225 rfl ?_
            refine jm_dup2 rfl rfl d_X9_fill_226 ?_
            refine jm_iaload d_X9_fill_227 (ixl_128 f12.1 f12.2) ?_
            refine jm_iconst (v := 1) d_X9_fill_228 rfl (jm_okI (by decide) (by decide)) ?_
            refine jm_iload d_X9_fill_229 rfl ?_
            refine jm_ishl d_X9_fill_231 ?_
            refine jm_ior d_X9_fill_232 ?_
            refine jm_iastore d_X9_fill_233 (ixl_128 f12.1 f12.2) ?_
            have h := h _ rfl
            refine jm_iinc (L' := [some (jm_R _), some (jm_R _), some (jm_I _), some (jm_I _), some (jm_I _), some (jm_I _), some (jm_I _), some (jm_I _)]) d_X9_fill_234 rfl rfl (Nat.le_of_ble_eq_true rfl) rfl ?_
            refine jm_goto (tgt := 137) d_X9_fill_237 (by decide) ?_
            exact jm_weak2 h (And.intro rfl (And.intro rfl (And.intro rfl (And.intro rfl (And.intro rfl (And.intro rfl (And.intro rfl trivial)))))))
/-! ('CombTable$Wholes', 'markStates', '(LCombTable$Talk;)V') -/
theorem d_X9_markStates_0 : decode m_X9_markStates.2.1 0 = .ok (.iconst 0, 1) := by decide +kernel
theorem d_X9_markStates_1 : decode m_X9_markStates.2.1 1 = .ok (.istore_n 2, 1) := by decide +kernel
theorem d_X9_markStates_2 : decode m_X9_markStates.2.1 2 = .ok (.iload_n 2, 1) := by decide +kernel
theorem d_X9_markStates_3 : decode m_X9_markStates.2.1 3 = .ok (.aload_n 1, 1) := by decide +kernel
theorem d_X9_markStates_4 : decode m_X9_markStates.2.1 4 = .ok (.getfield 104, 3) := by decide +kernel
theorem d_X9_markStates_7 : decode m_X9_markStates.2.1 7 = .ok (.if_icmp .ge 31, 3) := by decide +kernel
theorem d_X9_markStates_10 : decode m_X9_markStates.2.1 10 = .ok (.iload_n 2, 1) := by decide +kernel
theorem d_X9_markStates_11 : decode m_X9_markStates.2.1 11 = .ok (.bipush 24, 2) := by decide +kernel
theorem d_X9_markStates_13 : decode m_X9_markStates.2.1 13 = .ok (.if_icmp .ge 25, 3) := by decide +kernel
theorem d_X9_markStates_16 : decode m_X9_markStates.2.1 16 = .ok (.aload_n 0, 1) := by decide +kernel
theorem d_X9_markStates_17 : decode m_X9_markStates.2.1 17 = .ok (.getfield 26, 3) := by decide +kernel
theorem d_X9_markStates_20 : decode m_X9_markStates.2.1 20 = .ok (.iload_n 2, 1) := by decide +kernel
theorem d_X9_markStates_21 : decode m_X9_markStates.2.1 21 = .ok (.dup2, 1) := by decide +kernel
theorem d_X9_markStates_22 : decode m_X9_markStates.2.1 22 = .ok (.iaload, 1) := by decide +kernel
theorem d_X9_markStates_23 : decode m_X9_markStates.2.1 23 = .ok (.iconst 1, 1) := by decide +kernel
theorem d_X9_markStates_24 : decode m_X9_markStates.2.1 24 = .ok (.aload_n 1, 1) := by decide +kernel
theorem d_X9_markStates_25 : decode m_X9_markStates.2.1 25 = .ok (.iload_n 2, 1) := by decide +kernel
theorem d_X9_markStates_26 : decode m_X9_markStates.2.1 26 = .ok (.invokevirtual 105, 3) := by decide +kernel
theorem d_X9_markStates_29 : decode m_X9_markStates.2.1 29 = .ok (.ishl, 1) := by decide +kernel
theorem d_X9_markStates_30 : decode m_X9_markStates.2.1 30 = .ok (.ior, 1) := by decide +kernel
theorem d_X9_markStates_31 : decode m_X9_markStates.2.1 31 = .ok (.iastore, 1) := by decide +kernel
theorem d_X9_markStates_32 : decode m_X9_markStates.2.1 32 = .ok (.iinc 2 1, 3) := by decide +kernel
theorem d_X9_markStates_35 : decode m_X9_markStates.2.1 35 = .ok (.goto (-33), 3) := by decide +kernel
theorem d_X9_markStates_38 : decode m_X9_markStates.2.1 38 = .ok (.return_, 1) := by decide +kernel
set_option maxRecDepth 20000 in
theorem e_X9_markStates {E : jm_E} {d : Nat} {μ : jm_M} {Q : Option jm_V → jm_M → Prop} {v1 : Int} (h : (∀ v ∈ ([jm_R 124, jm_R v1] : List jm_V), jm_ok v) →
  jg E m_X9_markStates d 2 [some (jm_R 124), some (jm_R v1), some (jm_I 0)] [] μ Q) : jc E m_X9_markStates (d + 1) [jm_R 124, jm_R v1] μ Q := by
  refine jm_Cl.of2 (by decide +kernel) (L0 := [some (jm_R 124), some (jm_R v1), none]) rfl (Nat.le_of_ble_eq_true rfl) (fun hok => ?_)
  have h := h hok
  refine jm_iconst (v := 0) d_X9_markStates_0 rfl (jm_okI (by decide) (by decide)) ?_
  refine jm_istoren (L' := [some (jm_R _), some (jm_R _), some (jm_I _)]) d_X9_markStates_1 (Nat.le_of_ble_eq_true rfl) rfl ?_
  exact h
set_option maxRecDepth 20000 in
theorem r_X9_markStates_2 {E : jm_E} {d : Nat} {μ : jm_M} {Q : Option jm_V → jm_M → Prop} {v1 v2 : Int} (h :
  (jm_is jm_N v1 1 6) ∧
  ((μ v1 1 ≤ v2 →
    Q none μ) ∧
   (¬ (μ v1 1 ≤ v2) →
    ((24 ≤ v2 →
      Q none μ) ∧
     (¬ (24 ≤ v2) →
      (0 ≤ v2 ∧ v2 < 24) ∧
      jc E m_X6_stateOf d [jm_R v1, jm_I v2] μ (fun (o : Option jm_V) (m5 : jm_M) => ∀ r6 : Int, o = some (jm_I r6) →
      ∀ m7 : jm_M, m7 = (jm_up m5 129 v2 (jm_or (μ 129 v2) (jm_shl 1 r6))) →
      jg E m_X9_markStates d 2 [some (jm_R 124), some (jm_R v1), some (jm_I (jm_wr (v2 + 1)))] [] m7 Q)))))) : jg E m_X9_markStates d 2 [some (jm_R 124), some (jm_R v1), some (jm_I v2)] [] μ Q := by
  refine jm_iloadn d_X9_markStates_2 rfl ?_
  refine jm_aloadn d_X9_markStates_3 rfl ?_
  obtain ⟨f1, h⟩ := h
  refine jm_getI (k := 1) (ki := 1) cf_X6 (Nat.le_of_ble_eq_true rfl) f_X9_104 d_X9_markStates_4 rfl rfl f1 rfl ?_
  refine jm_icmp_ge (tgt := 38) d_X9_markStates_7 (by decide) (fun c2 => ?_) (fun c2 => ?_)
  · have h := h.1 c2
    exact jm_ret (o := none) d_X9_markStates_38 rfl ⟨Nat.le_refl _, Nat.le_refl _⟩ jm_r_V h rfl
  · have h := h.2 c2
    refine jm_iloadn d_X9_markStates_10 rfl ?_
    refine jm_bipush (v := 24) d_X9_markStates_11 rfl (jm_okI (by decide) (by decide)) ?_
    refine jm_icmp_ge (tgt := 38) d_X9_markStates_13 (by decide) (fun c3 => ?_) (fun c3 => ?_)
    · have h := h.1 c3
      exact jm_ret (o := none) d_X9_markStates_38 rfl ⟨Nat.le_refl _, Nat.le_refl _⟩ jm_r_V h rfl
    · have h := h.2 c3
      refine jm_aloadn d_X9_markStates_16 rfl ?_
      refine jm_getF (k := 9) (ki := 9) rfl cf_X9 (Nat.le_of_ble_eq_true rfl) f_X9_26 d_X9_markStates_17 rfl rfl is_124 fr_124_9 ?_
      refine jm_iloadn d_X9_markStates_20 rfl ?_
      refine jm_dup2 rfl rfl d_X9_markStates_21 ?_
      obtain ⟨f4, h⟩ := h
      refine jm_iaload d_X9_markStates_22 (ixl_129 f4.1 f4.2) ?_
      refine jm_iconst (v := 1) d_X9_markStates_23 rfl (jm_okI (by decide) (by decide)) ?_
      refine jm_aloadn d_X9_markStates_24 rfl ?_
      refine jm_iloadn d_X9_markStates_25 rfl ?_
      refine jm_invV (n1 := jm_N) (mc := 0) (ms := 0) (av := [jm_I _]) w_X6_stateOf l_X9_105 d_X9_markStates_26 rfl f1 ⟨_, _, rfl⟩ ⟨Nat.le_refl _, Nat.le_refl _⟩ (Nat.le_of_ble_eq_true rfl) rfl ?_
      refine jm_Cl.mono h (fun o m5 h hr _ => ?_)
      obtain ⟨r6, rfl⟩ := jm_rokI hr
      have h := h _ rfl
      refine jm_ishl d_X9_markStates_29 ?_
      refine jm_ior d_X9_markStates_30 ?_
      refine jm_iastore d_X9_markStates_31 (ixl_129 f4.1 f4.2) ?_
      have h := h _ rfl
      refine jm_iinc (L' := [some (jm_R _), some (jm_R _), some (jm_I _)]) d_X9_markStates_32 rfl rfl (Nat.le_of_ble_eq_true rfl) rfl ?_
      refine jm_goto (tgt := 2) d_X9_markStates_35 (by decide) ?_
      exact h
