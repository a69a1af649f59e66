-- X5_init: by hand (objinit)
/-! ('CombTable$Table', 'clear', '()V') -/
theorem d_X5_clear_0 : decode m_X5_clear.2.1 0 = .ok (.aload_n 0, 1) := by decide +kernel
theorem d_X5_clear_1 : decode m_X5_clear.2.1 1 = .ok (.iconst 0, 1) := by decide +kernel
theorem d_X5_clear_2 : decode m_X5_clear.2.1 2 = .ok (.putfield 41, 3) := by decide +kernel
theorem d_X5_clear_5 : decode m_X5_clear.2.1 5 = .ok (.aload_n 0, 1) := by decide +kernel
theorem d_X5_clear_6 : decode m_X5_clear.2.1 6 = .ok (.iconst 0, 1) := by decide +kernel
theorem d_X5_clear_7 : decode m_X5_clear.2.1 7 = .ok (.putfield 44, 3) := by decide +kernel
theorem d_X5_clear_10 : decode m_X5_clear.2.1 10 = .ok (.aload_n 0, 1) := by decide +kernel
theorem d_X5_clear_11 : decode m_X5_clear.2.1 11 = .ok (.iconst 0, 1) := by decide +kernel
theorem d_X5_clear_12 : decode m_X5_clear.2.1 12 = .ok (.putfield 47, 3) := by decide +kernel
theorem d_X5_clear_15 : decode m_X5_clear.2.1 15 = .ok (.aload_n 0, 1) := by decide +kernel
theorem d_X5_clear_16 : decode m_X5_clear.2.1 16 = .ok (.iconst 0, 1) := by decide +kernel
theorem d_X5_clear_17 : decode m_X5_clear.2.1 17 = .ok (.putfield 50, 3) := by decide +kernel
theorem d_X5_clear_20 : decode m_X5_clear.2.1 20 = .ok (.aload_n 0, 1) := by decide +kernel
theorem d_X5_clear_21 : decode m_X5_clear.2.1 21 = .ok (.iconst 1, 1) := by decide +kernel
theorem d_X5_clear_22 : decode m_X5_clear.2.1 22 = .ok (.putfield 37, 3) := by decide +kernel
theorem d_X5_clear_25 : decode m_X5_clear.2.1 25 = .ok (.aload_n 0, 1) := by decide +kernel
theorem d_X5_clear_26 : decode m_X5_clear.2.1 26 = .ok (.getfield 34, 3) := by decide +kernel
theorem d_X5_clear_29 : decode m_X5_clear.2.1 29 = .ok (.iconst 0, 1) := by decide +kernel
theorem d_X5_clear_30 : decode m_X5_clear.2.1 30 = .ok (.iconst 2, 1) := by decide +kernel
theorem d_X5_clear_31 : decode m_X5_clear.2.1 31 = .ok (.iastore, 1) := by decide +kernel
theorem d_X5_clear_32 : decode m_X5_clear.2.1 32 = .ok (.aload_n 0, 1) := by decide +kernel
theorem d_X5_clear_33 : decode m_X5_clear.2.1 33 = .ok (.iconst 0, 1) := by decide +kernel
theorem d_X5_clear_34 : decode m_X5_clear.2.1 34 = .ok (.putfield 53, 3) := by decide +kernel
theorem d_X5_clear_37 : decode m_X5_clear.2.1 37 = .ok (.aload_n 0, 1) := by decide +kernel
theorem d_X5_clear_38 : decode m_X5_clear.2.1 38 = .ok (.iconst 0, 1) := by decide +kernel
theorem d_X5_clear_39 : decode m_X5_clear.2.1 39 = .ok (.putfield 57, 3) := by decide +kernel
theorem d_X5_clear_42 : decode m_X5_clear.2.1 42 = .ok (.aload_n 0, 1) := by decide +kernel
theorem d_X5_clear_43 : decode m_X5_clear.2.1 43 = .ok (.iconst 0, 1) := by decide +kernel
theorem d_X5_clear_44 : decode m_X5_clear.2.1 44 = .ok (.putfield 60, 3) := by decide +kernel
theorem d_X5_clear_47 : decode m_X5_clear.2.1 47 = .ok (.return_, 1) := by decide +kernel
set_option maxRecDepth 20000 in
theorem e_X5_clear {E : jm_E} {d : Nat} {μ : jm_M} {Q : Option jm_V → jm_M → Prop} {v0 : Int} (h : (∀ v ∈ ([jm_R v0] : List jm_V), jm_ok v) →
  (jm_is jm_N v0 1 5) ∧
  ∀ m2 : jm_M, m2 = (jm_up (jm_up (jm_up (jm_up (jm_up (jm_up μ v0 0 0) v0 1 0) v0 4 0) v0 10 0) v0 11 1) ((v0 + 8)) 0 2) →
  Q none (jm_up (jm_up (jm_up m2 v0 13 0) v0 14 0) v0 15 0)) : jc E m_X5_clear (d + 1) [jm_R v0] μ Q := by
  refine jm_Cl.of2 (by decide +kernel) (L0 := [some (jm_R v0)]) rfl (Nat.le_of_ble_eq_true rfl) (fun hok => ?_)
  have h := h hok
  refine jm_aloadn d_X5_clear_0 rfl ?_
  refine jm_iconst (v := 0) d_X5_clear_1 rfl (jm_okI (by decide) (by decide)) ?_
  obtain ⟨f1, h⟩ := h
  refine jm_putI (k := 0) (ki := 0) cf_X5 (Nat.le_of_ble_eq_true rfl) f_X5_41 d_X5_clear_2 (fun z => absurd z (by decide)) rfl rfl rfl (fun _ => rfl) f1 ?_
  refine jm_aloadn d_X5_clear_5 rfl ?_
  refine jm_iconst (v := 0) d_X5_clear_6 rfl (jm_okI (by decide) (by decide)) ?_
  refine jm_putI (k := 1) (ki := 1) cf_X5 (Nat.le_of_ble_eq_true rfl) f_X5_44 d_X5_clear_7 (fun z => absurd z (by decide)) rfl rfl rfl (fun _ => rfl) f1 ?_
  refine jm_aloadn d_X5_clear_10 rfl ?_
  refine jm_iconst (v := 0) d_X5_clear_11 rfl (jm_okI (by decide) (by decide)) ?_
  refine jm_putI (k := 4) (ki := 4) cf_X5 (Nat.le_of_ble_eq_true rfl) f_X5_47 d_X5_clear_12 (fun z => absurd z (by decide)) rfl rfl rfl (fun _ => rfl) f1 ?_
  refine jm_aloadn d_X5_clear_15 rfl ?_
  refine jm_iconst (v := 0) d_X5_clear_16 rfl (jm_okI (by decide) (by decide)) ?_
  refine jm_putI (k := 10) (ki := 10) cf_X5 (Nat.le_of_ble_eq_true rfl) f_X5_50 d_X5_clear_17 (fun z => absurd z (by decide)) rfl rfl rfl (fun _ => rfl) f1 ?_
  refine jm_aloadn d_X5_clear_20 rfl ?_
  refine jm_iconst (v := 1) d_X5_clear_21 rfl (jm_okI (by decide) (by decide)) ?_
  refine jm_putI (k := 11) (ki := 11) cf_X5 (Nat.le_of_ble_eq_true rfl) f_X5_37 d_X5_clear_22 (fun z => absurd z (by decide)) rfl rfl rfl (fun _ => rfl) f1 ?_
  refine jm_aloadn d_X5_clear_25 rfl ?_
  refine jm_getF (k := 12) (ki := 12) rfl cf_X5 (Nat.le_of_ble_eq_true rfl) f_X5_34 d_X5_clear_26 rfl rfl f1 (fc_5_12 f1) ?_
  refine jm_iconst (v := 0) d_X5_clear_29 rfl (jm_okI (by decide) (by decide)) ?_
  refine jm_iconst (v := 2) d_X5_clear_30 rfl (jm_okI (by decide) (by decide)) ?_
  refine jm_iastore d_X5_clear_31 (xc_5_12 f1 (by decide) (by decide)) ?_
  have h := h _ rfl
  refine jm_aloadn d_X5_clear_32 rfl ?_
  refine jm_iconst (v := 0) d_X5_clear_33 rfl (jm_okI (by decide) (by decide)) ?_
  refine jm_putZ (k := 13) (ki := 13) cf_X5 (Nat.le_of_ble_eq_true rfl) f_X5_53 d_X5_clear_34 (fun z => absurd z (by decide)) rfl rfl rfl (by decide) (fun _ => rfl) f1 ?_
  refine jm_aloadn d_X5_clear_37 rfl ?_
  refine jm_iconst (v := 0) d_X5_clear_38 rfl (jm_okI (by decide) (by decide)) ?_
  refine jm_putZ (k := 14) (ki := 14) cf_X5 (Nat.le_of_ble_eq_true rfl) f_X5_57 d_X5_clear_39 (fun z => absurd z (by decide)) rfl rfl rfl (by decide) (fun _ => rfl) f1 ?_
  refine jm_aloadn d_X5_clear_42 rfl ?_
  refine jm_iconst (v := 0) d_X5_clear_43 rfl (jm_okI (by decide) (by decide)) ?_
  refine jm_putZ (k := 15) (ki := 15) cf_X5 (Nat.le_of_ble_eq_true rfl) f_X5_60 d_X5_clear_44 (fun z => absurd z (by decide)) rfl rfl rfl (by decide) (fun _ => rfl) f1 ?_
  exact jm_ret (o := none) d_X5_clear_47 rfl ⟨Nat.le_refl _, Nat.le_refl _⟩ jm_r_V h rfl
/-! ('CombTable$Table', 'copy', '(LCombTable$Table;)V') -/
theorem d_X5_copy_0 : decode m_X5_copy.2.1 0 = .ok (.aload_n 0, 1) := by decide +kernel
theorem d_X5_copy_1 : decode m_X5_copy.2.1 1 = .ok (.aload_n 1, 1) := by decide +kernel
theorem d_X5_copy_2 : decode m_X5_copy.2.1 2 = .ok (.getfield 41, 3) := by decide +kernel
theorem d_X5_copy_5 : decode m_X5_copy.2.1 5 = .ok (.putfield 41, 3) := by decide +kernel
theorem d_X5_copy_8 : decode m_X5_copy.2.1 8 = .ok (.aload_n 0, 1) := by decide +kernel
theorem d_X5_copy_9 : decode m_X5_copy.2.1 9 = .ok (.aload_n 1, 1) := by decide +kernel
theorem d_X5_copy_10 : decode m_X5_copy.2.1 10 = .ok (.getfield 44, 3) := by decide +kernel
theorem d_X5_copy_13 : decode m_X5_copy.2.1 13 = .ok (.putfield 44, 3) := by decide +kernel
theorem d_X5_copy_16 : decode m_X5_copy.2.1 16 = .ok (.aload_n 1, 1) := by decide +kernel
theorem d_X5_copy_17 : decode m_X5_copy.2.1 17 = .ok (.getfield 11, 3) := by decide +kernel
theorem d_X5_copy_20 : decode m_X5_copy.2.1 20 = .ok (.iconst 0, 1) := by decide +kernel
theorem d_X5_copy_21 : decode m_X5_copy.2.1 21 = .ok (.aload_n 0, 1) := by decide +kernel
theorem d_X5_copy_22 : decode m_X5_copy.2.1 22 = .ok (.getfield 11, 3) := by decide +kernel
theorem d_X5_copy_25 : decode m_X5_copy.2.1 25 = .ok (.iconst 0, 1) := by decide +kernel
theorem d_X5_copy_26 : decode m_X5_copy.2.1 26 = .ok (.bipush 8, 2) := by decide +kernel
theorem d_X5_copy_28 : decode m_X5_copy.2.1 28 = .ok (.invokestatic 63, 3) := by decide +kernel
theorem d_X5_copy_31 : decode m_X5_copy.2.1 31 = .ok (.aload_n 1, 1) := by decide +kernel
theorem d_X5_copy_32 : decode m_X5_copy.2.1 32 = .ok (.getfield 15, 3) := by decide +kernel
theorem d_X5_copy_35 : decode m_X5_copy.2.1 35 = .ok (.iconst 0, 1) := by decide +kernel
theorem d_X5_copy_36 : decode m_X5_copy.2.1 36 = .ok (.aload_n 0, 1) := by decide +kernel
theorem d_X5_copy_37 : decode m_X5_copy.2.1 37 = .ok (.getfield 15, 3) := by decide +kernel
theorem d_X5_copy_40 : decode m_X5_copy.2.1 40 = .ok (.iconst 0, 1) := by decide +kernel
theorem d_X5_copy_41 : decode m_X5_copy.2.1 41 = .ok (.bipush 8, 2) := by decide +kernel
theorem d_X5_copy_43 : decode m_X5_copy.2.1 43 = .ok (.invokestatic 63, 3) := by decide +kernel
theorem d_X5_copy_46 : decode m_X5_copy.2.1 46 = .ok (.aload_n 0, 1) := by decide +kernel
theorem d_X5_copy_47 : decode m_X5_copy.2.1 47 = .ok (.aload_n 1, 1) := by decide +kernel
theorem d_X5_copy_48 : decode m_X5_copy.2.1 48 = .ok (.getfield 47, 3) := by decide +kernel
theorem d_X5_copy_51 : decode m_X5_copy.2.1 51 = .ok (.putfield 47, 3) := by decide +kernel
theorem d_X5_copy_54 : decode m_X5_copy.2.1 54 = .ok (.aload_n 1, 1) := by decide +kernel
theorem d_X5_copy_55 : decode m_X5_copy.2.1 55 = .ok (.getfield 19, 3) := by decide +kernel
theorem d_X5_copy_58 : decode m_X5_copy.2.1 58 = .ok (.iconst 0, 1) := by decide +kernel
theorem d_X5_copy_59 : decode m_X5_copy.2.1 59 = .ok (.aload_n 0, 1) := by decide +kernel
theorem d_X5_copy_60 : decode m_X5_copy.2.1 60 = .ok (.getfield 19, 3) := by decide +kernel
theorem d_X5_copy_63 : decode m_X5_copy.2.1 63 = .ok (.iconst 0, 1) := by decide +kernel
theorem d_X5_copy_64 : decode m_X5_copy.2.1 64 = .ok (.bipush 10, 2) := by decide +kernel
theorem d_X5_copy_66 : decode m_X5_copy.2.1 66 = .ok (.invokestatic 63, 3) := by decide +kernel
theorem d_X5_copy_69 : decode m_X5_copy.2.1 69 = .ok (.aload_n 1, 1) := by decide +kernel
theorem d_X5_copy_70 : decode m_X5_copy.2.1 70 = .ok (.getfield 22, 3) := by decide +kernel
theorem d_X5_copy_73 : decode m_X5_copy.2.1 73 = .ok (.iconst 0, 1) := by decide +kernel
theorem d_X5_copy_74 : decode m_X5_copy.2.1 74 = .ok (.aload_n 0, 1) := by decide +kernel
theorem d_X5_copy_75 : decode m_X5_copy.2.1 75 = .ok (.getfield 22, 3) := by decide +kernel
theorem d_X5_copy_78 : decode m_X5_copy.2.1 78 = .ok (.iconst 0, 1) := by decide +kernel
theorem d_X5_copy_79 : decode m_X5_copy.2.1 79 = .ok (.bipush 10, 2) := by decide +kernel
theorem d_X5_copy_81 : decode m_X5_copy.2.1 81 = .ok (.invokestatic 63, 3) := by decide +kernel
theorem d_X5_copy_84 : decode m_X5_copy.2.1 84 = .ok (.aload_n 1, 1) := by decide +kernel
theorem d_X5_copy_85 : decode m_X5_copy.2.1 85 = .ok (.getfield 25, 3) := by decide +kernel
theorem d_X5_copy_88 : decode m_X5_copy.2.1 88 = .ok (.iconst 0, 1) := by decide +kernel
theorem d_X5_copy_89 : decode m_X5_copy.2.1 89 = .ok (.aload_n 0, 1) := by decide +kernel
theorem d_X5_copy_90 : decode m_X5_copy.2.1 90 = .ok (.getfield 25, 3) := by decide +kernel
theorem d_X5_copy_93 : decode m_X5_copy.2.1 93 = .ok (.iconst 0, 1) := by decide +kernel
theorem d_X5_copy_94 : decode m_X5_copy.2.1 94 = .ok (.bipush 10, 2) := by decide +kernel
theorem d_X5_copy_96 : decode m_X5_copy.2.1 96 = .ok (.invokestatic 63, 3) := by decide +kernel
theorem d_X5_copy_99 : decode m_X5_copy.2.1 99 = .ok (.aload_n 1, 1) := by decide +kernel
theorem d_X5_copy_100 : decode m_X5_copy.2.1 100 = .ok (.getfield 28, 3) := by decide +kernel
theorem d_X5_copy_103 : decode m_X5_copy.2.1 103 = .ok (.iconst 0, 1) := by decide +kernel
theorem d_X5_copy_104 : decode m_X5_copy.2.1 104 = .ok (.aload_n 0, 1) := by decide +kernel
theorem d_X5_copy_105 : decode m_X5_copy.2.1 105 = .ok (.getfield 28, 3) := by decide +kernel
theorem d_X5_copy_108 : decode m_X5_copy.2.1 108 = .ok (.iconst 0, 1) := by decide +kernel
theorem d_X5_copy_109 : decode m_X5_copy.2.1 109 = .ok (.bipush 10, 2) := by decide +kernel
theorem d_X5_copy_111 : decode m_X5_copy.2.1 111 = .ok (.invokestatic 63, 3) := by decide +kernel
theorem d_X5_copy_114 : decode m_X5_copy.2.1 114 = .ok (.aload_n 1, 1) := by decide +kernel
theorem d_X5_copy_115 : decode m_X5_copy.2.1 115 = .ok (.getfield 31, 3) := by decide +kernel
theorem d_X5_copy_118 : decode m_X5_copy.2.1 118 = .ok (.iconst 0, 1) := by decide +kernel
theorem d_X5_copy_119 : decode m_X5_copy.2.1 119 = .ok (.aload_n 0, 1) := by decide +kernel
theorem d_X5_copy_120 : decode m_X5_copy.2.1 120 = .ok (.getfield 31, 3) := by decide +kernel
theorem d_X5_copy_123 : decode m_X5_copy.2.1 123 = .ok (.iconst 0, 1) := by decide +kernel
theorem d_X5_copy_124 : decode m_X5_copy.2.1 124 = .ok (.bipush 10, 2) := by decide +kernel
theorem d_X5_copy_126 : decode m_X5_copy.2.1 126 = .ok (.invokestatic 63, 3) := by decide +kernel
theorem d_X5_copy_129 : decode m_X5_copy.2.1 129 = .ok (.aload_n 0, 1) := by decide +kernel
theorem d_X5_copy_130 : decode m_X5_copy.2.1 130 = .ok (.aload_n 1, 1) := by decide +kernel
theorem d_X5_copy_131 : decode m_X5_copy.2.1 131 = .ok (.getfield 50, 3) := by decide +kernel
theorem d_X5_copy_134 : decode m_X5_copy.2.1 134 = .ok (.putfield 50, 3) := by decide +kernel
theorem d_X5_copy_137 : decode m_X5_copy.2.1 137 = .ok (.aload_n 0, 1) := by decide +kernel
theorem d_X5_copy_138 : decode m_X5_copy.2.1 138 = .ok (.aload_n 1, 1) := by decide +kernel
theorem d_X5_copy_139 : decode m_X5_copy.2.1 139 = .ok (.getfield 37, 3) := by decide +kernel
theorem d_X5_copy_142 : decode m_X5_copy.2.1 142 = .ok (.putfield 37, 3) := by decide +kernel
theorem d_X5_copy_145 : decode m_X5_copy.2.1 145 = .ok (.aload_n 1, 1) := by decide +kernel
theorem d_X5_copy_146 : decode m_X5_copy.2.1 146 = .ok (.getfield 34, 3) := by decide +kernel
theorem d_X5_copy_149 : decode m_X5_copy.2.1 149 = .ok (.iconst 0, 1) := by decide +kernel
theorem d_X5_copy_150 : decode m_X5_copy.2.1 150 = .ok (.aload_n 0, 1) := by decide +kernel
theorem d_X5_copy_151 : decode m_X5_copy.2.1 151 = .ok (.getfield 34, 3) := by decide +kernel
theorem d_X5_copy_154 : decode m_X5_copy.2.1 154 = .ok (.iconst 0, 1) := by decide +kernel
theorem d_X5_copy_155 : decode m_X5_copy.2.1 155 = .ok (.bipush 6, 2) := by decide +kernel
theorem d_X5_copy_157 : decode m_X5_copy.2.1 157 = .ok (.invokestatic 63, 3) := by decide +kernel
theorem d_X5_copy_160 : decode m_X5_copy.2.1 160 = .ok (.aload_n 0, 1) := by decide +kernel
theorem d_X5_copy_161 : decode m_X5_copy.2.1 161 = .ok (.aload_n 1, 1) := by decide +kernel
theorem d_X5_copy_162 : decode m_X5_copy.2.1 162 = .ok (.getfield 53, 3) := by decide +kernel
theorem d_X5_copy_165 : decode m_X5_copy.2.1 165 = .ok (.putfield 53, 3) := by decide +kernel
theorem d_X5_copy_168 : decode m_X5_copy.2.1 168 = .ok (.aload_n 0, 1) := by decide +kernel
theorem d_X5_copy_169 : decode m_X5_copy.2.1 169 = .ok (.aload_n 1, 1) := by decide +kernel
theorem d_X5_copy_170 : decode m_X5_copy.2.1 170 = .ok (.getfield 57, 3) := by decide +kernel
theorem d_X5_copy_173 : decode m_X5_copy.2.1 173 = .ok (.putfield 57, 3) := by decide +kernel
theorem d_X5_copy_176 : decode m_X5_copy.2.1 176 = .ok (.aload_n 0, 1) := by decide +kernel
theorem d_X5_copy_177 : decode m_X5_copy.2.1 177 = .ok (.aload_n 1, 1) := by decide +kernel
theorem d_X5_copy_178 : decode m_X5_copy.2.1 178 = .ok (.getfield 60, 3) := by decide +kernel
theorem d_X5_copy_181 : decode m_X5_copy.2.1 181 = .ok (.putfield 60, 3) := by decide +kernel
theorem d_X5_copy_184 : decode m_X5_copy.2.1 184 = .ok (.return_, 1) := by decide +kernel
set_option maxRecDepth 20000 in
theorem e_X5_copy {E : jm_E} {d : Nat} {μ : jm_M} {Q : Option jm_V → jm_M → Prop} {v0 v1 : Int} (h : (∀ v ∈ ([jm_R v0, jm_R v1] : List jm_V), jm_ok v) →
  (jm_is jm_N v1 1 5) ∧
  (jm_is jm_N v0 1 5) ∧
  ∀ m3 : jm_M, m3 = jm_cpy (jm_up (jm_up μ v0 0 (μ v1 0)) v0 1 (μ v1 1)) ((v1 + 1)) 0 ((v0 + 1)) 0 8 →
  ∀ m4 : jm_M, m4 = jm_cpy m3 ((v1 + 2)) 0 ((v0 + 2)) 0 8 →
  ∀ m5 : jm_M, m5 = jm_cpy (jm_up m4 v0 4 (m4 v1 4)) ((v1 + 3)) 0 ((v0 + 3)) 0 10 →
  ∀ m6 : jm_M, m6 = jm_cpy m5 ((v1 + 4)) 0 ((v0 + 4)) 0 10 →
  ∀ m7 : jm_M, m7 = jm_cpy m6 ((v1 + 5)) 0 ((v0 + 5)) 0 10 →
  ∀ m8 : jm_M, m8 = jm_cpy m7 ((v1 + 6)) 0 ((v0 + 6)) 0 10 →
  ∀ m9 : jm_M, m9 = jm_cpy m8 ((v1 + 7)) 0 ((v0 + 7)) 0 10 →
  ∀ m10 : jm_M, m10 = jm_cpy (jm_up (jm_up m9 v0 10 (m9 v1 10)) v0 11 (m9 v1 11)) ((v1 + 8)) 0 ((v0 + 8)) 0 6 →
  (m10 v1 13 = 0 ∨ m10 v1 13 = 1) ∧
  (m10 v1 14 = 0 ∨ m10 v1 14 = 1) ∧
  (m10 v1 15 = 0 ∨ m10 v1 15 = 1) ∧
  Q none (jm_up (jm_up (jm_up m10 v0 13 (m10 v1 13)) v0 14 (m10 v1 14)) v0 15 (m10 v1 15))) : jc E m_X5_copy (d + 1) [jm_R v0, jm_R v1] μ Q := by
  refine jm_Cl.of2 (by decide +kernel) (L0 := [some (jm_R v0), some (jm_R v1)]) rfl (Nat.le_of_ble_eq_true rfl) (fun hok => ?_)
  have h := h hok
  refine jm_aloadn d_X5_copy_0 rfl ?_
  refine jm_aloadn d_X5_copy_1 rfl ?_
  obtain ⟨f1, h⟩ := h
  refine jm_getI (k := 0) (ki := 0) cf_X5 (Nat.le_of_ble_eq_true rfl) f_X5_41 d_X5_copy_2 rfl rfl f1 rfl ?_
  obtain ⟨f2, h⟩ := h
  refine jm_putI (k := 0) (ki := 0) cf_X5 (Nat.le_of_ble_eq_true rfl) f_X5_41 d_X5_copy_5 (fun z => absurd z (by decide)) rfl rfl rfl (fun _ => rfl) f2 ?_
  refine jm_aloadn d_X5_copy_8 rfl ?_
  refine jm_aloadn d_X5_copy_9 rfl ?_
  refine jm_getI (k := 1) (ki := 1) cf_X5 (Nat.le_of_ble_eq_true rfl) f_X5_44 d_X5_copy_10 rfl rfl f1 ((jm_up_i (by decide)).trans rfl) ?_
  refine jm_putI (k := 1) (ki := 1) cf_X5 (Nat.le_of_ble_eq_true rfl) f_X5_44 d_X5_copy_13 (fun z => absurd z (by decide)) rfl rfl rfl (fun _ => rfl) f2 ?_
  refine jm_aloadn d_X5_copy_16 rfl ?_
  refine jm_getF (k := 2) (ki := 2) rfl cf_X5 (Nat.le_of_ble_eq_true rfl) f_X5_11 d_X5_copy_17 rfl rfl f1 (fc_5_2 f1) ?_
  refine jm_iconst (v := 0) d_X5_copy_20 rfl (jm_okI (by decide) (by decide)) ?_
  refine jm_aloadn d_X5_copy_21 rfl ?_
  refine jm_getF (k := 2) (ki := 2) rfl cf_X5 (Nat.le_of_ble_eq_true rfl) f_X5_11 d_X5_copy_22 rfl rfl f2 (fc_5_2 f2) ?_
  refine jm_iconst (v := 0) d_X5_copy_25 rfl (jm_okI (by decide) (by decide)) ?_
  refine jm_bipush (v := 8) d_X5_copy_26 rfl (jm_okI (by decide) (by decide)) ?_
  refine jm_acpl ⟨by decide, (ac_5_2 f1).1, by rw [(ac_5_2 f1).2]; decide, (ac_5_2 f2).1, by rw [(ac_5_2 f2).2]; decide⟩ l_X5_63 d_X5_copy_28 ?_
  have h := h _ rfl
  refine jm_aloadn d_X5_copy_31 rfl ?_
  refine jm_getF (k := 3) (ki := 3) rfl cf_X5 (Nat.le_of_ble_eq_true rfl) f_X5_15 d_X5_copy_32 rfl rfl f1 (fc_5_3 f1) ?_
  refine jm_iconst (v := 0) d_X5_copy_35 rfl (jm_okI (by decide) (by decide)) ?_
  refine jm_aloadn d_X5_copy_36 rfl ?_
  refine jm_getF (k := 3) (ki := 3) rfl cf_X5 (Nat.le_of_ble_eq_true rfl) f_X5_15 d_X5_copy_37 rfl rfl f2 (fc_5_3 f2) ?_
  refine jm_iconst (v := 0) d_X5_copy_40 rfl (jm_okI (by decide) (by decide)) ?_
  refine jm_bipush (v := 8) d_X5_copy_41 rfl (jm_okI (by decide) (by decide)) ?_
  refine jm_acp ⟨by decide, (ac_5_3 f1).1, by rw [(ac_5_3 f1).2]; decide, (ac_5_3 f2).1, by rw [(ac_5_3 f2).2]; decide⟩ l_X5_63 d_X5_copy_43 ?_
  have h := h _ rfl
  refine jm_aloadn d_X5_copy_46 rfl ?_
  refine jm_aloadn d_X5_copy_47 rfl ?_
  refine jm_getI (k := 4) (ki := 4) cf_X5 (Nat.le_of_ble_eq_true rfl) f_X5_47 d_X5_copy_48 rfl rfl f1 rfl ?_
  refine jm_putI (k := 4) (ki := 4) cf_X5 (Nat.le_of_ble_eq_true rfl) f_X5_47 d_X5_copy_51 (fun z => absurd z (by decide)) rfl rfl rfl (fun _ => rfl) f2 ?_
  refine jm_aloadn d_X5_copy_54 rfl ?_
  refine jm_getF (k := 5) (ki := 5) rfl cf_X5 (Nat.le_of_ble_eq_true rfl) f_X5_19 d_X5_copy_55 rfl rfl f1 (fc_5_5 f1) ?_
  refine jm_iconst (v := 0) d_X5_copy_58 rfl (jm_okI (by decide) (by decide)) ?_
  refine jm_aloadn d_X5_copy_59 rfl ?_
  refine jm_getF (k := 5) (ki := 5) rfl cf_X5 (Nat.le_of_ble_eq_true rfl) f_X5_19 d_X5_copy_60 rfl rfl f2 (fc_5_5 f2) ?_
  refine jm_iconst (v := 0) d_X5_copy_63 rfl (jm_okI (by decide) (by decide)) ?_
  refine jm_bipush (v := 10) d_X5_copy_64 rfl (jm_okI (by decide) (by decide)) ?_
  refine jm_acpl ⟨by decide, (ac_5_5 f1).1, by rw [(ac_5_5 f1).2]; decide, (ac_5_5 f2).1, by rw [(ac_5_5 f2).2]; decide⟩ l_X5_63 d_X5_copy_66 ?_
  have h := h _ rfl
  refine jm_aloadn d_X5_copy_69 rfl ?_
  refine jm_getF (k := 6) (ki := 6) rfl cf_X5 (Nat.le_of_ble_eq_true rfl) f_X5_22 d_X5_copy_70 rfl rfl f1 (fc_5_6 f1) ?_
  refine jm_iconst (v := 0) d_X5_copy_73 rfl (jm_okI (by decide) (by decide)) ?_
  refine jm_aloadn d_X5_copy_74 rfl ?_
  refine jm_getF (k := 6) (ki := 6) rfl cf_X5 (Nat.le_of_ble_eq_true rfl) f_X5_22 d_X5_copy_75 rfl rfl f2 (fc_5_6 f2) ?_
  refine jm_iconst (v := 0) d_X5_copy_78 rfl (jm_okI (by decide) (by decide)) ?_
  refine jm_bipush (v := 10) d_X5_copy_79 rfl (jm_okI (by decide) (by decide)) ?_
  refine jm_acp ⟨by decide, (ac_5_6 f1).1, by rw [(ac_5_6 f1).2]; decide, (ac_5_6 f2).1, by rw [(ac_5_6 f2).2]; decide⟩ l_X5_63 d_X5_copy_81 ?_
  have h := h _ rfl
  refine jm_aloadn d_X5_copy_84 rfl ?_
  refine jm_getF (k := 7) (ki := 7) rfl cf_X5 (Nat.le_of_ble_eq_true rfl) f_X5_25 d_X5_copy_85 rfl rfl f1 (fc_5_7 f1) ?_
  refine jm_iconst (v := 0) d_X5_copy_88 rfl (jm_okI (by decide) (by decide)) ?_
  refine jm_aloadn d_X5_copy_89 rfl ?_
  refine jm_getF (k := 7) (ki := 7) rfl cf_X5 (Nat.le_of_ble_eq_true rfl) f_X5_25 d_X5_copy_90 rfl rfl f2 (fc_5_7 f2) ?_
  refine jm_iconst (v := 0) d_X5_copy_93 rfl (jm_okI (by decide) (by decide)) ?_
  refine jm_bipush (v := 10) d_X5_copy_94 rfl (jm_okI (by decide) (by decide)) ?_
  refine jm_acp ⟨by decide, (ac_5_7 f1).1, by rw [(ac_5_7 f1).2]; decide, (ac_5_7 f2).1, by rw [(ac_5_7 f2).2]; decide⟩ l_X5_63 d_X5_copy_96 ?_
  have h := h _ rfl
  refine jm_aloadn d_X5_copy_99 rfl ?_
  refine jm_getF (k := 8) (ki := 8) rfl cf_X5 (Nat.le_of_ble_eq_true rfl) f_X5_28 d_X5_copy_100 rfl rfl f1 (fc_5_8 f1) ?_
  refine jm_iconst (v := 0) d_X5_copy_103 rfl (jm_okI (by decide) (by decide)) ?_
  refine jm_aloadn d_X5_copy_104 rfl ?_
  refine jm_getF (k := 8) (ki := 8) rfl cf_X5 (Nat.le_of_ble_eq_true rfl) f_X5_28 d_X5_copy_105 rfl rfl f2 (fc_5_8 f2) ?_
  refine jm_iconst (v := 0) d_X5_copy_108 rfl (jm_okI (by decide) (by decide)) ?_
  refine jm_bipush (v := 10) d_X5_copy_109 rfl (jm_okI (by decide) (by decide)) ?_
  refine jm_acp ⟨by decide, (ac_5_8 f1).1, by rw [(ac_5_8 f1).2]; decide, (ac_5_8 f2).1, by rw [(ac_5_8 f2).2]; decide⟩ l_X5_63 d_X5_copy_111 ?_
  have h := h _ rfl
  refine jm_aloadn d_X5_copy_114 rfl ?_
  refine jm_getF (k := 9) (ki := 9) rfl cf_X5 (Nat.le_of_ble_eq_true rfl) f_X5_31 d_X5_copy_115 rfl rfl f1 (fc_5_9 f1) ?_
  refine jm_iconst (v := 0) d_X5_copy_118 rfl (jm_okI (by decide) (by decide)) ?_
  refine jm_aloadn d_X5_copy_119 rfl ?_
  refine jm_getF (k := 9) (ki := 9) rfl cf_X5 (Nat.le_of_ble_eq_true rfl) f_X5_31 d_X5_copy_120 rfl rfl f2 (fc_5_9 f2) ?_
  refine jm_iconst (v := 0) d_X5_copy_123 rfl (jm_okI (by decide) (by decide)) ?_
  refine jm_bipush (v := 10) d_X5_copy_124 rfl (jm_okI (by decide) (by decide)) ?_
  refine jm_acp ⟨by decide, (ac_5_9 f1).1, by rw [(ac_5_9 f1).2]; decide, (ac_5_9 f2).1, by rw [(ac_5_9 f2).2]; decide⟩ l_X5_63 d_X5_copy_126 ?_
  have h := h _ rfl
  refine jm_aloadn d_X5_copy_129 rfl ?_
  refine jm_aloadn d_X5_copy_130 rfl ?_
  refine jm_getI (k := 10) (ki := 10) cf_X5 (Nat.le_of_ble_eq_true rfl) f_X5_50 d_X5_copy_131 rfl rfl f1 rfl ?_
  refine jm_putI (k := 10) (ki := 10) cf_X5 (Nat.le_of_ble_eq_true rfl) f_X5_50 d_X5_copy_134 (fun z => absurd z (by decide)) rfl rfl rfl (fun _ => rfl) f2 ?_
  refine jm_aloadn d_X5_copy_137 rfl ?_
  refine jm_aloadn d_X5_copy_138 rfl ?_
  refine jm_getI (k := 11) (ki := 11) cf_X5 (Nat.le_of_ble_eq_true rfl) f_X5_37 d_X5_copy_139 rfl rfl f1 ((jm_up_i (by decide)).trans rfl) ?_
  refine jm_putI (k := 11) (ki := 11) cf_X5 (Nat.le_of_ble_eq_true rfl) f_X5_37 d_X5_copy_142 (fun z => absurd z (by decide)) rfl rfl rfl (fun _ => rfl) f2 ?_
  refine jm_aloadn d_X5_copy_145 rfl ?_
  refine jm_getF (k := 12) (ki := 12) rfl cf_X5 (Nat.le_of_ble_eq_true rfl) f_X5_34 d_X5_copy_146 rfl rfl f1 (fc_5_12 f1) ?_
  refine jm_iconst (v := 0) d_X5_copy_149 rfl (jm_okI (by decide) (by decide)) ?_
  refine jm_aloadn d_X5_copy_150 rfl ?_
  refine jm_getF (k := 12) (ki := 12) rfl cf_X5 (Nat.le_of_ble_eq_true rfl) f_X5_34 d_X5_copy_151 rfl rfl f2 (fc_5_12 f2) ?_
  refine jm_iconst (v := 0) d_X5_copy_154 rfl (jm_okI (by decide) (by decide)) ?_
  refine jm_bipush (v := 6) d_X5_copy_155 rfl (jm_okI (by decide) (by decide)) ?_
  refine jm_acp ⟨by decide, (ac_5_12 f1).1, by rw [(ac_5_12 f1).2]; decide, (ac_5_12 f2).1, by rw [(ac_5_12 f2).2]; decide⟩ l_X5_63 d_X5_copy_157 ?_
  have h := h _ rfl
  refine jm_aloadn d_X5_copy_160 rfl ?_
  refine jm_aloadn d_X5_copy_161 rfl ?_
  refine jm_getI (k := 13) (ki := 13) cf_X5 (Nat.le_of_ble_eq_true rfl) f_X5_53 d_X5_copy_162 rfl rfl f1 rfl ?_
  obtain ⟨f11, h⟩ := h
  refine jm_putZ (k := 13) (ki := 13) cf_X5 (Nat.le_of_ble_eq_true rfl) f_X5_53 d_X5_copy_165 (fun z => absurd z (by decide)) rfl rfl rfl f11 (fun _ => rfl) f2 ?_
  refine jm_aloadn d_X5_copy_168 rfl ?_
  refine jm_aloadn d_X5_copy_169 rfl ?_
  refine jm_getI (k := 14) (ki := 14) cf_X5 (Nat.le_of_ble_eq_true rfl) f_X5_57 d_X5_copy_170 rfl rfl f1 ((jm_up_i (by decide)).trans rfl) ?_
  obtain ⟨f12, h⟩ := h
  refine jm_putZ (k := 14) (ki := 14) cf_X5 (Nat.le_of_ble_eq_true rfl) f_X5_57 d_X5_copy_173 (fun z => absurd z (by decide)) rfl rfl rfl f12 (fun _ => rfl) f2 ?_
  refine jm_aloadn d_X5_copy_176 rfl ?_
  refine jm_aloadn d_X5_copy_177 rfl ?_
  refine jm_getI (k := 15) (ki := 15) cf_X5 (Nat.le_of_ble_eq_true rfl) f_X5_60 d_X5_copy_178 rfl rfl f1 ((jm_up_i (by decide)).trans ((jm_up_i (by decide)).trans rfl)) ?_
  obtain ⟨f13, h⟩ := h
  refine jm_putZ (k := 15) (ki := 15) cf_X5 (Nat.le_of_ble_eq_true rfl) f_X5_60 d_X5_copy_181 (fun z => absurd z (by decide)) rfl rfl rfl f13 (fun _ => rfl) f2 ?_
  exact jm_ret (o := none) d_X5_copy_184 rfl ⟨Nat.le_refl _, Nat.le_refl _⟩ jm_r_V h rfl
/-! ('CombTable$Table', 'hasWho', '(I)Z') -/
theorem d_X5_hasWho_0 : decode m_X5_hasWho.2.1 0 = .ok (.iload_n 1, 1) := by decide +kernel
theorem d_X5_hasWho_1 : decode m_X5_hasWho.2.1 1 = .ok (.ifCond .lt 21, 3) := by decide +kernel
theorem d_X5_hasWho_4 : decode m_X5_hasWho.2.1 4 = .ok (.iload_n 1, 1) := by decide +kernel
theorem d_X5_hasWho_5 : decode m_X5_hasWho.2.1 5 = .ok (.aload_n 0, 1) := by decide +kernel
theorem d_X5_hasWho_6 : decode m_X5_hasWho.2.1 6 = .ok (.getfield 44, 3) := by decide +kernel
theorem d_X5_hasWho_9 : decode m_X5_hasWho.2.1 9 = .ok (.if_icmp .ge 13, 3) := by decide +kernel
theorem d_X5_hasWho_12 : decode m_X5_hasWho.2.1 12 = .ok (.iload_n 1, 1) := by decide +kernel
theorem d_X5_hasWho_13 : decode m_X5_hasWho.2.1 13 = .ok (.bipush 8, 2) := by decide +kernel
theorem d_X5_hasWho_15 : decode m_X5_hasWho.2.1 15 = .ok (.if_icmp .ge 7, 3) := by decide +kernel
theorem d_X5_hasWho_18 : decode m_X5_hasWho.2.1 18 = .ok (.iconst 1, 1) := by decide +kernel
theorem d_X5_hasWho_19 : decode m_X5_hasWho.2.1 19 = .ok (.goto 4, 3) := by decide +kernel
theorem d_X5_hasWho_22 : decode m_X5_hasWho.2.1 22 = .ok (.iconst 0, 1) := by decide +kernel
theorem d_X5_hasWho_23 : decode m_X5_hasWho.2.1 23 = .ok (.ireturn, 1) := by decide +kernel
set_option maxRecDepth 20000 in
theorem e_X5_hasWho {E : jm_E} {d : Nat} {μ : jm_M} {Q : Option jm_V → jm_M → Prop} {v0 v1 : Int} (h : (∀ v ∈ ([jm_R v0, jm_I v1] : List jm_V), jm_ok v) →
  ((v1 < 0 →
    Q (some (jm_I 0)) μ) ∧
   (¬ (v1 < 0) →
    (jm_is jm_N v0 1 5) ∧
    ((μ v0 1 ≤ v1 →
      Q (some (jm_I 0)) μ) ∧
     (¬ (μ v0 1 ≤ v1) →
      ((8 ≤ v1 →
        Q (some (jm_I 0)) μ) ∧
       (¬ (8 ≤ v1) →
        Q (some (jm_I 1)) μ))))))) : jc E m_X5_hasWho (d + 1) [jm_R v0, jm_I v1] μ Q := by
  refine jm_Cl.of2 (by decide +kernel) (L0 := [some (jm_R v0), some (jm_I v1)]) rfl (Nat.le_of_ble_eq_true rfl) (fun hok => ?_)
  have h := h hok
  refine jm_iloadn d_X5_hasWho_0 rfl ?_
  refine jm_if_lt (tgt := 22) d_X5_hasWho_1 (by decide) (fun c1 => ?_) (fun c1 => ?_)
  · have h := h.1 c1
    refine jm_iconst (v := 0) d_X5_hasWho_22 rfl (jm_okI (by decide) (by decide)) ?_
    exact jm_ret (o := some (jm_I _)) d_X5_hasWho_23 rfl ⟨Nat.le_refl _, Nat.le_refl _⟩ (jm_r_Z (by decide)) h rfl
  · have h := h.2 c1
    refine jm_iloadn d_X5_hasWho_4 rfl ?_
    refine jm_aloadn d_X5_hasWho_5 rfl ?_
    obtain ⟨f2, h⟩ := h
    refine jm_getI (k := 1) (ki := 1) cf_X5 (Nat.le_of_ble_eq_true rfl) f_X5_44 d_X5_hasWho_6 rfl rfl f2 rfl ?_
    refine jm_icmp_ge (tgt := 22) d_X5_hasWho_9 (by decide) (fun c3 => ?_) (fun c3 => ?_)
    · have h := h.1 c3
      refine jm_iconst (v := 0) d_X5_hasWho_22 rfl (jm_okI (by decide) (by decide)) ?_
      exact jm_ret (o := some (jm_I _)) d_X5_hasWho_23 rfl ⟨Nat.le_refl _, Nat.le_refl _⟩ (jm_r_Z (by decide)) h rfl
    · have h := h.2 c3
      refine jm_iloadn d_X5_hasWho_12 rfl ?_
      refine jm_bipush (v := 8) d_X5_hasWho_13 rfl (jm_okI (by decide) (by decide)) ?_
      refine jm_icmp_ge (tgt := 22) d_X5_hasWho_15 (by decide) (fun c4 => ?_) (fun c4 => ?_)
      · have h := h.1 c4
        refine jm_iconst (v := 0) d_X5_hasWho_22 rfl (jm_okI (by decide) (by decide)) ?_
        exact jm_ret (o := some (jm_I _)) d_X5_hasWho_23 rfl ⟨Nat.le_refl _, Nat.le_refl _⟩ (jm_r_Z (by decide)) h rfl
      · have h := h.2 c4
        refine jm_iconst (v := 1) d_X5_hasWho_18 rfl (jm_okI (by decide) (by decide)) ?_
        refine jm_goto (tgt := 23) d_X5_hasWho_19 (by decide) ?_
        exact jm_ret (o := some (jm_I _)) d_X5_hasWho_23 rfl ⟨Nat.le_refl _, Nat.le_refl _⟩ (jm_r_Z (by decide)) h rfl
/-! ('CombTable$Table', 'hasKind', '(I)Z') -/
theorem d_X5_hasKind_0 : decode m_X5_hasKind.2.1 0 = .ok (.iload_n 1, 1) := by decide +kernel
theorem d_X5_hasKind_1 : decode m_X5_hasKind.2.1 1 = .ok (.ifCond .lt 21, 3) := by decide +kernel
theorem d_X5_hasKind_4 : decode m_X5_hasKind.2.1 4 = .ok (.iload_n 1, 1) := by decide +kernel
theorem d_X5_hasKind_5 : decode m_X5_hasKind.2.1 5 = .ok (.aload_n 0, 1) := by decide +kernel
theorem d_X5_hasKind_6 : decode m_X5_hasKind.2.1 6 = .ok (.getfield 47, 3) := by decide +kernel
theorem d_X5_hasKind_9 : decode m_X5_hasKind.2.1 9 = .ok (.if_icmp .ge 13, 3) := by decide +kernel
theorem d_X5_hasKind_12 : decode m_X5_hasKind.2.1 12 = .ok (.iload_n 1, 1) := by decide +kernel
theorem d_X5_hasKind_13 : decode m_X5_hasKind.2.1 13 = .ok (.bipush 10, 2) := by decide +kernel
theorem d_X5_hasKind_15 : decode m_X5_hasKind.2.1 15 = .ok (.if_icmp .ge 7, 3) := by decide +kernel
theorem d_X5_hasKind_18 : decode m_X5_hasKind.2.1 18 = .ok (.iconst 1, 1) := by decide +kernel
theorem d_X5_hasKind_19 : decode m_X5_hasKind.2.1 19 = .ok (.goto 4, 3) := by decide +kernel
theorem d_X5_hasKind_22 : decode m_X5_hasKind.2.1 22 = .ok (.iconst 0, 1) := by decide +kernel
theorem d_X5_hasKind_23 : decode m_X5_hasKind.2.1 23 = .ok (.ireturn, 1) := by decide +kernel
set_option maxRecDepth 20000 in
theorem e_X5_hasKind {E : jm_E} {d : Nat} {μ : jm_M} {Q : Option jm_V → jm_M → Prop} {v0 v1 : Int} (h : (∀ v ∈ ([jm_R v0, jm_I v1] : List jm_V), jm_ok v) →
  ((v1 < 0 →
    Q (some (jm_I 0)) μ) ∧
   (¬ (v1 < 0) →
    (jm_is jm_N v0 1 5) ∧
    ((μ v0 4 ≤ v1 →
      Q (some (jm_I 0)) μ) ∧
     (¬ (μ v0 4 ≤ v1) →
      ((10 ≤ v1 →
        Q (some (jm_I 0)) μ) ∧
       (¬ (10 ≤ v1) →
        Q (some (jm_I 1)) μ))))))) : jc E m_X5_hasKind (d + 1) [jm_R v0, jm_I v1] μ Q := by
  refine jm_Cl.of2 (by decide +kernel) (L0 := [some (jm_R v0), some (jm_I v1)]) rfl (Nat.le_of_ble_eq_true rfl) (fun hok => ?_)
  have h := h hok
  refine jm_iloadn d_X5_hasKind_0 rfl ?_
  refine jm_if_lt (tgt := 22) d_X5_hasKind_1 (by decide) (fun c1 => ?_) (fun c1 => ?_)
  · have h := h.1 c1
    refine jm_iconst (v := 0) d_X5_hasKind_22 rfl (jm_okI (by decide) (by decide)) ?_
    exact jm_ret (o := some (jm_I _)) d_X5_hasKind_23 rfl ⟨Nat.le_refl _, Nat.le_refl _⟩ (jm_r_Z (by decide)) h rfl
  · have h := h.2 c1
    refine jm_iloadn d_X5_hasKind_4 rfl ?_
    refine jm_aloadn d_X5_hasKind_5 rfl ?_
    obtain ⟨f2, h⟩ := h
    refine jm_getI (k := 4) (ki := 4) cf_X5 (Nat.le_of_ble_eq_true rfl) f_X5_47 d_X5_hasKind_6 rfl rfl f2 rfl ?_
    refine jm_icmp_ge (tgt := 22) d_X5_hasKind_9 (by decide) (fun c3 => ?_) (fun c3 => ?_)
    · have h := h.1 c3
      refine jm_iconst (v := 0) d_X5_hasKind_22 rfl (jm_okI (by decide) (by decide)) ?_
      exact jm_ret (o := some (jm_I _)) d_X5_hasKind_23 rfl ⟨Nat.le_refl _, Nat.le_refl _⟩ (jm_r_Z (by decide)) h rfl
    · have h := h.2 c3
      refine jm_iloadn d_X5_hasKind_12 rfl ?_
      refine jm_bipush (v := 10) d_X5_hasKind_13 rfl (jm_okI (by decide) (by decide)) ?_
      refine jm_icmp_ge (tgt := 22) d_X5_hasKind_15 (by decide) (fun c4 => ?_) (fun c4 => ?_)
      · have h := h.1 c4
        refine jm_iconst (v := 0) d_X5_hasKind_22 rfl (jm_okI (by decide) (by decide)) ?_
        exact jm_ret (o := some (jm_I _)) d_X5_hasKind_23 rfl ⟨Nat.le_refl _, Nat.le_refl _⟩ (jm_r_Z (by decide)) h rfl
      · have h := h.2 c4
        refine jm_iconst (v := 1) d_X5_hasKind_18 rfl (jm_okI (by decide) (by decide)) ?_
        refine jm_goto (tgt := 23) d_X5_hasKind_19 (by decide) ?_
        exact jm_ret (o := some (jm_I _)) d_X5_hasKind_23 rfl ⟨Nat.le_refl _, Nat.le_refl _⟩ (jm_r_Z (by decide)) h rfl
/-! ('CombTable$Table', 'whoNamed', '(J)I') -/
theorem d_X5_whoNamed_0 : decode m_X5_whoNamed.2.1 0 = .ok (.iconst 0, 1) := by decide +kernel
theorem d_X5_whoNamed_1 : decode m_X5_whoNamed.2.1 1 = .ok (.istore_n 3, 1) := by decide +kernel
theorem d_X5_whoNamed_2 : decode m_X5_whoNamed.2.1 2 = .ok (.iload_n 3, 1) := by decide +kernel
theorem d_X5_whoNamed_3 : decode m_X5_whoNamed.2.1 3 = .ok (.aload_n 0, 1) := by decide +kernel
theorem d_X5_whoNamed_4 : decode m_X5_whoNamed.2.1 4 = .ok (.getfield 44, 3) := by decide +kernel
theorem d_X5_whoNamed_7 : decode m_X5_whoNamed.2.1 7 = .ok (.if_icmp .ge 28, 3) := by decide +kernel
theorem d_X5_whoNamed_10 : decode m_X5_whoNamed.2.1 10 = .ok (.iload_n 3, 1) := by decide +kernel
theorem d_X5_whoNamed_11 : decode m_X5_whoNamed.2.1 11 = .ok (.bipush 8, 2) := by decide +kernel
theorem d_X5_whoNamed_13 : decode m_X5_whoNamed.2.1 13 = .ok (.if_icmp .ge 22, 3) := by decide +kernel
theorem d_X5_whoNamed_16 : decode m_X5_whoNamed.2.1 16 = .ok (.aload_n 0, 1) := by decide +kernel
theorem d_X5_whoNamed_17 : decode m_X5_whoNamed.2.1 17 = .ok (.getfield 11, 3) := by decide +kernel
theorem d_X5_whoNamed_20 : decode m_X5_whoNamed.2.1 20 = .ok (.iload_n 3, 1) := by decide +kernel
theorem d_X5_whoNamed_21 : decode m_X5_whoNamed.2.1 21 = .ok (.laload, 1) := by decide +kernel
theorem d_X5_whoNamed_22 : decode m_X5_whoNamed.2.1 22 = .ok (.lload_n 1, 1) := by decide +kernel
theorem d_X5_whoNamed_23 : decode m_X5_whoNamed.2.1 23 = .ok (.lcmp, 1) := by decide +kernel
theorem d_X5_whoNamed_24 : decode m_X5_whoNamed.2.1 24 = .ok (.ifCond .ne 5, 3) := by decide +kernel
theorem d_X5_whoNamed_27 : decode m_X5_whoNamed.2.1 27 = .ok (.iload_n 3, 1) := by decide +kernel
theorem d_X5_whoNamed_28 : decode m_X5_whoNamed.2.1 28 = .ok (.ireturn, 1) := by decide +kernel
theorem d_X5_whoNamed_29 : decode m_X5_whoNamed.2.1 29 = .ok (.iinc 3 1, 3) := by decide +kernel
theorem d_X5_whoNamed_32 : decode m_X5_whoNamed.2.1 32 = .ok (.goto (-30), 3) := by decide +kernel
theorem d_X5_whoNamed_35 : decode m_X5_whoNamed.2.1 35 = .ok (.iconst (-1), 1) := by decide +kernel
theorem d_X5_whoNamed_36 : decode m_X5_whoNamed.2.1 36 = .ok (.ireturn, 1) := by decide +kernel
set_option maxRecDepth 20000 in
theorem e_X5_whoNamed {E : jm_E} {d : Nat} {μ : jm_M} {Q : Option jm_V → jm_M → Prop} {v0 v1 : Int} (h : (∀ v ∈ ([jm_R v0, jm_L v1] : List jm_V), jm_ok v) →
  jg E m_X5_whoNamed d 2 [some (jm_R v0), some (jm_L v1), none, some (jm_I 0)] [] μ Q) : jc E m_X5_whoNamed (d + 1) [jm_R v0, jm_L v1] μ Q := by
  refine jm_Cl.of2 (by decide +kernel) (L0 := [some (jm_R v0), some (jm_L v1), none, none]) rfl (Nat.le_of_ble_eq_true rfl) (fun hok => ?_)
  have h := h hok
  refine jm_iconst (v := 0) d_X5_whoNamed_0 rfl (jm_okI (by decide) (by decide)) ?_
  refine jm_istoren (L' := [some (jm_R _), some (jm_L _), none, some (jm_I _)]) d_X5_whoNamed_1 (Nat.le_of_ble_eq_true rfl) rfl ?_
  exact h
set_option maxRecDepth 20000 in
theorem r_X5_whoNamed_2 {E : jm_E} {d : Nat} {μ : jm_M} {Q : Option jm_V → jm_M → Prop} {v0 v1 v3 : Int} (h :
  (jm_is jm_N v0 1 5) ∧
  ((μ v0 1 ≤ v3 →
    Q (some (jm_I ((-1)))) μ) ∧
   (¬ (μ v0 1 ≤ v3) →
    ((8 ≤ v3 →
      Q (some (jm_I ((-1)))) μ) ∧
     (¬ (8 ≤ v3) →
      (0 ≤ v3 ∧ v3 < 8) ∧
      (((jm_cmp (μ ((v0 + 1)) v3) v1) ≠ 0 →
        jg E m_X5_whoNamed d 2 [some (jm_R v0), some (jm_L v1), none, some (jm_I (jm_wr (v3 + 1)))] [] μ Q) ∧
       (¬ ((jm_cmp (μ ((v0 + 1)) v3) v1) ≠ 0) →
        Q (some (jm_I v3)) μ))))))) : jg E m_X5_whoNamed d 2 [some (jm_R v0), some (jm_L v1), none, some (jm_I v3)] [] μ Q := by
  refine jm_iloadn d_X5_whoNamed_2 rfl ?_
  refine jm_aloadn d_X5_whoNamed_3 rfl ?_
  obtain ⟨f1, h⟩ := h
  refine jm_getI (k := 1) (ki := 1) cf_X5 (Nat.le_of_ble_eq_true rfl) f_X5_44 d_X5_whoNamed_4 rfl rfl f1 rfl ?_
  refine jm_icmp_ge (tgt := 35) d_X5_whoNamed_7 (by decide) (fun c2 => ?_) (fun c2 => ?_)
  · have h := h.1 c2
    refine jm_iconst (v := (-1)) d_X5_whoNamed_35 rfl (jm_okI (by decide) (by decide)) ?_
    exact jm_ret (o := some (jm_I _)) d_X5_whoNamed_36 rfl ⟨Nat.le_refl _, Nat.le_refl _⟩ jm_r_I h rfl
  · have h := h.2 c2
    refine jm_iloadn d_X5_whoNamed_10 rfl ?_
    refine jm_bipush (v := 8) d_X5_whoNamed_11 rfl (jm_okI (by decide) (by decide)) ?_
    refine jm_icmp_ge (tgt := 35) d_X5_whoNamed_13 (by decide) (fun c3 => ?_) (fun c3 => ?_)
    · have h := h.1 c3
      refine jm_iconst (v := (-1)) d_X5_whoNamed_35 rfl (jm_okI (by decide) (by decide)) ?_
      exact jm_ret (o := some (jm_I _)) d_X5_whoNamed_36 rfl ⟨Nat.le_refl _, Nat.le_refl _⟩ jm_r_I h rfl
    · have h := h.2 c3
      refine jm_aloadn d_X5_whoNamed_16 rfl ?_
      refine jm_getF (k := 2) (ki := 2) rfl cf_X5 (Nat.le_of_ble_eq_true rfl) f_X5_11 d_X5_whoNamed_17 rfl rfl f1 (fc_5_2 f1) ?_
      refine jm_iloadn d_X5_whoNamed_20 rfl ?_
      obtain ⟨f4, h⟩ := h
      refine jm_laload d_X5_whoNamed_21 (xc_5_2 f1 f4.1 f4.2) ?_
      refine jm_lloadn d_X5_whoNamed_22 rfl ?_
      refine jm_lcmp d_X5_whoNamed_23 ?_
      refine jm_if_ne (tgt := 29) d_X5_whoNamed_24 (by decide) (fun c5 => ?_) (fun c5 => ?_)
      · have h := h.1 c5
        refine jm_iinc (L' := [some (jm_R _), some (jm_L _), none, some (jm_I _)]) d_X5_whoNamed_29 rfl rfl (Nat.le_of_ble_eq_true rfl) rfl ?_
        refine jm_goto (tgt := 2) d_X5_whoNamed_32 (by decide) ?_
        exact h
      · have h := h.2 c5
        refine jm_iloadn d_X5_whoNamed_27 rfl ?_
        exact jm_ret (o := some (jm_I _)) d_X5_whoNamed_28 rfl ⟨Nat.le_refl _, Nat.le_refl _⟩ jm_r_I h rfl
/-! ('CombTable$Table', 'kindNamed', '(J)I') -/
theorem d_X5_kindNamed_0 : decode m_X5_kindNamed.2.1 0 = .ok (.iconst 0, 1) := by decide +kernel
theorem d_X5_kindNamed_1 : decode m_X5_kindNamed.2.1 1 = .ok (.istore_n 3, 1) := by decide +kernel
theorem d_X5_kindNamed_2 : decode m_X5_kindNamed.2.1 2 = .ok (.iload_n 3, 1) := by decide +kernel
theorem d_X5_kindNamed_3 : decode m_X5_kindNamed.2.1 3 = .ok (.aload_n 0, 1) := by decide +kernel
theorem d_X5_kindNamed_4 : decode m_X5_kindNamed.2.1 4 = .ok (.getfield 47, 3) := by decide +kernel
theorem d_X5_kindNamed_7 : decode m_X5_kindNamed.2.1 7 = .ok (.if_icmp .ge 28, 3) := by decide +kernel
theorem d_X5_kindNamed_10 : decode m_X5_kindNamed.2.1 10 = .ok (.iload_n 3, 1) := by decide +kernel
theorem d_X5_kindNamed_11 : decode m_X5_kindNamed.2.1 11 = .ok (.bipush 10, 2) := by decide +kernel
theorem d_X5_kindNamed_13 : decode m_X5_kindNamed.2.1 13 = .ok (.if_icmp .ge 22, 3) := by decide +kernel
theorem d_X5_kindNamed_16 : decode m_X5_kindNamed.2.1 16 = .ok (.aload_n 0, 1) := by decide +kernel
theorem d_X5_kindNamed_17 : decode m_X5_kindNamed.2.1 17 = .ok (.getfield 19, 3) := by decide +kernel
theorem d_X5_kindNamed_20 : decode m_X5_kindNamed.2.1 20 = .ok (.iload_n 3, 1) := by decide +kernel
theorem d_X5_kindNamed_21 : decode m_X5_kindNamed.2.1 21 = .ok (.laload, 1) := by decide +kernel
theorem d_X5_kindNamed_22 : decode m_X5_kindNamed.2.1 22 = .ok (.lload_n 1, 1) := by decide +kernel
theorem d_X5_kindNamed_23 : decode m_X5_kindNamed.2.1 23 = .ok (.lcmp, 1) := by decide +kernel
theorem d_X5_kindNamed_24 : decode m_X5_kindNamed.2.1 24 = .ok (.ifCond .ne 5, 3) := by decide +kernel
theorem d_X5_kindNamed_27 : decode m_X5_kindNamed.2.1 27 = .ok (.iload_n 3, 1) := by decide +kernel
theorem d_X5_kindNamed_28 : decode m_X5_kindNamed.2.1 28 = .ok (.ireturn, 1) := by decide +kernel
theorem d_X5_kindNamed_29 : decode m_X5_kindNamed.2.1 29 = .ok (.iinc 3 1, 3) := by decide +kernel
theorem d_X5_kindNamed_32 : decode m_X5_kindNamed.2.1 32 = .ok (.goto (-30), 3) := by decide +kernel
theorem d_X5_kindNamed_35 : decode m_X5_kindNamed.2.1 35 = .ok (.iconst (-1), 1) := by decide +kernel
theorem d_X5_kindNamed_36 : decode m_X5_kindNamed.2.1 36 = .ok (.ireturn, 1) := by decide +kernel
set_option maxRecDepth 20000 in
theorem e_X5_kindNamed {E : jm_E} {d : Nat} {μ : jm_M} {Q : Option jm_V → jm_M → Prop} {v0 v1 : Int} (h : (∀ v ∈ ([jm_R v0, jm_L v1] : List jm_V), jm_ok v) →
  jg E m_X5_kindNamed d 2 [some (jm_R v0), some (jm_L v1), none, some (jm_I 0)] [] μ Q) : jc E m_X5_kindNamed (d + 1) [jm_R v0, jm_L v1] μ Q := by
  refine jm_Cl.of2 (by decide +kernel) (L0 := [some (jm_R v0), some (jm_L v1), none, none]) rfl (Nat.le_of_ble_eq_true rfl) (fun hok => ?_)
  have h := h hok
  refine jm_iconst (v := 0) d_X5_kindNamed_0 rfl (jm_okI (by decide) (by decide)) ?_
  refine jm_istoren (L' := [some (jm_R _), some (jm_L _), none, some (jm_I _)]) d_X5_kindNamed_1 (Nat.le_of_ble_eq_true rfl) rfl ?_
  exact h
set_option maxRecDepth 20000 in
theorem r_X5_kindNamed_2 {E : jm_E} {d : Nat} {μ : jm_M} {Q : Option jm_V → jm_M → Prop} {v0 v1 v3 : Int} (h :
  (jm_is jm_N v0 1 5) ∧
  ((μ v0 4 ≤ v3 →
    Q (some (jm_I ((-1)))) μ) ∧
   (¬ (μ v0 4 ≤ v3) →
    ((10 ≤ v3 →
      Q (some (jm_I ((-1)))) μ) ∧
     (¬ (10 ≤ v3) →
      (0 ≤ v3 ∧ v3 < 10) ∧
      (((jm_cmp (μ ((v0 + 3)) v3) v1) ≠ 0 →
        jg E m_X5_kindNamed d 2 [some (jm_R v0), some (jm_L v1), none, some (jm_I (jm_wr (v3 + 1)))] [] μ Q) ∧
       (¬ ((jm_cmp (μ ((v0 + 3)) v3) v1) ≠ 0) →
        Q (some (jm_I v3)) μ))))))) : jg E m_X5_kindNamed d 2 [some (jm_R v0), some (jm_L v1), none, some (jm_I v3)] [] μ Q := by
  refine jm_iloadn d_X5_kindNamed_2 rfl ?_
  refine jm_aloadn d_X5_kindNamed_3 rfl ?_
  obtain ⟨f1, h⟩ := h
  refine jm_getI (k := 4) (ki := 4) cf_X5 (Nat.le_of_ble_eq_true rfl) f_X5_47 d_X5_kindNamed_4 rfl rfl f1 rfl ?_
  refine jm_icmp_ge (tgt := 35) d_X5_kindNamed_7 (by decide) (fun c2 => ?_) (fun c2 => ?_)
  · have h := h.1 c2
    refine jm_iconst (v := (-1)) d_X5_kindNamed_35 rfl (jm_okI (by decide) (by decide)) ?_
    exact jm_ret (o := some (jm_I _)) d_X5_kindNamed_36 rfl ⟨Nat.le_refl _, Nat.le_refl _⟩ jm_r_I h rfl
  · have h := h.2 c2
    refine jm_iloadn d_X5_kindNamed_10 rfl ?_
    refine jm_bipush (v := 10) d_X5_kindNamed_11 rfl (jm_okI (by decide) (by decide)) ?_
    refine jm_icmp_ge (tgt := 35) d_X5_kindNamed_13 (by decide) (fun c3 => ?_) (fun c3 => ?_)
    · have h := h.1 c3
      refine jm_iconst (v := (-1)) d_X5_kindNamed_35 rfl (jm_okI (by decide) (by decide)) ?_
      exact jm_ret (o := some (jm_I _)) d_X5_kindNamed_36 rfl ⟨Nat.le_refl _, Nat.le_refl _⟩ jm_r_I h rfl
    · have h := h.2 c3
      refine jm_aloadn d_X5_kindNamed_16 rfl ?_
      refine jm_getF (k := 5) (ki := 5) rfl cf_X5 (Nat.le_of_ble_eq_true rfl) f_X5_19 d_X5_kindNamed_17 rfl rfl f1 (fc_5_5 f1) ?_
      refine jm_iloadn d_X5_kindNamed_20 rfl ?_
      obtain ⟨f4, h⟩ := h
      refine jm_laload d_X5_kindNamed_21 (xc_5_5 f1 f4.1 f4.2) ?_
      refine jm_lloadn d_X5_kindNamed_22 rfl ?_
      refine jm_lcmp d_X5_kindNamed_23 ?_
      refine jm_if_ne (tgt := 29) d_X5_kindNamed_24 (by decide) (fun c5 => ?_) (fun c5 => ?_)
      · have h := h.1 c5
        refine jm_iinc (L' := [some (jm_R _), some (jm_L _), none, some (jm_I _)]) d_X5_kindNamed_29 rfl rfl (Nat.le_of_ble_eq_true rfl) rfl ?_
        refine jm_goto (tgt := 2) d_X5_kindNamed_32 (by decide) ?_
        exact h
      · have h := h.2 c5
        refine jm_iloadn d_X5_kindNamed_27 rfl ?_
        exact jm_ret (o := some (jm_I _)) d_X5_kindNamed_28 rfl ⟨Nat.le_refl _, Nat.le_refl _⟩ jm_r_I h rfl
/-! ('CombTable$Table', 'mayAnswer', '(II)Z') -/
theorem d_X5_mayAnswer_0 : decode m_X5_mayAnswer.2.1 0 = .ok (.aload_n 0, 1) := by decide +kernel
theorem d_X5_mayAnswer_1 : decode m_X5_mayAnswer.2.1 1 = .ok (.iload_n 1, 1) := by decide +kernel
theorem d_X5_mayAnswer_2 : decode m_X5_mayAnswer.2.1 2 = .ok (.invokevirtual 69, 3) := by decide +kernel
theorem d_X5_mayAnswer_5 : decode m_X5_mayAnswer.2.1 5 = .ok (.ifCond .eq 28, 3) := by decide +kernel
theorem d_X5_mayAnswer_8 : decode m_X5_mayAnswer.2.1 8 = .ok (.aload_n 0, 1) := by decide +kernel
theorem d_X5_mayAnswer_9 : decode m_X5_mayAnswer.2.1 9 = .ok (.iload_n 2, 1) := by decide +kernel
theorem d_X5_mayAnswer_10 : decode m_X5_mayAnswer.2.1 10 = .ok (.invokevirtual 69, 3) := by decide +kernel
theorem d_X5_mayAnswer_13 : decode m_X5_mayAnswer.2.1 13 = .ok (.ifCond .eq 20, 3) := by decide +kernel
theorem d_X5_mayAnswer_16 : decode m_X5_mayAnswer.2.1 16 = .ok (.aload_n 0, 1) := by decide +kernel
theorem d_X5_mayAnswer_17 : decode m_X5_mayAnswer.2.1 17 = .ok (.getfield 31, 3) := by decide +kernel
theorem d_X5_mayAnswer_20 : decode m_X5_mayAnswer.2.1 20 = .ok (.iload_n 1, 1) := by decide +kernel
theorem d_X5_mayAnswer_21 : decode m_X5_mayAnswer.2.1 21 = .ok (.iaload, 1) := by decide +kernel
theorem d_X5_mayAnswer_22 : decode m_X5_mayAnswer.2.1 22 = .ok (.iload_n 2, 1) := by decide +kernel
theorem d_X5_mayAnswer_23 : decode m_X5_mayAnswer.2.1 23 = .ok (.ishr, 1) := by decide +kernel
theorem d_X5_mayAnswer_24 : decode m_X5_mayAnswer.2.1 24 = .ok (.iconst 1, 1) := by decide +kernel
theorem d_X5_mayAnswer_25 : decode m_X5_mayAnswer.2.1 25 = .ok (.iand, 1) := by decide +kernel
theorem d_X5_mayAnswer_26 : decode m_X5_mayAnswer.2.1 26 = .ok (.ifCond .eq 7, 3) := by decide +kernel
theorem d_X5_mayAnswer_29 : decode m_X5_mayAnswer.2.1 29 = .ok (.iconst 1, 1) := by decide +kernel
theorem d_X5_mayAnswer_30 : decode m_X5_mayAnswer.2.1 30 = .ok (.goto 4, 3) := by decide +kernel
theorem d_X5_mayAnswer_33 : decode m_X5_mayAnswer.2.1 33 = .ok (.iconst 0, 1) := by decide +kernel
theorem d_X5_mayAnswer_34 : decode m_X5_mayAnswer.2.1 34 = .ok (.ireturn, 1) := by decide +kernel
set_option maxRecDepth 20000 in
theorem e_X5_mayAnswer {E : jm_E} {d : Nat} {μ : jm_M} {Q : Option jm_V → jm_M → Prop} {v0 v1 v2 : Int} (h : (∀ v ∈ ([jm_R v0, jm_I v1, jm_I v2] : List jm_V), jm_ok v) →
  (jm_is jm_N v0 1 5) ∧
  jc E m_X5_hasKind d [jm_R v0, jm_I v1] μ (fun (o : Option jm_V) (m1 : jm_M) => ∀ r3 : Int, o = some (jm_I r3) → (r3 = 0 ∨ r3 = 1) →
  ((r3 = 0 →
    Q (some (jm_I 0)) m1) ∧
   (¬ (r3 = 0) →
    jc E m_X5_hasKind d [jm_R v0, jm_I v2] m1 (fun (o : Option jm_V) (m6 : jm_M) => ∀ r7 : Int, o = some (jm_I r7) → (r7 = 0 ∨ r7 = 1) →
    ((r7 = 0 →
      Q (some (jm_I 0)) m6) ∧
     (¬ (r7 = 0) →
      (0 ≤ v1 ∧ v1 < 10) ∧
      (((jm_and (jm_shr (m6 ((v0 + 7)) v1) v2) 1) = 0 →
        Q (some (jm_I 0)) m6) ∧
       (¬ ((jm_and (jm_shr (m6 ((v0 + 7)) v1) v2) 1) = 0) →
        Q (some (jm_I 1)) m6))))))))) : jc E m_X5_mayAnswer (d + 1) [jm_R v0, jm_I v1, jm_I v2] μ Q := by
  refine jm_Cl.of2 (by decide +kernel) (L0 := [some (jm_R v0), some (jm_I v1), some (jm_I v2)]) rfl (Nat.le_of_ble_eq_true rfl) (fun hok => ?_)
  have h := h hok
  refine jm_aloadn d_X5_mayAnswer_0 rfl ?_
  refine jm_iloadn d_X5_mayAnswer_1 rfl ?_
  obtain ⟨f2, h⟩ := h
  refine jm_invV (n1 := jm_N) (mc := 0) (ms := 0) (av := [jm_I _]) w_X5_hasKind l_X5_69 d_X5_mayAnswer_2 rfl f2 ⟨_, _, rfl⟩ ⟨Nat.le_refl _, Nat.le_refl _⟩ (Nat.le_of_ble_eq_true rfl) rfl ?_
  refine jm_Cl.mono h (fun o m1 h hr _ => ?_)
  obtain ⟨r3, rfl, z4⟩ := jm_rokZ hr
  have h := h _ rfl z4
  refine jm_if_eq (tgt := 33) d_X5_mayAnswer_5 (by decide) (fun c5 => ?_) (fun c5 => ?_)
  · have h := h.1 c5
    refine jm_iconst (v := 0) d_X5_mayAnswer_33 rfl (jm_okI (by decide) (by decide)) ?_
    exact jm_ret (o := some (jm_I _)) d_X5_mayAnswer_34 rfl ⟨Nat.le_refl _, Nat.le_refl _⟩ (jm_r_Z (by decide)) h rfl
  · have h := h.2 c5
    refine jm_aloadn d_X5_mayAnswer_8 rfl ?_
    refine jm_iloadn d_X5_mayAnswer_9 rfl ?_
    refine jm_invV (n1 := jm_N) (mc := 0) (ms := 0) (av := [jm_I _]) w_X5_hasKind l_X5_69 d_X5_mayAnswer_10 rfl f2 ⟨_, _, rfl⟩ ⟨Nat.le_refl _, Nat.le_refl _⟩ (Nat.le_of_ble_eq_true rfl) rfl ?_
    refine jm_Cl.mono h (fun o m6 h hr _ => ?_)
    obtain ⟨r7, rfl, z8⟩ := jm_rokZ hr
    have h := h _ rfl z8
    refine jm_if_eq (tgt := 33) d_X5_mayAnswer_13 (by decide) (fun c9 => ?_) (fun c9 => ?_)
    · have h := h.1 c9
      refine jm_iconst (v := 0) d_X5_mayAnswer_33 rfl (jm_okI (by decide) (by decide)) ?_
      exact jm_ret (o := some (jm_I _)) d_X5_mayAnswer_34 rfl ⟨Nat.le_refl _, Nat.le_refl _⟩ (jm_r_Z (by decide)) h rfl
    · have h := h.2 c9
      refine jm_aloadn d_X5_mayAnswer_16 rfl ?_
      refine jm_getF (k := 9) (ki := 9) rfl cf_X5 (Nat.le_of_ble_eq_true rfl) f_X5_31 d_X5_mayAnswer_17 rfl rfl f2 (fc_5_9 f2) ?_
      refine jm_iloadn d_X5_mayAnswer_20 rfl ?_
      obtain ⟨f10, h⟩ := h
      refine jm_iaload d_X5_mayAnswer_21 (xc_5_9 f2 f10.1 f10.2) ?_
      refine jm_iloadn d_X5_mayAnswer_22 rfl ?_
      refine jm_ishr d_X5_mayAnswer_23 ?_
      refine jm_iconst (v := 1) d_X5_mayAnswer_24 rfl (jm_okI (by decide) (by decide)) ?_
      refine jm_iand d_X5_mayAnswer_25 ?_
      refine jm_if_eq (tgt := 33) d_X5_mayAnswer_26 (by decide) (fun c11 => ?_) (fun c11 => ?_)
      · have h := h.1 c11
        refine jm_iconst (v := 0) d_X5_mayAnswer_33 rfl (jm_okI (by decide) (by decide)) ?_
        exact jm_ret (o := some (jm_I _)) d_X5_mayAnswer_34 rfl ⟨Nat.le_refl _, Nat.le_refl _⟩ (jm_r_Z (by decide)) h rfl
      · have h := h.2 c11
        refine jm_iconst (v := 1) d_X5_mayAnswer_29 rfl (jm_okI (by decide) (by decide)) ?_
        refine jm_goto (tgt := 34) d_X5_mayAnswer_30 (by decide) ?_
        exact jm_ret (o := some (jm_I _)) d_X5_mayAnswer_34 rfl ⟨Nat.le_refl _, Nat.le_refl _⟩ (jm_r_Z (by decide)) h rfl
/-! ('CombTable$Table', 'openingOf', '(I)I') -/
theorem d_X5_openingOf_0 : decode m_X5_openingOf.2.1 0 = .ok (.iload_n 1, 1) := by decide +kernel
theorem d_X5_openingOf_1 : decode m_X5_openingOf.2.1 1 = .ok (.ifCond .lt 18, 3) := by decide +kernel
theorem d_X5_openingOf_4 : decode m_X5_openingOf.2.1 4 = .ok (.iload_n 1, 1) := by decide +kernel
theorem d_X5_openingOf_5 : decode m_X5_openingOf.2.1 5 = .ok (.bipush 10, 2) := by decide +kernel
theorem d_X5_openingOf_7 : decode m_X5_openingOf.2.1 7 = .ok (.if_icmp .ge 12, 3) := by decide +kernel
theorem d_X5_openingOf_10 : decode m_X5_openingOf.2.1 10 = .ok (.aload_n 0, 1) := by decide +kernel
theorem d_X5_openingOf_11 : decode m_X5_openingOf.2.1 11 = .ok (.getfield 22, 3) := by decide +kernel
theorem d_X5_openingOf_14 : decode m_X5_openingOf.2.1 14 = .ok (.iload_n 1, 1) := by decide +kernel
theorem d_X5_openingOf_15 : decode m_X5_openingOf.2.1 15 = .ok (.iaload, 1) := by decide +kernel
theorem d_X5_openingOf_16 : decode m_X5_openingOf.2.1 16 = .ok (.goto 4, 3) := by decide +kernel
theorem d_X5_openingOf_19 : decode m_X5_openingOf.2.1 19 = .ok (.iconst 0, 1) := by decide +kernel
theorem d_X5_openingOf_20 : decode m_X5_openingOf.2.1 20 = .ok (.ireturn, 1) := by decide +kernel
set_option maxRecDepth 20000 in
theorem e_X5_openingOf {E : jm_E} {d : Nat} {μ : jm_M} {Q : Option jm_V → jm_M → Prop} {v0 v1 : Int} (h : (∀ v ∈ ([jm_R v0, jm_I v1] : List jm_V), jm_ok v) →
  ((v1 < 0 →
    Q (some (jm_I 0)) μ) ∧
   (¬ (v1 < 0) →
    ((10 ≤ v1 →
      Q (some (jm_I 0)) μ) ∧
     (¬ (10 ≤ v1) →
      (jm_is jm_N v0 1 5) ∧
      (0 ≤ v1 ∧ v1 < 10) ∧
      Q (some (jm_I (μ ((v0 + 4)) v1))) μ))))) : jc E m_X5_openingOf (d + 1) [jm_R v0, jm_I v1] μ Q := by
  refine jm_Cl.of2 (by decide +kernel) (L0 := [some (jm_R v0), some (jm_I v1)]) rfl (Nat.le_of_ble_eq_true rfl) (fun hok => ?_)
  have h := h hok
  refine jm_iloadn d_X5_openingOf_0 rfl ?_
  refine jm_if_lt (tgt := 19) d_X5_openingOf_1 (by decide) (fun c1 => ?_) (fun c1 => ?_)
  · have h := h.1 c1
    refine jm_iconst (v := 0) d_X5_openingOf_19 rfl (jm_okI (by decide) (by decide)) ?_
    exact jm_ret (o := some (jm_I _)) d_X5_openingOf_20 rfl ⟨Nat.le_refl _, Nat.le_refl _⟩ jm_r_I h rfl
  · have h := h.2 c1
    refine jm_iloadn d_X5_openingOf_4 rfl ?_
    refine jm_bipush (v := 10) d_X5_openingOf_5 rfl (jm_okI (by decide) (by decide)) ?_
    refine jm_icmp_ge (tgt := 19) d_X5_openingOf_7 (by decide) (fun c2 => ?_) (fun c2 => ?_)
    · have h := h.1 c2
      refine jm_iconst (v := 0) d_X5_openingOf_19 rfl (jm_okI (by decide) (by decide)) ?_
      exact jm_ret (o := some (jm_I _)) d_X5_openingOf_20 rfl ⟨Nat.le_refl _, Nat.le_refl _⟩ jm_r_I h rfl
    · have h := h.2 c2
      refine jm_aloadn d_X5_openingOf_10 rfl ?_
      obtain ⟨f3, h⟩ := h
      refine jm_getF (k := 6) (ki := 6) rfl cf_X5 (Nat.le_of_ble_eq_true rfl) f_X5_22 d_X5_openingOf_11 rfl rfl f3 (fc_5_6 f3) ?_
      refine jm_iloadn d_X5_openingOf_14 rfl ?_
      obtain ⟨f4, h⟩ := h
      refine jm_iaload d_X5_openingOf_15 (xc_5_6 f3 f4.1 f4.2) ?_
      refine jm_goto (tgt := 20) d_X5_openingOf_16 (by decide) ?_
      exact jm_ret (o := some (jm_I _)) d_X5_openingOf_20 rfl ⟨Nat.le_refl _, Nat.le_refl _⟩ jm_r_I h rfl
/-! ('CombTable$Table', 'doingOf', '(I)I') -/
theorem d_X5_doingOf_0 : decode m_X5_doingOf.2.1 0 = .ok (.iload_n 1, 1) := by decide +kernel
theorem d_X5_doingOf_1 : decode m_X5_doingOf.2.1 1 = .ok (.ifCond .lt 18, 3) := by decide +kernel
theorem d_X5_doingOf_4 : decode m_X5_doingOf.2.1 4 = .ok (.iload_n 1, 1) := by decide +kernel
theorem d_X5_doingOf_5 : decode m_X5_doingOf.2.1 5 = .ok (.bipush 10, 2) := by decide +kernel
theorem d_X5_doingOf_7 : decode m_X5_doingOf.2.1 7 = .ok (.if_icmp .ge 12, 3) := by decide +kernel
theorem d_X5_doingOf_10 : decode m_X5_doingOf.2.1 10 = .ok (.aload_n 0, 1) := by decide +kernel
theorem d_X5_doingOf_11 : decode m_X5_doingOf.2.1 11 = .ok (.getfield 25, 3) := by decide +kernel
theorem d_X5_doingOf_14 : decode m_X5_doingOf.2.1 14 = .ok (.iload_n 1, 1) := by decide +kernel
theorem d_X5_doingOf_15 : decode m_X5_doingOf.2.1 15 = .ok (.iaload, 1) := by decide +kernel
theorem d_X5_doingOf_16 : decode m_X5_doingOf.2.1 16 = .ok (.goto 4, 3) := by decide +kernel
theorem d_X5_doingOf_19 : decode m_X5_doingOf.2.1 19 = .ok (.iconst 0, 1) := by decide +kernel
theorem d_X5_doingOf_20 : decode m_X5_doingOf.2.1 20 = .ok (.ireturn, 1) := by decide +kernel
set_option maxRecDepth 20000 in
theorem e_X5_doingOf {E : jm_E} {d : Nat} {μ : jm_M} {Q : Option jm_V → jm_M → Prop} {v0 v1 : Int} (h : (∀ v ∈ ([jm_R v0, jm_I v1] : List jm_V), jm_ok v) →
  ((v1 < 0 →
    Q (some (jm_I 0)) μ) ∧
   (¬ (v1 < 0) →
    ((10 ≤ v1 →
      Q (some (jm_I 0)) μ) ∧
     (¬ (10 ≤ v1) →
      (jm_is jm_N v0 1 5) ∧
      (0 ≤ v1 ∧ v1 < 10) ∧
      Q (some (jm_I (μ ((v0 + 5)) v1))) μ))))) : jc E m_X5_doingOf (d + 1) [jm_R v0, jm_I v1] μ Q := by
  refine jm_Cl.of2 (by decide +kernel) (L0 := [some (jm_R v0), some (jm_I v1)]) rfl (Nat.le_of_ble_eq_true rfl) (fun hok => ?_)
  have h := h hok
  refine jm_iloadn d_X5_doingOf_0 rfl ?_
  refine jm_if_lt (tgt := 19) d_X5_doingOf_1 (by decide) (fun c1 => ?_) (fun c1 => ?_)
  · have h := h.1 c1
    refine jm_iconst (v := 0) d_X5_doingOf_19 rfl (jm_okI (by decide) (by decide)) ?_
    exact jm_ret (o := some (jm_I _)) d_X5_doingOf_20 rfl ⟨Nat.le_refl _, Nat.le_refl _⟩ jm_r_I h rfl
  · have h := h.2 c1
    refine jm_iloadn d_X5_doingOf_4 rfl ?_
    refine jm_bipush (v := 10) d_X5_doingOf_5 rfl (jm_okI (by decide) (by decide)) ?_
    refine jm_icmp_ge (tgt := 19) d_X5_doingOf_7 (by decide) (fun c2 => ?_) (fun c2 => ?_)
    · have h := h.1 c2
      refine jm_iconst (v := 0) d_X5_doingOf_19 rfl (jm_okI (by decide) (by decide)) ?_
      exact jm_ret (o := some (jm_I _)) d_X5_doingOf_20 rfl ⟨Nat.le_refl _, Nat.le_refl _⟩ jm_r_I h rfl
    · have h := h.2 c2
      refine jm_aloadn d_X5_doingOf_10 rfl ?_
      obtain ⟨f3, h⟩ := h
      refine jm_getF (k := 7) (ki := 7) rfl cf_X5 (Nat.le_of_ble_eq_true rfl) f_X5_25 d_X5_doingOf_11 rfl rfl f3 (fc_5_7 f3) ?_
      refine jm_iloadn d_X5_doingOf_14 rfl ?_
      obtain ⟨f4, h⟩ := h
      refine jm_iaload d_X5_doingOf_15 (xc_5_7 f3 f4.1 f4.2) ?_
      refine jm_goto (tgt := 20) d_X5_doingOf_16 (by decide) ?_
      exact jm_ret (o := some (jm_I _)) d_X5_doingOf_20 rfl ⟨Nat.le_refl _, Nat.le_refl _⟩ jm_r_I h rfl
/-! ('CombTable$Table', 'spanOf', '(I)I') -/
theorem d_X5_spanOf_0 : decode m_X5_spanOf.2.1 0 = .ok (.iload_n 1, 1) := by decide +kernel
theorem d_X5_spanOf_1 : decode m_X5_spanOf.2.1 1 = .ok (.ifCond .lt 18, 3) := by decide +kernel
theorem d_X5_spanOf_4 : decode m_X5_spanOf.2.1 4 = .ok (.iload_n 1, 1) := by decide +kernel
theorem d_X5_spanOf_5 : decode m_X5_spanOf.2.1 5 = .ok (.bipush 10, 2) := by decide +kernel
theorem d_X5_spanOf_7 : decode m_X5_spanOf.2.1 7 = .ok (.if_icmp .ge 12, 3) := by decide +kernel
theorem d_X5_spanOf_10 : decode m_X5_spanOf.2.1 10 = .ok (.aload_n 0, 1) := by decide +kernel
theorem d_X5_spanOf_11 : decode m_X5_spanOf.2.1 11 = .ok (.getfield 28, 3) := by decide +kernel
theorem d_X5_spanOf_14 : decode m_X5_spanOf.2.1 14 = .ok (.iload_n 1, 1) := by decide +kernel
theorem d_X5_spanOf_15 : decode m_X5_spanOf.2.1 15 = .ok (.iaload, 1) := by decide +kernel
theorem d_X5_spanOf_16 : decode m_X5_spanOf.2.1 16 = .ok (.goto 4, 3) := by decide +kernel
theorem d_X5_spanOf_19 : decode m_X5_spanOf.2.1 19 = .ok (.iconst 0, 1) := by decide +kernel
theorem d_X5_spanOf_20 : decode m_X5_spanOf.2.1 20 = .ok (.ireturn, 1) := by decide +kernel
set_option maxRecDepth 20000 in
theorem e_X5_spanOf {E : jm_E} {d : Nat} {μ : jm_M} {Q : Option jm_V → jm_M → Prop} {v0 v1 : Int} (h : (∀ v ∈ ([jm_R v0, jm_I v1] : List jm_V), jm_ok v) →
  ((v1 < 0 →
    Q (some (jm_I 0)) μ) ∧
   (¬ (v1 < 0) →
    ((10 ≤ v1 →
      Q (some (jm_I 0)) μ) ∧
     (¬ (10 ≤ v1) →
      (jm_is jm_N v0 1 5) ∧
      (0 ≤ v1 ∧ v1 < 10) ∧
      Q (some (jm_I (μ ((v0 + 6)) v1))) μ))))) : jc E m_X5_spanOf (d + 1) [jm_R v0, jm_I v1] μ Q := by
  refine jm_Cl.of2 (by decide +kernel) (L0 := [some (jm_R v0), some (jm_I v1)]) rfl (Nat.le_of_ble_eq_true rfl) (fun hok => ?_)
  have h := h hok
  refine jm_iloadn d_X5_spanOf_0 rfl ?_
  refine jm_if_lt (tgt := 19) d_X5_spanOf_1 (by decide) (fun c1 => ?_) (fun c1 => ?_)
  · have h := h.1 c1
    refine jm_iconst (v := 0) d_X5_spanOf_19 rfl (jm_okI (by decide) (by decide)) ?_
    exact jm_ret (o := some (jm_I _)) d_X5_spanOf_20 rfl ⟨Nat.le_refl _, Nat.le_refl _⟩ jm_r_I h rfl
  · have h := h.2 c1
    refine jm_iloadn d_X5_spanOf_4 rfl ?_
    refine jm_bipush (v := 10) d_X5_spanOf_5 rfl (jm_okI (by decide) (by decide)) ?_
    refine jm_icmp_ge (tgt := 19) d_X5_spanOf_7 (by decide) (fun c2 => ?_) (fun c2 => ?_)
    · have h := h.1 c2
      refine jm_iconst (v := 0) d_X5_spanOf_19 rfl (jm_okI (by decide) (by decide)) ?_
      exact jm_ret (o := some (jm_I _)) d_X5_spanOf_20 rfl ⟨Nat.le_refl _, Nat.le_refl _⟩ jm_r_I h rfl
    · have h := h.2 c2
      refine jm_aloadn d_X5_spanOf_10 rfl ?_
      obtain ⟨f3, h⟩ := h
      refine jm_getF (k := 8) (ki := 8) rfl cf_X5 (Nat.le_of_ble_eq_true rfl) f_X5_28 d_X5_spanOf_11 rfl rfl f3 (fc_5_8 f3) ?_
      refine jm_iloadn d_X5_spanOf_14 rfl ?_
      obtain ⟨f4, h⟩ := h
      refine jm_iaload d_X5_spanOf_15 (xc_5_8 f3 f4.1 f4.2) ?_
      refine jm_goto (tgt := 20) d_X5_spanOf_16 (by decide) ?_
      exact jm_ret (o := some (jm_I _)) d_X5_spanOf_20 rfl ⟨Nat.le_refl _, Nat.le_refl _⟩ jm_r_I h rfl
/-! ('CombTable$Table', 'tell', '(II)I') -/
theorem d_X5_tell_0 : decode m_X5_tell.2.1 0 = .ok (.iload_n 2, 1) := by decide +kernel
theorem d_X5_tell_1 : decode m_X5_tell.2.1 1 = .ok (.tableswitch 45 0 2 #[27, 33, 39], 27) := by decide +kernel
theorem d_X5_tell_28 : decode m_X5_tell.2.1 28 = .ok (.aload_n 0, 1) := by decide +kernel
theorem d_X5_tell_29 : decode m_X5_tell.2.1 29 = .ok (.iload_n 1, 1) := by decide +kernel
theorem d_X5_tell_30 : decode m_X5_tell.2.1 30 = .ok (.invokevirtual 73, 3) := by decide +kernel
theorem d_X5_tell_33 : decode m_X5_tell.2.1 33 = .ok (.ireturn, 1) := by decide +kernel
theorem d_X5_tell_34 : decode m_X5_tell.2.1 34 = .ok (.aload_n 0, 1) := by decide +kernel
theorem d_X5_tell_35 : decode m_X5_tell.2.1 35 = .ok (.iload_n 1, 1) := by decide +kernel
theorem d_X5_tell_36 : decode m_X5_tell.2.1 36 = .ok (.invokevirtual 77, 3) := by decide +kernel
theorem d_X5_tell_39 : decode m_X5_tell.2.1 39 = .ok (.ireturn, 1) := by decide +kernel
theorem d_X5_tell_40 : decode m_X5_tell.2.1 40 = .ok (.aload_n 0, 1) := by decide +kernel
theorem d_X5_tell_41 : decode m_X5_tell.2.1 41 = .ok (.iload_n 1, 1) := by decide +kernel
theorem d_X5_tell_42 : decode m_X5_tell.2.1 42 = .ok (.invokevirtual 80, 3) := by decide +kernel
theorem d_X5_tell_45 : decode m_X5_tell.2.1 45 = .ok (.ireturn, 1) := by decide +kernel
theorem d_X5_tell_46 : decode m_X5_tell.2.1 46 = .ok (.aload_n 0, 1) := by decide +kernel
theorem d_X5_tell_47 : decode m_X5_tell.2.1 47 = .ok (.iload_n 1, 1) := by decide +kernel
theorem d_X5_tell_48 : decode m_X5_tell.2.1 48 = .ok (.invokevirtual 69, 3) := by decide +kernel
theorem d_X5_tell_51 : decode m_X5_tell.2.1 51 = .ok (.ifCond .eq 12, 3) := by decide +kernel
theorem d_X5_tell_54 : decode m_X5_tell.2.1 54 = .ok (.aload_n 0, 1) := by decide +kernel
theorem d_X5_tell_55 : decode m_X5_tell.2.1 55 = .ok (.getfield 31, 3) := by decide +kernel
theorem d_X5_tell_58 : decode m_X5_tell.2.1 58 = .ok (.iload_n 1, 1) := by decide +kernel
theorem d_X5_tell_59 : decode m_X5_tell.2.1 59 = .ok (.iaload, 1) := by decide +kernel
theorem d_X5_tell_60 : decode m_X5_tell.2.1 60 = .ok (.goto 4, 3) := by decide +kernel
theorem d_X5_tell_63 : decode m_X5_tell.2.1 63 = .ok (.iconst 0, 1) := by decide +kernel
theorem d_X5_tell_64 : decode m_X5_tell.2.1 64 = .ok (.ireturn, 1) := by decide +kernel
set_option maxRecDepth 20000 in
theorem e_X5_tell {E : jm_E} {d : Nat} {μ : jm_M} {Q : Option jm_V → jm_M → Prop} {v0 v1 v2 : Int} (h : (∀ v ∈ ([jm_R v0, jm_I v1, jm_I v2] : List jm_V), jm_ok v) →
  ((v2 = 0 →
    (jm_is jm_N v0 1 5) ∧
    jc E m_X5_openingOf d [jm_R v0, jm_I v1] μ (fun (o : Option jm_V) (m2 : jm_M) => ∀ r4 : Int, o = some (jm_I r4) →
    Q (some (jm_I r4)) m2)) ∧
   (¬ (v2 = 0) →
    ((v2 = 1 →
      (jm_is jm_N v0 1 5) ∧
      jc E m_X5_doingOf d [jm_R v0, jm_I v1] μ (fun (o : Option jm_V) (m6 : jm_M) => ∀ r8 : Int, o = some (jm_I r8) →
      Q (some (jm_I r8)) m6)) ∧
     (¬ (v2 = 1) →
      ((v2 = 2 →
        (jm_is jm_N v0 1 5) ∧
        jc E m_X5_spanOf d [jm_R v0, jm_I v1] μ (fun (o : Option jm_V) (m10 : jm_M) => ∀ r12 : Int, o = some (jm_I r12) →
        Q (some (jm_I r12)) m10)) ∧
       (¬ (v2 = 2) →
        (jm_is jm_N v0 1 5) ∧
        jc E m_X5_hasKind d [jm_R v0, jm_I v1] μ (fun (o : Option jm_V) (m13 : jm_M) => ∀ r15 : Int, o = some (jm_I r15) → (r15 = 0 ∨ r15 = 1) →
        ((r15 = 0 →
          Q (some (jm_I 0)) m13) ∧
         (¬ (r15 = 0) →
          (0 ≤ v1 ∧ v1 < 10) ∧
          Q (some (jm_I (m13 ((v0 + 7)) v1))) m13)))))))))) : jc E m_X5_tell (d + 1) [jm_R v0, jm_I v1, jm_I v2] μ Q := by
  refine jm_Cl.of2 (by decide +kernel) (L0 := [some (jm_R v0), some (jm_I v1), some (jm_I v2)]) rfl (Nat.le_of_ble_eq_true rfl) (fun hok => ?_)
  have h := h hok
  refine jm_iloadn d_X5_tell_0 rfl ?_
  by_cases c1 : v2 = 0
  · have h := h.1 c1
    refine jm_table (tgt := 28) (off := 27) d_X5_tell_1 (by rw [c1]; decide) (by rw [c1]; decide) (by rw [c1]; rfl) (by decide) ?_
    refine jm_aloadn d_X5_tell_28 rfl ?_
    refine jm_iloadn d_X5_tell_29 rfl ?_
    obtain ⟨f3, h⟩ := h
    refine jm_invV (n1 := jm_N) (mc := 0) (ms := 0) (av := [jm_I _]) w_X5_openingOf l_X5_73 d_X5_tell_30 rfl f3 ⟨_, _, rfl⟩ ⟨Nat.le_refl _, Nat.le_refl _⟩ (Nat.le_of_ble_eq_true rfl) rfl ?_
    refine jm_Cl.mono h (fun o m2 h hr _ => ?_)
    obtain ⟨r4, rfl⟩ := jm_rokI hr
    have h := h _ rfl
    exact jm_ret (o := some (jm_I _)) d_X5_tell_33 rfl ⟨Nat.le_refl _, Nat.le_refl _⟩ jm_r_I h rfl
  · have h := h.2 c1
    by_cases c5 : v2 = 1
    · have h := h.1 c5
      refine jm_table (tgt := 34) (off := 33) d_X5_tell_1 (by rw [c5]; decide) (by rw [c5]; decide) (by rw [c5]; rfl) (by decide) ?_
      refine jm_aloadn d_X5_tell_34 rfl ?_
      refine jm_iloadn d_X5_tell_35 rfl ?_
      obtain ⟨f7, h⟩ := h
      refine jm_invV (n1 := jm_N) (mc := 0) (ms := 0) (av := [jm_I _]) w_X5_doingOf l_X5_77 d_X5_tell_36 rfl f7 ⟨_, _, rfl⟩ ⟨Nat.le_refl _, Nat.le_refl _⟩ (Nat.le_of_ble_eq_true rfl) rfl ?_
      refine jm_Cl.mono h (fun o m6 h hr _ => ?_)
      obtain ⟨r8, rfl⟩ := jm_rokI hr
      have h := h _ rfl
      exact jm_ret (o := some (jm_I _)) d_X5_tell_39 rfl ⟨Nat.le_refl _, Nat.le_refl _⟩ jm_r_I h rfl
    · have h := h.2 c5
      by_cases c9 : v2 = 2
      · have h := h.1 c9
        refine jm_table (tgt := 40) (off := 39) d_X5_tell_1 (by rw [c9]; decide) (by rw [c9]; decide) (by rw [c9]; rfl) (by decide) ?_
        refine jm_aloadn d_X5_tell_40 rfl ?_
        refine jm_iloadn d_X5_tell_41 rfl ?_
        obtain ⟨f11, h⟩ := h
        refine jm_invV (n1 := jm_N) (mc := 0) (ms := 0) (av := [jm_I _]) w_X5_spanOf l_X5_80 d_X5_tell_42 rfl f11 ⟨_, _, rfl⟩ ⟨Nat.le_refl _, Nat.le_refl _⟩ (Nat.le_of_ble_eq_true rfl) rfl ?_
        refine jm_Cl.mono h (fun o m10 h hr _ => ?_)
        obtain ⟨r12, rfl⟩ := jm_rokI hr
        have h := h _ rfl
        exact jm_ret (o := some (jm_I _)) d_X5_tell_45 rfl ⟨Nat.le_refl _, Nat.le_refl _⟩ jm_r_I h rfl
      · have h := h.2 c9
        refine jm_tableD (tgt := 46) d_X5_tell_1 (jm_tb2 (jm_tb1 (jm_tb1 (jm_tb1 (jm_tb0 0) c1) c5) c9) rfl) (by decide) ?_
        refine jm_aloadn d_X5_tell_46 rfl ?_
        refine jm_iloadn d_X5_tell_47 rfl ?_
        obtain ⟨f14, h⟩ := h
        refine jm_invV (n1 := jm_N) (mc := 0) (ms := 0) (av := [jm_I _]) w_X5_hasKind l_X5_69 d_X5_tell_48 rfl f14 ⟨_, _, rfl⟩ ⟨Nat.le_refl _, Nat.le_refl _⟩ (Nat.le_of_ble_eq_true rfl) rfl ?_
        refine jm_Cl.mono h (fun o m13 h hr _ => ?_)
        obtain ⟨r15, rfl, z16⟩ := jm_rokZ hr
        have h := h _ rfl z16
        refine jm_if_eq (tgt := 63) d_X5_tell_51 (by decide) (fun c17 => ?_) (fun c17 => ?_)
        · have h := h.1 c17
          refine jm_iconst (v := 0) d_X5_tell_63 rfl (jm_okI (by decide) (by decide)) ?_
          exact jm_ret (o := some (jm_I _)) d_X5_tell_64 rfl ⟨Nat.le_refl _, Nat.le_refl _⟩ jm_r_I h rfl
        · have h := h.2 c17
          refine jm_aloadn d_X5_tell_54 rfl ?_
          refine jm_getF (k := 9) (ki := 9) rfl cf_X5 (Nat.le_of_ble_eq_true rfl) f_X5_31 d_X5_tell_55 rfl rfl f14 (fc_5_9 f14) ?_
          refine jm_iloadn d_X5_tell_58 rfl ?_
          obtain ⟨f18, h⟩ := h
          refine jm_iaload d_X5_tell_59 (xc_5_9 f14 f18.1 f18.2) ?_
          refine jm_goto (tgt := 64) d_X5_tell_60 (by decide) ?_
          exact jm_ret (o := some (jm_I _)) d_X5_tell_64 rfl ⟨Nat.le_refl _, Nat.le_refl _⟩ jm_r_I h rfl
/-! ('CombTable$Table', 'reach', '(II)I') -/
theorem d_X5_reach_0 : decode m_X5_reach.2.1 0 = .ok (.aload_n 0, 1) := by decide +kernel
theorem d_X5_reach_1 : decode m_X5_reach.2.1 1 = .ok (.getfield 57, 3) := by decide +kernel
theorem d_X5_reach_4 : decode m_X5_reach.2.1 4 = .ok (.ifCond .eq 24, 3) := by decide +kernel
theorem d_X5_reach_7 : decode m_X5_reach.2.1 7 = .ok (.iload_n 1, 1) := by decide +kernel
theorem d_X5_reach_8 : decode m_X5_reach.2.1 8 = .ok (.ifCond .lt 18, 3) := by decide +kernel
theorem d_X5_reach_11 : decode m_X5_reach.2.1 11 = .ok (.iload_n 1, 1) := by decide +kernel
theorem d_X5_reach_12 : decode m_X5_reach.2.1 12 = .ok (.bipush 8, 2) := by decide +kernel
theorem d_X5_reach_14 : decode m_X5_reach.2.1 14 = .ok (.if_icmp .ge 12, 3) := by decide +kernel
theorem d_X5_reach_17 : decode m_X5_reach.2.1 17 = .ok (.aload_n 0, 1) := by decide +kernel
theorem d_X5_reach_18 : decode m_X5_reach.2.1 18 = .ok (.getfield 15, 3) := by decide +kernel
theorem d_X5_reach_21 : decode m_X5_reach.2.1 21 = .ok (.iload_n 1, 1) := by decide +kernel
theorem d_X5_reach_22 : decode m_X5_reach.2.1 22 = .ok (.iaload, 1) := by decide +kernel
theorem d_X5_reach_23 : decode m_X5_reach.2.1 23 = .ok (.goto 4, 3) := by decide +kernel
theorem d_X5_reach_26 : decode m_X5_reach.2.1 26 = .ok (.iconst 1, 1) := by decide +kernel
theorem d_X5_reach_27 : decode m_X5_reach.2.1 27 = .ok (.ireturn, 1) := by decide +kernel
theorem d_X5_reach_28 : decode m_X5_reach.2.1 28 = .ok (.aload_n 0, 1) := by decide +kernel
theorem d_X5_reach_29 : decode m_X5_reach.2.1 29 = .ok (.getfield 37, 3) := by decide +kernel
theorem d_X5_reach_32 : decode m_X5_reach.2.1 32 = .ok (.ifCond .le 16, 3) := by decide +kernel
theorem d_X5_reach_35 : decode m_X5_reach.2.1 35 = .ok (.iload_n 2, 1) := by decide +kernel
theorem d_X5_reach_36 : decode m_X5_reach.2.1 36 = .ok (.ifCond .lt 12, 3) := by decide +kernel
theorem d_X5_reach_39 : decode m_X5_reach.2.1 39 = .ok (.iload_n 2, 1) := by decide +kernel
theorem d_X5_reach_40 : decode m_X5_reach.2.1 40 = .ok (.aload_n 0, 1) := by decide +kernel
theorem d_X5_reach_41 : decode m_X5_reach.2.1 41 = .ok (.getfield 37, 3) := by decide +kernel
theorem d_X5_reach_44 : decode m_X5_reach.2.1 44 = .ok (.irem, 1) := by decide +kernel
theorem d_X5_reach_45 : decode m_X5_reach.2.1 45 = .ok (.goto 4, 3) := by decide +kernel
theorem d_X5_reach_48 : decode m_X5_reach.2.1 48 = .ok (.iconst 0, 1) := by decide +kernel
theorem d_X5_reach_49 : decode m_X5_reach.2.1 49 = .ok (.istore_n 3, 1) := by decide +kernel
theorem d_X5_reach_50 : decode m_X5_reach.2.1 50 = .ok (.iload_n 3, 1) := by decide +kernel
theorem d_X5_reach_51 : decode m_X5_reach.2.1 51 = .ok (.bipush 6, 2) := by decide +kernel
theorem d_X5_reach_53 : decode m_X5_reach.2.1 53 = .ok (.if_icmp .ge 12, 3) := by decide +kernel
theorem d_X5_reach_56 : decode m_X5_reach.2.1 56 = .ok (.aload_n 0, 1) := by decide +kernel
theorem d_X5_reach_57 : decode m_X5_reach.2.1 57 = .ok (.getfield 34, 3) := by decide +kernel
theorem d_X5_reach_60 : decode m_X5_reach.2.1 60 = .ok (.iload_n 3, 1) := by decide +kernel
theorem d_X5_reach_61 : decode m_X5_reach.2.1 61 = .ok (.iaload, 1) := by decide +kernel
theorem d_X5_reach_62 : decode m_X5_reach.2.1 62 = .ok (.goto 4, 3) := by decide +kernel
theorem d_X5_reach_65 : decode m_X5_reach.2.1 65 = .ok (.iconst 1, 1) := by decide +kernel
theorem d_X5_reach_66 : decode m_X5_reach.2.1 66 = .ok (.ireturn, 1) := by decide +kernel
set_option maxRecDepth 20000 in
theorem e_X5_reach {E : jm_E} {d : Nat} {μ : jm_M} {Q : Option jm_V → jm_M → Prop} {v0 v1 v2 : Int} (h : (∀ v ∈ ([jm_R v0, jm_I v1, jm_I v2] : List jm_V), jm_ok v) →
  (jm_is jm_N v0 1 5) ∧
  ((μ v0 14 = 0 →
    ((μ v0 11 ≤ 0 →
      Q (some (jm_I (μ ((v0 + 8)) 0))) μ) ∧
     (¬ (μ v0 11 ≤ 0) →
      ((v2 < 0 →
        Q (some (jm_I (μ ((v0 + 8)) 0))) μ) ∧
       (¬ (v2 < 0) →
        ((μ v0 11) ≠ 0) ∧
        ∀ x8 : Int, x8 = jm_rem v2 (μ v0 11) →
        ((6 ≤ x8 →
          Q (some (jm_I 1)) μ) ∧
         (¬ (6 ≤ x8) →
          (0 ≤ x8 ∧ x8 < 6) ∧
          Q (some (jm_I (μ ((v0 + 8)) x8))) μ))))))) ∧
   (¬ (μ v0 14 = 0) →
    ((v1 < 0 →
      Q (some (jm_I 1)) μ) ∧
     (¬ (v1 < 0) →
      ((8 ≤ v1 →
        Q (some (jm_I 1)) μ) ∧
       (¬ (8 ≤ v1) →
        (0 ≤ v1 ∧ v1 < 8) ∧
        Q (some (jm_I (μ ((v0 + 2)) v1))) μ))))))) : jc E m_X5_reach (d + 1) [jm_R v0, jm_I v1, jm_I v2] μ Q := by
  refine jm_Cl.of2 (by decide +kernel) (L0 := [some (jm_R v0), some (jm_I v1), some (jm_I v2), none]) rfl (Nat.le_of_ble_eq_true rfl) (fun hok => ?_)
  have h := h hok
  refine jm_aloadn d_X5_reach_0 rfl ?_
  obtain ⟨f1, h⟩ := h
  refine jm_getI (k := 14) (ki := 14) cf_X5 (Nat.le_of_ble_eq_true rfl) f_X5_57 d_X5_reach_1 rfl rfl f1 rfl ?_
  refine jm_if_eq (tgt := 28) d_X5_reach_4 (by decide) (fun c2 => ?_) (fun c2 => ?_)
  · have h := h.1 c2
    refine jm_aloadn d_X5_reach_28 rfl ?_
    refine jm_getI (k := 11) (ki := 11) cf_X5 (Nat.le_of_ble_eq_true rfl) f_X5_37 d_X5_reach_29 rfl rfl f1 rfl ?_
    refine jm_if_le (tgt := 48) d_X5_reach_32 (by decide) (fun c3 => ?_) (fun c3 => ?_)
    · have h := h.1 c3
      refine jm_iconst (v := 0) d_X5_reach_48 rfl (jm_okI (by decide) (by decide)) ?_
      refine jm_istoren (L' := [some (jm_R _), some (jm_I _), some (jm_I _), some (jm_I _)]) d_X5_reach_49 (Nat.le_of_ble_eq_true rfl) rfl ?_
      refine jm_iloadn d_X5_reach_50 rfl ?_
      refine jm_bipush (v := 6) d_X5_reach_51 rfl (jm_okI (by decide) (by decide)) ?_
      refine jm_icmp_ge (tgt := 65) d_X5_reach_53 (by decide) (fun c4 => absurd c4 (by decide)) (fun _ => ?_)
      refine jm_aloadn d_X5_reach_56 rfl ?_
      refine jm_getF (k := 12) (ki := 12) rfl cf_X5 (Nat.le_of_ble_eq_true rfl) f_X5_34 d_X5_reach_57 rfl rfl f1 (fc_5_12 f1) ?_
      refine jm_iloadn d_X5_reach_60 rfl ?_
      refine jm_iaload d_X5_reach_61 (xc_5_12 f1 (by decide) (by decide)) ?_
      refine jm_goto (tgt := 66) d_X5_reach_62 (by decide) ?_
      exact jm_ret (o := some (jm_I _)) d_X5_reach_66 rfl ⟨Nat.le_refl _, Nat.le_refl _⟩ jm_r_I h rfl
    · have h := h.2 c3
      refine jm_iloadn d_X5_reach_35 rfl ?_
      refine jm_if_lt (tgt := 48) d_X5_reach_36 (by decide) (fun c5 => ?_) (fun c5 => ?_)
      · have h := h.1 c5
        refine jm_iconst (v := 0) d_X5_reach_48 rfl (jm_okI (by decide) (by decide)) ?_
        refine jm_istoren (L' := [some (jm_R _), some (jm_I _), some (jm_I _), some (jm_I _)]) d_X5_reach_49 (Nat.le_of_ble_eq_true rfl) rfl ?_
        refine jm_iloadn d_X5_reach_50 rfl ?_
        refine jm_bipush (v := 6) d_X5_reach_51 rfl (jm_okI (by decide) (by decide)) ?_
        refine jm_icmp_ge (tgt := 65) d_X5_reach_53 (by decide) (fun c6 => absurd c6 (by decide)) (fun _ => ?_)
        refine jm_aloadn d_X5_reach_56 rfl ?_
        refine jm_getF (k := 12) (ki := 12) rfl cf_X5 (Nat.le_of_ble_eq_true rfl) f_X5_34 d_X5_reach_57 rfl rfl f1 (fc_5_12 f1) ?_
        refine jm_iloadn d_X5_reach_60 rfl ?_
        refine jm_iaload d_X5_reach_61 (xc_5_12 f1 (by decide) (by decide)) ?_
        refine jm_goto (tgt := 66) d_X5_reach_62 (by decide) ?_
        exact jm_ret (o := some (jm_I _)) d_X5_reach_66 rfl ⟨Nat.le_refl _, Nat.le_refl _⟩ jm_r_I h rfl
      · have h := h.2 c5
        refine jm_iloadn d_X5_reach_39 rfl ?_
        refine jm_aloadn d_X5_reach_40 rfl ?_
        refine jm_getI (k := 11) (ki := 11) cf_X5 (Nat.le_of_ble_eq_true rfl) f_X5_37 d_X5_reach_41 rfl rfl f1 rfl ?_
        obtain ⟨f7, h⟩ := h
        refine jm_irem d_X5_reach_44 f7 ?_
        refine jm_goto (tgt := 49) d_X5_reach_45 (by decide) ?_
        have h := h _ rfl
        refine jm_istoren (L' := [some (jm_R _), some (jm_I _), some (jm_I _), some (jm_I _)]) d_X5_reach_49 (Nat.le_of_ble_eq_true rfl) rfl ?_
        refine jm_iloadn d_X5_reach_50 rfl ?_
        refine jm_bipush (v := 6) d_X5_reach_51 rfl (jm_okI (by decide) (by decide)) ?_
        refine jm_icmp_ge (tgt := 65) d_X5_reach_53 (by decide) (fun c9 => ?_) (fun c9 => ?_)
        · have h := h.1 c9
          refine jm_iconst (v := 1) d_X5_reach_65 rfl (jm_okI (by decide) (by decide)) ?_
          exact jm_ret (o := some (jm_I _)) d_X5_reach_66 rfl ⟨Nat.le_refl _, Nat.le_refl _⟩ jm_r_I h rfl
        · have h := h.2 c9
          refine jm_aloadn d_X5_reach_56 rfl ?_
          refine jm_getF (k := 12) (ki := 12) rfl cf_X5 (Nat.le_of_ble_eq_true rfl) f_X5_34 d_X5_reach_57 rfl rfl f1 (fc_5_12 f1) ?_
          refine jm_iloadn d_X5_reach_60 rfl ?_
          obtain ⟨f10, h⟩ := h
          refine jm_iaload d_X5_reach_61 (xc_5_12 f1 f10.1 f10.2) ?_
          refine jm_goto (tgt := 66) d_X5_reach_62 (by decide) ?_
          exact jm_ret (o := some (jm_I _)) d_X5_reach_66 rfl ⟨Nat.le_refl _, Nat.le_refl _⟩ jm_r_I h rfl
  · have h := h.2 c2
    refine jm_iloadn d_X5_reach_7 rfl ?_
    refine jm_if_lt (tgt := 26) d_X5_reach_8 (by decide) (fun c11 => ?_) (fun c11 => ?_)
    · have h := h.1 c11
      refine jm_iconst (v := 1) d_X5_reach_26 rfl (jm_okI (by decide) (by decide)) ?_
      exact jm_ret (o := some (jm_I _)) d_X5_reach_27 rfl ⟨Nat.le_refl _, Nat.le_refl _⟩ jm_r_I h rfl
    · have h := h.2 c11
      refine jm_iloadn d_X5_reach_11 rfl ?_
      refine jm_bipush (v := 8) d_X5_reach_12 rfl (jm_okI (by decide) (by decide)) ?_
      refine jm_icmp_ge (tgt := 26) d_X5_reach_14 (by decide) (fun c12 => ?_) (fun c12 => ?_)
      · have h := h.1 c12
        refine jm_iconst (v := 1) d_X5_reach_26 rfl (jm_okI (by decide) (by decide)) ?_
        exact jm_ret (o := some (jm_I _)) d_X5_reach_27 rfl ⟨Nat.le_refl _, Nat.le_refl _⟩ jm_r_I h rfl
      · have h := h.2 c12
        refine jm_aloadn d_X5_reach_17 rfl ?_
        refine jm_getF (k := 3) (ki := 3) rfl cf_X5 (Nat.le_of_ble_eq_true rfl) f_X5_15 d_X5_reach_18 rfl rfl f1 (fc_5_3 f1) ?_
        refine jm_iloadn d_X5_reach_21 rfl ?_
        obtain ⟨f13, h⟩ := h
        refine jm_iaload d_X5_reach_22 (xc_5_3 f1 f13.1 f13.2) ?_
        refine jm_goto (tgt := 27) d_X5_reach_23 (by decide) ?_
        exact jm_ret (o := some (jm_I _)) d_X5_reach_27 rfl ⟨Nat.le_refl _, Nat.le_refl _⟩ jm_r_I h rfl
/-! ('CombTable$Table', 'read', '(LCombTable$Tape;)Z') -/
theorem d_X5_read_0 : decode m_X5_read.2.1 0 = .ok (.aload_n 0, 1) := by decide +kernel
theorem d_X5_read_1 : decode m_X5_read.2.1 1 = .ok (.invokevirtual 83, 3) := by decide +kernel
theorem d_X5_read_4 : decode m_X5_read.2.1 4 = .ok (.aload_n 1, 1) := by decide +kernel
theorem d_X5_read_5 : decode m_X5_read.2.1 5 = .ok (.sipush 900, 3) := by decide +kernel
theorem d_X5_read_8 : decode m_X5_read.2.1 8 = .ok (.invokevirtual 86, 3) := by decide +kernel
theorem d_X5_read_11 : decode m_X5_read.2.1 11 = .ok (.iconst 0, 1) := by decide +kernel
theorem d_X5_read_12 : decode m_X5_read.2.1 12 = .ok (.istore_n 2, 1) := by decide +kernel
theorem d_X5_read_13 : decode m_X5_read.2.1 13 = .ok (.iload_n 2, 1) := by decide +kernel
theorem d_X5_read_14 : decode m_X5_read.2.1 14 = .ok (.sipush 940, 3) := by decide +kernel
theorem d_X5_read_17 : decode m_X5_read.2.1 17 = .ok (.if_icmp .ge 45, 3) := by decide +kernel
theorem d_X5_read_20 : decode m_X5_read.2.1 20 = .ok (.aload_n 1, 1) := by decide +kernel
theorem d_X5_read_21 : decode m_X5_read.2.1 21 = .ok (.getfield 92, 3) := by decide +kernel
theorem d_X5_read_24 : decode m_X5_read.2.1 24 = .ok (.ifCond .eq 38, 3) := by decide +kernel
theorem d_X5_read_27 : decode m_X5_read.2.1 27 = .ok (.aload_n 0, 1) := by decide +kernel
theorem d_X5_read_28 : decode m_X5_read.2.1 28 = .ok (.aload_n 1, 1) := by decide +kernel
theorem d_X5_read_29 : decode m_X5_read.2.1 29 = .ok (.invokevirtual 95, 3) := by decide +kernel
theorem d_X5_read_32 : decode m_X5_read.2.1 32 = .ok (.ifCond .eq 12, 3) := by decide +kernel
theorem d_X5_read_35 : decode m_X5_read.2.1 35 = .ok (.aload_n 1, 1) := by decide +kernel
theorem d_X5_read_36 : decode m_X5_read.2.1 36 = .ok (.bipush 59, 2) := by decide +kernel
theorem d_X5_read_38 : decode m_X5_read.2.1 38 = .ok (.invokevirtual 99, 3) := by decide +kernel
theorem d_X5_read_41 : decode m_X5_read.2.1 41 = .ok (.ifCond .ne 5, 3) := by decide +kernel
theorem d_X5_read_44 : decode m_X5_read.2.1 44 = .ok (.iconst 0, 1) := by decide +kernel
theorem d_X5_read_45 : decode m_X5_read.2.1 45 = .ok (.ireturn, 1) := by decide +kernel
theorem d_X5_read_46 : decode m_X5_read.2.1 46 = .ok (.aload_n 0, 1) := by decide +kernel
theorem d_X5_read_47 : decode m_X5_read.2.1 47 = .ok (.dup, 1) := by decide +kernel
theorem d_X5_read_48 : decode m_X5_read.2.1 48 = .ok (.getfield 41, 3) := by decide +kernel
theorem d_X5_read_51 : decode m_X5_read.2.1 51 = .ok (.iconst 1, 1) := by decide +kernel
theorem d_X5_read_52 : decode m_X5_read.2.1 52 = .ok (.iadd, 1) := by decide +kernel
theorem d_X5_read_53 : decode m_X5_read.2.1 53 = .ok (.putfield 41, 3) := by decide +kernel
theorem d_X5_read_56 : decode m_X5_read.2.1 56 = .ok (.iinc 2 1, 3) := by decide +kernel
theorem d_X5_read_59 : decode m_X5_read.2.1 59 = .ok (.goto (-46), 3) := by decide +kernel
theorem d_X5_read_62 : decode m_X5_read.2.1 62 = .ok (.aload_n 1, 1) := by decide +kernel
theorem d_X5_read_63 : decode m_X5_read.2.1 63 = .ok (.invokevirtual 103, 3) := by decide +kernel
theorem d_X5_read_66 : decode m_X5_read.2.1 66 = .ok (.ireturn, 1) := by decide +kernel
set_option maxRecDepth 20000 in
theorem e_X5_read {E : jm_E} {d : Nat} {μ : jm_M} {Q : Option jm_V → jm_M → Prop} {v0 : Int} (h : (∀ v ∈ ([jm_R v0, jm_R 1] : List jm_V), jm_ok v) →
  (jm_is jm_N v0 1 5) ∧
  jc E m_X5_clear d [jm_R v0] μ (fun (o : Option jm_V) (m1 : jm_M) => o = none →
  jc E m_X7_open d [jm_R 1, jm_I 900] m1 (fun (o : Option jm_V) (m3 : jm_M) => o = none →
  jg E m_X5_read d 13 [some (jm_R v0), some (jm_R 1), some (jm_I 0)] [] m3 Q))) : jc E m_X5_read (d + 1) [jm_R v0, jm_R 1] μ Q := by
  refine jm_Cl.of2 (by decide +kernel) (L0 := [some (jm_R v0), some (jm_R 1), none]) rfl (Nat.le_of_ble_eq_true rfl) (fun hok => ?_)
  have h := h hok
  refine jm_aloadn d_X5_read_0 rfl ?_
  obtain ⟨f2, h⟩ := h
  refine jm_invV (n1 := jm_N) (mc := 0) (ms := 0) (av := []) w_X5_clear l_X5_83 d_X5_read_1 rfl f2 ⟨_, _, rfl⟩ ⟨Nat.le_refl _, Nat.le_refl _⟩ (Nat.le_of_ble_eq_true rfl) rfl ?_
  refine jm_Cl.mono h (fun o m1 h hr _ => ?_)
  obtain rfl := jm_rokV hr
  have h := h rfl
  refine jm_aloadn d_X5_read_4 rfl ?_
  refine jm_sipush (v := 900) d_X5_read_5 rfl (jm_okI (by decide) (by decide)) ?_
  refine jm_invV (n1 := jm_N) (mc := 0) (ms := 0) (av := [jm_I _]) w_X7_open l_X5_86 d_X5_read_8 rfl is_1 ⟨_, _, rfl⟩ ⟨Nat.le_refl _, Nat.le_refl _⟩ (Nat.le_of_ble_eq_true rfl) rfl ?_
  refine jm_Cl.mono h (fun o m3 h hr _ => ?_)
  obtain rfl := jm_rokV hr
  have h := h rfl
  refine jm_iconst (v := 0) d_X5_read_11 rfl (jm_okI (by decide) (by decide)) ?_
  refine jm_istoren (L' := [some (jm_R _), some (jm_R _), some (jm_I _)]) d_X5_read_12 (Nat.le_of_ble_eq_true rfl) rfl ?_
  exact h
set_option maxRecDepth 20000 in
theorem r_X5_read_13 {E : jm_E} {d : Nat} {μ : jm_M} {Q : Option jm_V → jm_M → Prop} {v0 v2 : Int} (h :
  ((940 ≤ v2 →
    jc E m_X7_closes d [jm_R 1] μ (fun (o : Option jm_V) (m2 : jm_M) => ∀ r3 : Int, o = some (jm_I r3) → (r3 = 0 ∨ r3 = 1) →
    Q (some (jm_I r3)) m2)) ∧
   (¬ (940 ≤ v2) →
    ((μ 1 4 = 0 →
      jc E m_X7_closes d [jm_R 1] μ (fun (o : Option jm_V) (m6 : jm_M) => ∀ r7 : Int, o = some (jm_I r7) → (r7 = 0 ∨ r7 = 1) →
      Q (some (jm_I r7)) m6)) ∧
     (¬ (μ 1 4 = 0) →
      (jm_is jm_N v0 1 5) ∧
      jc E m_X5_readLine d [jm_R v0, jm_R 1] μ (fun (o : Option jm_V) (m9 : jm_M) => ∀ r11 : Int, o = some (jm_I r11) → (r11 = 0 ∨ r11 = 1) →
      ((r11 = 0 →
        Q (some (jm_I 0)) m9) ∧
       (¬ (r11 = 0) →
        jc E m_X7_takes d [jm_R 1, jm_I 59] m9 (fun (o : Option jm_V) (m14 : jm_M) => ∀ r15 : Int, o = some (jm_I r15) → (r15 = 0 ∨ r15 = 1) →
        ((r15 ≠ 0 →
          jg E m_X5_read d 13 [some (jm_R v0), some (jm_R 1), some (jm_I (jm_wr (v2 + 1)))] [] (jm_up m14 v0 0 (jm_wr ((m14 v0 0) + 1))) Q) ∧
         (¬ (r15 ≠ 0) →
          Q (some (jm_I 0)) m14))))))))))) : jg E m_X5_read d 13 [some (jm_R v0), some (jm_R 1), some (jm_I v2)] [] μ Q := by
  refine jm_iloadn d_X5_read_13 rfl ?_
  refine jm_sipush (v := 940) d_X5_read_14 rfl (jm_okI (by decide) (by decide)) ?_
  refine jm_icmp_ge (tgt := 62) d_X5_read_17 (by decide) (fun c1 => ?_) (fun c1 => ?_)
  · have h := h.1 c1
    refine jm_aloadn d_X5_read_62 rfl ?_
    refine jm_invV (n1 := jm_N) (mc := 0) (ms := 0) (av := []) w_X7_closes l_X5_103 d_X5_read_63 rfl is_1 ⟨_, _, rfl⟩ ⟨Nat.le_refl _, Nat.le_refl _⟩ (Nat.le_of_ble_eq_true rfl) rfl ?_
    refine jm_Cl.mono h (fun o m2 h hr _ => ?_)
    obtain ⟨r3, rfl, z4⟩ := jm_rokZ hr
    have h := h _ rfl z4
    exact jm_ret (o := some (jm_I _)) d_X5_read_66 rfl ⟨Nat.le_refl _, Nat.le_refl _⟩ (jm_r_Z z4) h rfl
  · have h := h.2 c1
    refine jm_aloadn d_X5_read_20 rfl ?_
    refine jm_getI (k := 4) (ki := 4) cf_X7 (Nat.le_of_ble_eq_true rfl) f_X5_92 d_X5_read_21 rfl rfl is_1 rfl ?_
    refine jm_if_eq (tgt := 62) d_X5_read_24 (by decide) (fun c5 => ?_) (fun c5 => ?_)
    · have h := h.1 c5
      refine jm_aloadn d_X5_read_62 rfl ?_
      refine jm_invV (n1 := jm_N) (mc := 0) (ms := 0) (av := []) w_X7_closes l_X5_103 d_X5_read_63 rfl is_1 ⟨_, _, rfl⟩ ⟨Nat.le_refl _, Nat.le_refl _⟩ (Nat.le_of_ble_eq_true rfl) rfl ?_
      refine jm_Cl.mono h (fun o m6 h hr _ => ?_)
      obtain ⟨r7, rfl, z8⟩ := jm_rokZ hr
      have h := h _ rfl z8
      exact jm_ret (o := some (jm_I _)) d_X5_read_66 rfl ⟨Nat.le_refl _, Nat.le_refl _⟩ (jm_r_Z z8) h rfl
    · have h := h.2 c5
      refine jm_aloadn d_X5_read_27 rfl ?_
      refine jm_aloadn d_X5_read_28 rfl ?_
      obtain ⟨f10, h⟩ := h
      refine jm_invV (n1 := jm_N) (mc := 0) (ms := 0) (av := [jm_R _]) w_X5_readLine l_X5_95 d_X5_read_29 rfl f10 ⟨_, _, rfl⟩ ⟨Nat.le_refl _, Nat.le_refl _⟩ (Nat.le_of_ble_eq_true rfl) rfl ?_
      refine jm_Cl.mono h (fun o m9 h hr _ => ?_)
      obtain ⟨r11, rfl, z12⟩ := jm_rokZ hr
      have h := h _ rfl z12
      refine jm_if_eq (tgt := 44) d_X5_read_32 (by decide) (fun c13 => ?_) (fun c13 => ?_)
      · have h := h.1 c13
        refine jm_iconst (v := 0) d_X5_read_44 rfl (jm_okI (by decide) (by decide)) ?_
        exact jm_ret (o := some (jm_I _)) d_X5_read_45 rfl ⟨Nat.le_refl _, Nat.le_refl _⟩ (jm_r_Z (by decide)) h rfl
      · have h := h.2 c13
        refine jm_aloadn d_X5_read_35 rfl ?_
        refine jm_bipush (v := 59) d_X5_read_36 rfl (jm_okI (by decide) (by decide)) ?_
        refine jm_invV (n1 := jm_N) (mc := 0) (ms := 0) (av := [jm_I _]) w_X7_takes l_X5_99 d_X5_read_38 rfl is_1 ⟨_, _, rfl⟩ ⟨Nat.le_refl _, Nat.le_refl _⟩ (Nat.le_of_ble_eq_true rfl) rfl ?_
        refine jm_Cl.mono h (fun o m14 h hr _ => ?_)
        obtain ⟨r15, rfl, z16⟩ := jm_rokZ hr
        have h := h _ rfl z16
        refine jm_if_ne (tgt := 46) d_X5_read_41 (by decide) (fun c17 => ?_) (fun c17 => ?_)
        · have h := h.1 c17
          refine jm_aloadn d_X5_read_46 rfl ?_
          refine jm_dup rfl d_X5_read_47 ?_
          refine jm_getI (k := 0) (ki := 0) cf_X5 (Nat.le_of_ble_eq_true rfl) f_X5_41 d_X5_read_48 rfl rfl f10 rfl ?_
          refine jm_iconst (v := 1) d_X5_read_51 rfl (jm_okI (by decide) (by decide)) ?_
          refine jm_iadd d_X5_read_52 ?_
          refine jm_putI (k := 0) (ki := 0) cf_X5 (Nat.le_of_ble_eq_true rfl) f_X5_41 d_X5_read_53 (fun z => absurd z (by decide)) rfl rfl rfl (fun _ => rfl) f10 ?_
          refine jm_iinc (L' := [some (jm_R _), some (jm_R _), some (jm_I _)]) d_X5_read_56 rfl rfl (Nat.le_of_ble_eq_true rfl) rfl ?_
          refine jm_goto (tgt := 13) d_X5_read_59 (by decide) ?_
          exact h
        · have h := h.2 c17
          refine jm_iconst (v := 0) d_X5_read_44 rfl (jm_okI (by decide) (by decide)) ?_
          exact jm_ret (o := some (jm_I _)) d_X5_read_45 rfl ⟨Nat.le_refl _, Nat.le_refl _⟩ (jm_r_Z (by decide)) h rfl
/-! ('CombTable$Table', 'readLine', '(LCombTable$Tape;)Z') -/
theorem d_X5_readLine_0 : decode m_X5_readLine.2.1 0 = .ok (.aload_n 1, 1) := by decide +kernel
theorem d_X5_readLine_1 : decode m_X5_readLine.2.1 1 = .ok (.getstatic 107, 3) := by decide +kernel
theorem d_X5_readLine_4 : decode m_X5_readLine.2.1 4 = .ok (.invokevirtual 113, 3) := by decide +kernel
theorem d_X5_readLine_7 : decode m_X5_readLine.2.1 7 = .ok (.ifCond .eq 9, 3) := by decide +kernel
theorem d_X5_readLine_10 : decode m_X5_readLine.2.1 10 = .ok (.aload_n 0, 1) := by decide +kernel
theorem d_X5_readLine_11 : decode m_X5_readLine.2.1 11 = .ok (.aload_n 1, 1) := by decide +kernel
theorem d_X5_readLine_12 : decode m_X5_readLine.2.1 12 = .ok (.invokevirtual 117, 3) := by decide +kernel
theorem d_X5_readLine_15 : decode m_X5_readLine.2.1 15 = .ok (.ireturn, 1) := by decide +kernel
theorem d_X5_readLine_16 : decode m_X5_readLine.2.1 16 = .ok (.aload_n 1, 1) := by decide +kernel
theorem d_X5_readLine_17 : decode m_X5_readLine.2.1 17 = .ok (.getstatic 120, 3) := by decide +kernel
theorem d_X5_readLine_20 : decode m_X5_readLine.2.1 20 = .ok (.invokevirtual 113, 3) := by decide +kernel
theorem d_X5_readLine_23 : decode m_X5_readLine.2.1 23 = .ok (.ifCond .eq 9, 3) := by decide +kernel
theorem d_X5_readLine_26 : decode m_X5_readLine.2.1 26 = .ok (.aload_n 0, 1) := by decide +kernel
theorem d_X5_readLine_27 : decode m_X5_readLine.2.1 27 = .ok (.aload_n 1, 1) := by decide +kernel
theorem d_X5_readLine_28 : decode m_X5_readLine.2.1 28 = .ok (.invokevirtual 123, 3) := by decide +kernel
theorem d_X5_readLine_31 : decode m_X5_readLine.2.1 31 = .ok (.ireturn, 1) := by decide +kernel
theorem d_X5_readLine_32 : decode m_X5_readLine.2.1 32 = .ok (.aload_n 1, 1) := by decide +kernel
theorem d_X5_readLine_33 : decode m_X5_readLine.2.1 33 = .ok (.getstatic 126, 3) := by decide +kernel
theorem d_X5_readLine_36 : decode m_X5_readLine.2.1 36 = .ok (.invokevirtual 113, 3) := by decide +kernel
theorem d_X5_readLine_39 : decode m_X5_readLine.2.1 39 = .ok (.ifCond .eq 9, 3) := by decide +kernel
theorem d_X5_readLine_42 : decode m_X5_readLine.2.1 42 = .ok (.aload_n 0, 1) := by decide +kernel
theorem d_X5_readLine_43 : decode m_X5_readLine.2.1 43 = .ok (.aload_n 1, 1) := by decide +kernel
theorem d_X5_readLine_44 : decode m_X5_readLine.2.1 44 = .ok (.invokevirtual 129, 3) := by decide +kernel
theorem d_X5_readLine_47 : decode m_X5_readLine.2.1 47 = .ok (.ireturn, 1) := by decide +kernel
theorem d_X5_readLine_48 : decode m_X5_readLine.2.1 48 = .ok (.aload_n 1, 1) := by decide +kernel
theorem d_X5_readLine_49 : decode m_X5_readLine.2.1 49 = .ok (.getstatic 132, 3) := by decide +kernel
theorem d_X5_readLine_52 : decode m_X5_readLine.2.1 52 = .ok (.invokevirtual 113, 3) := by decide +kernel
theorem d_X5_readLine_55 : decode m_X5_readLine.2.1 55 = .ok (.ifCond .eq 9, 3) := by decide +kernel
theorem d_X5_readLine_58 : decode m_X5_readLine.2.1 58 = .ok (.aload_n 0, 1) := by decide +kernel
theorem d_X5_readLine_59 : decode m_X5_readLine.2.1 59 = .ok (.aload_n 1, 1) := by decide +kernel
theorem d_X5_readLine_60 : decode m_X5_readLine.2.1 60 = .ok (.invokevirtual 135, 3) := by decide +kernel
theorem d_X5_readLine_63 : decode m_X5_readLine.2.1 63 = .ok (.ireturn, 1) := by decide +kernel
theorem d_X5_readLine_64 : decode m_X5_readLine.2.1 64 = .ok (.aload_n 1, 1) := by decide +kernel
theorem d_X5_readLine_65 : decode m_X5_readLine.2.1 65 = .ok (.getstatic 138, 3) := by decide +kernel
theorem d_X5_readLine_68 : decode m_X5_readLine.2.1 68 = .ok (.invokevirtual 113, 3) := by decide +kernel
theorem d_X5_readLine_71 : decode m_X5_readLine.2.1 71 = .ok (.ifCond .eq 31, 3) := by decide +kernel
theorem d_X5_readLine_74 : decode m_X5_readLine.2.1 74 = .ok (.aload_n 0, 1) := by decide +kernel
theorem d_X5_readLine_75 : decode m_X5_readLine.2.1 75 = .ok (.getfield 57, 3) := by decide +kernel
theorem d_X5_readLine_78 : decode m_X5_readLine.2.1 78 = .ok (.ifCond .eq 13, 3) := by decide +kernel
theorem d_X5_readLine_81 : decode m_X5_readLine.2.1 81 = .ok (.aload_n 1, 1) := by decide +kernel
theorem d_X5_readLine_82 : decode m_X5_readLine.2.1 82 = .ok (.iconst 3, 1) := by decide +kernel
theorem d_X5_readLine_83 : decode m_X5_readLine.2.1 83 = .ok (.aload_n 1, 1) := by decide +kernel
theorem d_X5_readLine_84 : decode m_X5_readLine.2.1 84 = .ok (.getfield 141, 3) := by decide +kernel
theorem d_X5_readLine_87 : decode m_X5_readLine.2.1 87 = .ok (.invokevirtual 144, 3) := by decide +kernel
theorem d_X5_readLine_90 : decode m_X5_readLine.2.1 90 = .ok (.ireturn, 1) := by decide +kernel
theorem d_X5_readLine_91 : decode m_X5_readLine.2.1 91 = .ok (.aload_n 0, 1) := by decide +kernel
theorem d_X5_readLine_92 : decode m_X5_readLine.2.1 92 = .ok (.iconst 1, 1) := by decide +kernel
theorem d_X5_readLine_93 : decode m_X5_readLine.2.1 93 = .ok (.putfield 57, 3) := by decide +kernel
theorem d_X5_readLine_96 : decode m_X5_readLine.2.1 96 = .ok (.aload_n 1, 1) := by decide +kernel
theorem d_X5_readLine_97 : decode m_X5_readLine.2.1 97 = .ok (.invokevirtual 148, 3) := by decide +kernel
theorem d_X5_readLine_100 : decode m_X5_readLine.2.1 100 = .ok (.iconst 1, 1) := by decide +kernel
theorem d_X5_readLine_101 : decode m_X5_readLine.2.1 101 = .ok (.ireturn, 1) := by decide +kernel
theorem d_X5_readLine_102 : decode m_X5_readLine.2.1 102 = .ok (.aload_n 1, 1) := by decide +kernel
theorem d_X5_readLine_103 : decode m_X5_readLine.2.1 103 = .ok (.getstatic 151, 3) := by decide +kernel
theorem d_X5_readLine_106 : decode m_X5_readLine.2.1 106 = .ok (.invokevirtual 113, 3) := by decide +kernel
theorem d_X5_readLine_109 : decode m_X5_readLine.2.1 109 = .ok (.ifCond .eq 31, 3) := by decide +kernel
theorem d_X5_readLine_112 : decode m_X5_readLine.2.1 112 = .ok (.aload_n 0, 1) := by decide +kernel
theorem d_X5_readLine_113 : decode m_X5_readLine.2.1 113 = .ok (.getfield 60, 3) := by decide +kernel
theorem d_X5_readLine_116 : decode m_X5_readLine.2.1 116 = .ok (.ifCond .eq 13, 3) := by decide +kernel
theorem d_X5_readLine_119 : decode m_X5_readLine.2.1 119 = .ok (.aload_n 1, 1) := by decide +kernel
theorem d_X5_readLine_120 : decode m_X5_readLine.2.1 120 = .ok (.iconst 3, 1) := by decide +kernel
theorem d_X5_readLine_121 : decode m_X5_readLine.2.1 121 = .ok (.aload_n 1, 1) := by decide +kernel
theorem d_X5_readLine_122 : decode m_X5_readLine.2.1 122 = .ok (.getfield 141, 3) := by decide +kernel
theorem d_X5_readLine_125 : decode m_X5_readLine.2.1 125 = .ok (.invokevirtual 144, 3) := by decide +kernel
theorem d_X5_readLine_128 : decode m_X5_readLine.2.1 128 = .ok (.ireturn, 1) := by decide +kernel
theorem d_X5_readLine_129 : decode m_X5_readLine.2.1 129 = .ok (.aload_n 0, 1) := by decide +kernel
theorem d_X5_readLine_130 : decode m_X5_readLine.2.1 130 = .ok (.iconst 1, 1) := by decide +kernel
theorem d_X5_readLine_131 : decode m_X5_readLine.2.1 131 = .ok (.putfield 60, 3) := by decide +kernel
theorem d_X5_readLine_134 : decode m_X5_readLine.2.1 134 = .ok (.aload_n 1, 1) := by decide +kernel
theorem d_X5_readLine_135 : decode m_X5_readLine.2.1 135 = .ok (.invokevirtual 148, 3) := by decide +kernel
theorem d_X5_readLine_138 : decode m_X5_readLine.2.1 138 = .ok (.iconst 1, 1) := by decide +kernel
theorem d_X5_readLine_139 : decode m_X5_readLine.2.1 139 = .ok (.ireturn, 1) := by decide +kernel
theorem d_X5_readLine_140 : decode m_X5_readLine.2.1 140 = .ok (.aload_n 1, 1) := by decide +kernel
theorem d_X5_readLine_141 : decode m_X5_readLine.2.1 141 = .ok (.iconst 1, 1) := by decide +kernel
theorem d_X5_readLine_142 : decode m_X5_readLine.2.1 142 = .ok (.aload_n 1, 1) := by decide +kernel
theorem d_X5_readLine_143 : decode m_X5_readLine.2.1 143 = .ok (.getfield 141, 3) := by decide +kernel
theorem d_X5_readLine_146 : decode m_X5_readLine.2.1 146 = .ok (.invokevirtual 144, 3) := by decide +kernel
theorem d_X5_readLine_149 : decode m_X5_readLine.2.1 149 = .ok (.ireturn, 1) := by decide +kernel
set_option maxRecDepth 20000 in
theorem e_X5_readLine {E : jm_E} {d : Nat} {μ : jm_M} {Q : Option jm_V → jm_M → Prop} {v0 : Int} (h : (∀ v ∈ ([jm_R v0, jm_R 1] : List jm_V), jm_ok v) →
  jc E m_X7_isTerm d [jm_R 1, jm_R ((-12))] μ (fun (o : Option jm_V) (m1 : jm_M) => ∀ r2 : Int, o = some (jm_I r2) → (r2 = 0 ∨ r2 = 1) →
  ((r2 = 0 →
    jc E m_X7_isTerm d [jm_R 1, jm_R ((-13))] m1 (fun (o : Option jm_V) (m5 : jm_M) => ∀ r6 : Int, o = some (jm_I r6) → (r6 = 0 ∨ r6 = 1) →
    ((r6 = 0 →
      jc E m_X7_isTerm d [jm_R 1, jm_R ((-14))] m5 (fun (o : Option jm_V) (m9 : jm_M) => ∀ r10 : Int, o = some (jm_I r10) → (r10 = 0 ∨ r10 = 1) →
      ((r10 = 0 →
        jc E m_X7_isTerm d [jm_R 1, jm_R ((-15))] m9 (fun (o : Option jm_V) (m13 : jm_M) => ∀ r14 : Int, o = some (jm_I r14) → (r14 = 0 ∨ r14 = 1) →
        ((r14 = 0 →
          jc E m_X7_isTerm d [jm_R 1, jm_R ((-16))] m13 (fun (o : Option jm_V) (m17 : jm_M) => ∀ r18 : Int, o = some (jm_I r18) → (r18 = 0 ∨ r18 = 1) →
          ((r18 = 0 →
            jc E m_X7_isTerm d [jm_R 1, jm_R ((-17))] m17 (fun (o : Option jm_V) (m21 : jm_M) => ∀ r22 : Int, o = some (jm_I r22) → (r22 = 0 ∨ r22 = 1) →
            ((r22 = 0 →
              jc E m_X7_fails d [jm_R 1, jm_I 1, jm_I (m21 1 5)] m21 (fun (o : Option jm_V) (m25 : jm_M) => ∀ r26 : Int, o = some (jm_I r26) → (r26 = 0 ∨ r26 = 1) →
              Q (some (jm_I r26)) m25)) ∧
             (¬ (r22 = 0) →
              (jm_is jm_N v0 1 5) ∧
              ((m21 v0 15 = 0 →
                jc E m_X7_advance d [jm_R 1] (jm_up m21 v0 15 1) (fun (o : Option jm_V) (m30 : jm_M) => o = none →
                Q (some (jm_I 1)) m30)) ∧
               (¬ (m21 v0 15 = 0) →
                jc E m_X7_fails d [jm_R 1, jm_I 3, jm_I (m21 1 5)] m21 (fun (o : Option jm_V) (m31 : jm_M) => ∀ r32 : Int, o = some (jm_I r32) → (r32 = 0 ∨ r32 = 1) →
                Q (some (jm_I r32)) m31))))))) ∧
           (¬ (r18 = 0) →
            (jm_is jm_N v0 1 5) ∧
            ((m17 v0 14 = 0 →
              jc E m_X7_advance d [jm_R 1] (jm_up m17 v0 14 1) (fun (o : Option jm_V) (m36 : jm_M) => o = none →
              Q (some (jm_I 1)) m36)) ∧
             (¬ (m17 v0 14 = 0) →
              jc E m_X7_fails d [jm_R 1, jm_I 3, jm_I (m17 1 5)] m17 (fun (o : Option jm_V) (m37 : jm_M) => ∀ r38 : Int, o = some (jm_I r38) → (r38 = 0 ∨ r38 = 1) →
              Q (some (jm_I r38)) m37))))))) ∧
         (¬ (r14 = 0) →
          (jm_is jm_N v0 1 5) ∧
          jc E m_X5_readComb d [jm_R v0, jm_R 1] m13 (fun (o : Option jm_V) (m40 : jm_M) => ∀ r42 : Int, o = some (jm_I r42) → (r42 = 0 ∨ r42 = 1) →
          Q (some (jm_I r42)) m40))))) ∧
       (¬ (r10 = 0) →
        (jm_is jm_N v0 1 5) ∧
        jc E m_X5_readMay d [jm_R v0, jm_R 1] m9 (fun (o : Option jm_V) (m44 : jm_M) => ∀ r46 : Int, o = some (jm_I r46) → (r46 = 0 ∨ r46 = 1) →
        Q (some (jm_I r46)) m44))))) ∧
     (¬ (r6 = 0) →
      (jm_is jm_N v0 1 5) ∧
      jc E m_X5_readKind d [jm_R v0, jm_R 1] m5 (fun (o : Option jm_V) (m48 : jm_M) => ∀ r50 : Int, o = some (jm_I r50) → (r50 = 0 ∨ r50 = 1) →
      Q (some (jm_I r50)) m48))))) ∧
   (¬ (r2 = 0) →
    (jm_is jm_N v0 1 5) ∧
    jc E m_X5_readWho d [jm_R v0, jm_R 1] m1 (fun (o : Option jm_V) (m52 : jm_M) => ∀ r54 : Int, o = some (jm_I r54) → (r54 = 0 ∨ r54 = 1) →
    Q (some (jm_I r54)) m52))))) : jc E m_X5_readLine (d + 1) [jm_R v0, jm_R 1] μ Q := by
  refine jm_Cl.of2 (by decide +kernel) (L0 := [some (jm_R v0), some (jm_R 1)]) rfl (Nat.le_of_ble_eq_true rfl) (fun hok => ?_)
  have h := h hok
  refine jm_aloadn d_X5_readLine_0 rfl ?_
  refine jm_getT (i := 1) (a := -12) (Nat.le_of_ble_eq_true rfl) (by decide) rfl f_X5_107 d_X5_readLine_1 ?_
  refine jm_invV (n1 := jm_N) (mc := 0) (ms := 0) (av := [jm_R _]) w_X7_isTerm l_X5_113 d_X5_readLine_4 rfl is_1 ⟨_, _, rfl⟩ ⟨Nat.le_refl _, Nat.le_refl _⟩ (Nat.le_of_ble_eq_true rfl) rfl ?_
  refine jm_Cl.mono h (fun o m1 h hr _ => ?_)
  obtain ⟨r2, rfl, z3⟩ := jm_rokZ hr
  have h := h _ rfl z3
  refine jm_if_eq (tgt := 16) d_X5_readLine_7 (by decide) (fun c4 => ?_) (fun c4 => ?_)
  · have h := h.1 c4
    refine jm_aloadn d_X5_readLine_16 rfl ?_
    refine jm_getT (i := 2) (a := -13) (Nat.le_of_ble_eq_true rfl) (by decide) rfl f_X5_120 d_X5_readLine_17 ?_
    refine jm_invV (n1 := jm_N) (mc := 0) (ms := 0) (av := [jm_R _]) w_X7_isTerm l_X5_113 d_X5_readLine_20 rfl is_1 ⟨_, _, rfl⟩ ⟨Nat.le_refl _, Nat.le_refl _⟩ (Nat.le_of_ble_eq_true rfl) rfl ?_
    refine jm_Cl.mono h (fun o m5 h hr _ => ?_)
    obtain ⟨r6, rfl, z7⟩ := jm_rokZ hr
    have h := h _ rfl z7
    refine jm_if_eq (tgt := 32) d_X5_readLine_23 (by decide) (fun c8 => ?_) (fun c8 => ?_)
    · have h := h.1 c8
      refine jm_aloadn d_X5_readLine_32 rfl ?_
      refine jm_getT (i := 3) (a := -14) (Nat.le_of_ble_eq_true rfl) (by decide) rfl f_X5_126 d_X5_readLine_33 ?_
      refine jm_invV (n1 := jm_N) (mc := 0) (ms := 0) (av := [jm_R _]) w_X7_isTerm l_X5_113 d_X5_readLine_36 rfl is_1 ⟨_, _, rfl⟩ ⟨Nat.le_refl _, Nat.le_refl _⟩ (Nat.le_of_ble_eq_true rfl) rfl ?_
      refine jm_Cl.mono h (fun o m9 h hr _ => ?_)
      obtain ⟨r10, rfl, z11⟩ := jm_rokZ hr
      have h := h _ rfl z11
      refine jm_if_eq (tgt := 48) d_X5_readLine_39 (by decide) (fun c12 => ?_) (fun c12 => ?_)
      · have h := h.1 c12
        refine jm_aloadn d_X5_readLine_48 rfl ?_
        refine jm_getT (i := 4) (a := -15) (Nat.le_of_ble_eq_true rfl) (by decide) rfl f_X5_132 d_X5_readLine_49 ?_
        refine jm_invV (n1 := jm_N) (mc := 0) (ms := 0) (av := [jm_R _]) w_X7_isTerm l_X5_113 d_X5_readLine_52 rfl is_1 ⟨_, _, rfl⟩ ⟨Nat.le_refl _, Nat.le_refl _⟩ (Nat.le_of_ble_eq_true rfl) rfl ?_
        refine jm_Cl.mono h (fun o m13 h hr _ => ?_)
        obtain ⟨r14, rfl, z15⟩ := jm_rokZ hr
        have h := h _ rfl z15
        refine jm_if_eq (tgt := 64) d_X5_readLine_55 (by decide) (fun c16 => ?_) (fun c16 => ?_)
        · have h := h.1 c16
          refine jm_aloadn d_X5_readLine_64 rfl ?_
          refine jm_getT (i := 5) (a := -16) (Nat.le_of_ble_eq_true rfl) (by decide) rfl f_X5_138 d_X5_readLine_65 ?_
          refine jm_invV (n1 := jm_N) (mc := 0) (ms := 0) (av := [jm_R _]) w_X7_isTerm l_X5_113 d_X5_readLine_68 rfl is_1 ⟨_, _, rfl⟩ ⟨Nat.le_refl _, Nat.le_refl _⟩ (Nat.le_of_ble_eq_true rfl) rfl ?_
          refine jm_Cl.mono h (fun o m17 h hr _ => ?_)
          obtain ⟨r18, rfl, z19⟩ := jm_rokZ hr
          have h := h _ rfl z19
          refine jm_if_eq (tgt := 102) d_X5_readLine_71 (by decide) (fun c20 => ?_) (fun c20 => ?_)
          · have h := h.1 c20
            refine jm_aloadn d_X5_readLine_102 rfl ?_
            refine jm_getT (i := 6) (a := -17) (Nat.le_of_ble_eq_true rfl) (by decide) rfl f_X5_151 d_X5_readLine_103 ?_
            refine jm_invV (n1 := jm_N) (mc := 0) (ms := 0) (av := [jm_R _]) w_X7_isTerm l_X5_113 d_X5_readLine_106 rfl is_1 ⟨_, _, rfl⟩ ⟨Nat.le_refl _, Nat.le_refl _⟩ (Nat.le_of_ble_eq_true rfl) rfl ?_
            refine jm_Cl.mono h (fun o m21 h hr _ => ?_)
            obtain ⟨r22, rfl, z23⟩ := jm_rokZ hr
            have h := h _ rfl z23
            refine jm_if_eq (tgt := 140) d_X5_readLine_109 (by decide) (fun c24 => ?_) (fun c24 => ?_)
            · have h := h.1 c24
              refine jm_aloadn d_X5_readLine_140 rfl ?_
              refine jm_iconst (v := 1) d_X5_readLine_141 rfl (jm_okI (by decide) (by decide)) ?_
              refine jm_aloadn d_X5_readLine_142 rfl ?_
              refine jm_getI (k := 5) (ki := 5) cf_X7 (Nat.le_of_ble_eq_true rfl) f_X5_141 d_X5_readLine_143 rfl rfl is_1 rfl ?_
              refine jm_invV (n1 := jm_N) (mc := 0) (ms := 0) (av := [jm_I _, jm_I _]) w_X7_fails l_X5_144 d_X5_readLine_146 rfl is_1 ⟨_, _, rfl⟩ ⟨Nat.le_refl _, Nat.le_refl _⟩ (Nat.le_of_ble_eq_true rfl) rfl ?_
              refine jm_Cl.mono h (fun o m25 h hr _ => ?_)
              obtain ⟨r26, rfl, z27⟩ := jm_rokZ hr
              have h := h _ rfl z27
              exact jm_ret (o := some (jm_I _)) d_X5_readLine_149 rfl ⟨Nat.le_refl _, Nat.le_refl _⟩ (jm_r_Z z27) h rfl
            · have h := h.2 c24
              refine jm_aloadn d_X5_readLine_112 rfl ?_
              obtain ⟨f28, h⟩ := h
              refine jm_getI (k := 15) (ki := 15) cf_X5 (Nat.le_of_ble_eq_true rfl) f_X5_60 d_X5_readLine_113 rfl rfl f28 rfl ?_
              refine jm_if_eq (tgt := 129) d_X5_readLine_116 (by decide) (fun c29 => ?_) (fun c29 => ?_)
              · have h := h.1 c29
                refine jm_aloadn d_X5_readLine_129 rfl ?_
                refine jm_iconst (v := 1) d_X5_readLine_130 rfl (jm_okI (by decide) (by decide)) ?_
                refine jm_putZ (k := 15) (ki := 15) cf_X5 (Nat.le_of_ble_eq_true rfl) f_X5_60 d_X5_readLine_131 (fun z => absurd z (by decide)) rfl rfl rfl (by decide) (fun _ => rfl) f28 ?_
                refine jm_aloadn d_X5_readLine_134 rfl ?_
                refine jm_invV (n1 := jm_N) (mc := 0) (ms := 0) (av := []) w_X7_advance l_X5_148 d_X5_readLine_135 rfl is_1 ⟨_, _, rfl⟩ ⟨Nat.le_refl _, Nat.le_refl _⟩ (Nat.le_of_ble_eq_true rfl) rfl ?_
                refine jm_Cl.mono h (fun o m30 h hr _ => ?_)
                obtain rfl := jm_rokV hr
                have h := h rfl
                refine jm_iconst (v := 1) d_X5_readLine_138 rfl (jm_okI (by decide) (by decide)) ?_
                exact jm_ret (o := some (jm_I _)) d_X5_readLine_139 rfl ⟨Nat.le_refl _, Nat.le_refl _⟩ (jm_r_Z (by decide)) h rfl
              · have h := h.2 c29
                refine jm_aloadn d_X5_readLine_119 rfl ?_
                refine jm_iconst (v := 3) d_X5_readLine_120 rfl (jm_okI (by decide) (by decide)) ?_
                refine jm_aloadn d_X5_readLine_121 rfl ?_
                refine jm_getI (k := 5) (ki := 5) cf_X7 (Nat.le_of_ble_eq_true rfl) f_X5_141 d_X5_readLine_122 rfl rfl is_1 rfl ?_
                refine jm_invV (n1 := jm_N) (mc := 0) (ms := 0) (av := [jm_I _, jm_I _]) w_X7_fails l_X5_144 d_X5_readLine_125 rfl is_1 ⟨_, _, rfl⟩ ⟨Nat.le_refl _, Nat.le_refl _⟩ (Nat.le_of_ble_eq_true rfl) rfl ?_
                refine jm_Cl.mono h (fun o m31 h hr _ => ?_)
                obtain ⟨r32, rfl, z33⟩ := jm_rokZ hr
                have h := h _ rfl z33
                exact jm_ret (o := some (jm_I _)) d_X5_readLine_128 rfl ⟨Nat.le_refl _, Nat.le_refl _⟩ (jm_r_Z z33) h rfl
          · have h := h.2 c20
            refine jm_aloadn d_X5_readLine_74 rfl ?_
            obtain ⟨f34, h⟩ := h
            refine jm_getI (k := 14) (ki := 14) cf_X5 (Nat.le_of_ble_eq_true rfl) f_X5_57 d_X5_readLine_75 rfl rfl f34 rfl ?_
            refine jm_if_eq (tgt := 91) d_X5_readLine_78 (by decide) (fun c35 => ?_) (fun c35 => ?_)
            · have h := h.1 c35
              refine jm_aloadn d_X5_readLine_91 rfl ?_
              refine jm_iconst (v := 1) d_X5_readLine_92 rfl (jm_okI (by decide) (by decide)) ?_
              refine jm_putZ (k := 14) (ki := 14) cf_X5 (Nat.le_of_ble_eq_true rfl) f_X5_57 d_X5_readLine_93 (fun z => absurd z (by decide)) rfl rfl rfl (by decide) (fun _ => rfl) f34 ?_
              refine jm_aloadn d_X5_readLine_96 rfl ?_
              refine jm_invV (n1 := jm_N) (mc := 0) (ms := 0) (av := []) w_X7_advance l_X5_148 d_X5_readLine_97 rfl is_1 ⟨_, _, rfl⟩ ⟨Nat.le_refl _, Nat.le_refl _⟩ (Nat.le_of_ble_eq_true rfl) rfl ?_
              refine jm_Cl.mono h (fun o m36 h hr _ => ?_)
              obtain rfl := jm_rokV hr
              have h := h rfl
              refine jm_iconst (v := 1) d_X5_readLine_100 rfl (jm_okI (by decide) (by decide)) ?_
              exact jm_ret (o := some (jm_I _)) d_X5_readLine_101 rfl ⟨Nat.le_refl _, Nat.le_refl _⟩ (jm_r_Z (by decide)) h rfl
            · have h := h.2 c35
              refine jm_aloadn d_X5_readLine_81 rfl ?_
              refine jm_iconst (v := 3) d_X5_readLine_82 rfl (jm_okI (by decide) (by decide)) ?_
              refine jm_aloadn d_X5_readLine_83 rfl ?_
              refine jm_getI (k := 5) (ki := 5) cf_X7 (Nat.le_of_ble_eq_true rfl) f_X5_141 d_X5_readLine_84 rfl rfl is_1 rfl ?_
              refine jm_invV (n1 := jm_N) (mc := 0) (ms := 0) (av := [jm_I _, jm_I _]) w_X7_fails l_X5_144 d_X5_readLine_87 rfl is_1 ⟨_, _, rfl⟩ ⟨Nat.le_refl _, Nat.le_refl _⟩ (Nat.le_of_ble_eq_true rfl) rfl ?_
              refine jm_Cl.mono h (fun o m37 h hr _ => ?_)
              obtain ⟨r38, rfl, z39⟩ := jm_rokZ hr
              have h := h _ rfl z39
              exact jm_ret (o := some (jm_I _)) d_X5_readLine_90 rfl ⟨Nat.le_refl _, Nat.le_refl _⟩ (jm_r_Z z39) h rfl
        · have h := h.2 c16
          refine jm_aloadn d_X5_readLine_58 rfl ?_
          refine jm_aloadn d_X5_readLine_59 rfl ?_
          obtain ⟨f41, h⟩ := h
          refine jm_invV (n1 := jm_N) (mc := 0) (ms := 0) (av := [jm_R _]) w_X5_readComb l_X5_135 d_X5_readLine_60 rfl f41 ⟨_, _, rfl⟩ ⟨Nat.le_refl _, Nat.le_refl _⟩ (Nat.le_of_ble_eq_true rfl) rfl ?_
          refine jm_Cl.mono h (fun o m40 h hr _ => ?_)
          obtain ⟨r42, rfl, z43⟩ := jm_rokZ hr
          have h := h _ rfl z43
          exact jm_ret (o := some (jm_I _)) d_X5_readLine_63 rfl ⟨Nat.le_refl _, Nat.le_refl _⟩ (jm_r_Z z43) h rfl
      · have h := h.2 c12
        refine jm_aloadn d_X5_readLine_42 rfl ?_
        refine jm_aloadn d_X5_readLine_43 rfl ?_
        obtain ⟨f45, h⟩ := h
        refine jm_invV (n1 := jm_N) (mc := 0) (ms := 0) (av := [jm_R _]) w_X5_readMay l_X5_129 d_X5_readLine_44 rfl f45 ⟨_, _, rfl⟩ ⟨Nat.le_refl _, Nat.le_refl _⟩ (Nat.le_of_ble_eq_true rfl) rfl ?_
        refine jm_Cl.mono h (fun o m44 h hr _ => ?_)
        obtain ⟨r46, rfl, z47⟩ := jm_rokZ hr
        have h := h _ rfl z47
        exact jm_ret (o := some (jm_I _)) d_X5_readLine_47 rfl ⟨Nat.le_refl _, Nat.le_refl _⟩ (jm_r_Z z47) h rfl
    · have h := h.2 c8
      refine jm_aloadn d_X5_readLine_26 rfl ?_
      refine jm_aloadn d_X5_readLine_27 rfl ?_
      obtain ⟨f49, h⟩ := h
      refine jm_invV (n1 := jm_N) (mc := 0) (ms := 0) (av := [jm_R _]) w_X5_readKind l_X5_123 d_X5_readLine_28 rfl f49 ⟨_, _, rfl⟩ ⟨Nat.le_refl _, Nat.le_refl _⟩ (Nat.le_of_ble_eq_true rfl) rfl ?_
      refine jm_Cl.mono h (fun o m48 h hr _ => ?_)
      obtain ⟨r50, rfl, z51⟩ := jm_rokZ hr
      have h := h _ rfl z51
      exact jm_ret (o := some (jm_I _)) d_X5_readLine_31 rfl ⟨Nat.le_refl _, Nat.le_refl _⟩ (jm_r_Z z51) h rfl
  · have h := h.2 c4
    refine jm_aloadn d_X5_readLine_10 rfl ?_
    refine jm_aloadn d_X5_readLine_11 rfl ?_
    obtain ⟨f53, h⟩ := h
    refine jm_invV (n1 := jm_N) (mc := 0) (ms := 0) (av := [jm_R _]) w_X5_readWho l_X5_117 d_X5_readLine_12 rfl f53 ⟨_, _, rfl⟩ ⟨Nat.le_refl _, Nat.le_refl _⟩ (Nat.le_of_ble_eq_true rfl) rfl ?_
    refine jm_Cl.mono h (fun o m52 h hr _ => ?_)
    obtain ⟨r54, rfl, z55⟩ := jm_rokZ hr
    have h := h _ rfl z55
    exact jm_ret (o := some (jm_I _)) d_X5_readLine_15 rfl ⟨Nat.le_refl _, Nat.le_refl _⟩ (jm_r_Z z55) h rfl
/-! ('CombTable$Table', 'isNewName', '(LCombTable$Tape;)Z') -/
theorem d_X5_isNewName_0 : decode m_X5_isNewName.2.1 0 = .ok (.aload_n 1, 1) := by decide +kernel
theorem d_X5_isNewName_1 : decode m_X5_isNewName.2.1 1 = .ok (.invokevirtual 154, 3) := by decide +kernel
theorem d_X5_isNewName_4 : decode m_X5_isNewName.2.1 4 = .ok (.ifCond .ne 13, 3) := by decide +kernel
theorem d_X5_isNewName_7 : decode m_X5_isNewName.2.1 7 = .ok (.aload_n 1, 1) := by decide +kernel
theorem d_X5_isNewName_8 : decode m_X5_isNewName.2.1 8 = .ok (.iconst 1, 1) := by decide +kernel
theorem d_X5_isNewName_9 : decode m_X5_isNewName.2.1 9 = .ok (.aload_n 1, 1) := by decide +kernel
theorem d_X5_isNewName_10 : decode m_X5_isNewName.2.1 10 = .ok (.getfield 141, 3) := by decide +kernel
theorem d_X5_isNewName_13 : decode m_X5_isNewName.2.1 13 = .ok (.invokevirtual 144, 3) := by decide +kernel
theorem d_X5_isNewName_16 : decode m_X5_isNewName.2.1 16 = .ok (.ireturn, 1) := by decide +kernel
theorem d_X5_isNewName_17 : decode m_X5_isNewName.2.1 17 = .ok (.aload_n 0, 1) := by decide +kernel
theorem d_X5_isNewName_18 : decode m_X5_isNewName.2.1 18 = .ok (.aload_n 1, 1) := by decide +kernel
theorem d_X5_isNewName_19 : decode m_X5_isNewName.2.1 19 = .ok (.getfield 157, 3) := by decide +kernel
theorem d_X5_isNewName_22 : decode m_X5_isNewName.2.1 22 = .ok (.invokevirtual 161, 3) := by decide +kernel
theorem d_X5_isNewName_25 : decode m_X5_isNewName.2.1 25 = .ok (.iconst (-1), 1) := by decide +kernel
theorem d_X5_isNewName_26 : decode m_X5_isNewName.2.1 26 = .ok (.if_icmp .ne 15, 3) := by decide +kernel
theorem d_X5_isNewName_29 : decode m_X5_isNewName.2.1 29 = .ok (.aload_n 0, 1) := by decide +kernel
theorem d_X5_isNewName_30 : decode m_X5_isNewName.2.1 30 = .ok (.aload_n 1, 1) := by decide +kernel
theorem d_X5_isNewName_31 : decode m_X5_isNewName.2.1 31 = .ok (.getfield 157, 3) := by decide +kernel
theorem d_X5_isNewName_34 : decode m_X5_isNewName.2.1 34 = .ok (.invokevirtual 165, 3) := by decide +kernel
theorem d_X5_isNewName_37 : decode m_X5_isNewName.2.1 37 = .ok (.iconst (-1), 1) := by decide +kernel
theorem d_X5_isNewName_38 : decode m_X5_isNewName.2.1 38 = .ok (.if_icmp .eq 7, 3) := by decide +kernel
theorem d_X5_isNewName_41 : decode m_X5_isNewName.2.1 41 = .ok (.iconst 1, 1) := by decide +kernel
theorem d_X5_isNewName_42 : decode m_X5_isNewName.2.1 42 = .ok (.goto 4, 3) := by decide +kernel
theorem d_X5_isNewName_45 : decode m_X5_isNewName.2.1 45 = .ok (.iconst 0, 1) := by decide +kernel
theorem d_X5_isNewName_46 : decode m_X5_isNewName.2.1 46 = .ok (.istore_n 2, 1) := by decide +kernel
theorem d_X5_isNewName_47 : decode m_X5_isNewName.2.1 47 = .ok (.iload_n 2, 1) := by decide +kernel
theorem d_X5_isNewName_48 : decode m_X5_isNewName.2.1 48 = .ok (.ifCond .eq 15, 3) := by decide +kernel
theorem d_X5_isNewName_51 : decode m_X5_isNewName.2.1 51 = .ok (.aload_n 1, 1) := by decide +kernel
theorem d_X5_isNewName_52 : decode m_X5_isNewName.2.1 52 = .ok (.iconst 3, 1) := by decide +kernel
theorem d_X5_isNewName_53 : decode m_X5_isNewName.2.1 53 = .ok (.aload_n 1, 1) := by decide +kernel
theorem d_X5_isNewName_54 : decode m_X5_isNewName.2.1 54 = .ok (.getfield 141, 3) := by decide +kernel
theorem d_X5_isNewName_57 : decode m_X5_isNewName.2.1 57 = .ok (.invokevirtual 144, 3) := by decide +kernel
theorem d_X5_isNewName_60 : decode m_X5_isNewName.2.1 60 = .ok (.ifCond .eq 7, 3) := by decide +kernel
theorem d_X5_isNewName_63 : decode m_X5_isNewName.2.1 63 = .ok (.iconst 1, 1) := by decide +kernel
theorem d_X5_isNewName_64 : decode m_X5_isNewName.2.1 64 = .ok (.goto 4, 3) := by decide +kernel
theorem d_X5_isNewName_67 : decode m_X5_isNewName.2.1 67 = .ok (.iconst 0, 1) := by decide +kernel
theorem d_X5_isNewName_68 : decode m_X5_isNewName.2.1 68 = .ok (.ireturn, 1) := by decide +kernel
set_option maxRecDepth 20000 in
theorem e_X5_isNewName {E : jm_E} {d : Nat} {μ : jm_M} {Q : Option jm_V → jm_M → Prop} {v0 : Int} (h : (∀ v ∈ ([jm_R v0, jm_R 1] : List jm_V), jm_ok v) →
  jc E m_X7_isName d [jm_R 1] μ (fun (o : Option jm_V) (m1 : jm_M) => ∀ r2 : Int, o = some (jm_I r2) → (r2 = 0 ∨ r2 = 1) →
  ((r2 ≠ 0 →
    (jm_is jm_N v0 1 5) ∧
    jc E m_X5_whoNamed d [jm_R v0, jm_L (m1 1 6)] m1 (fun (o : Option jm_V) (m5 : jm_M) => ∀ r7 : Int, o = some (jm_I r7) →
    ((r7 ≠ ((-1)) →
      jg E m_X5_isNewName d 41 [none, some (jm_R 1), none] [] m5 Q) ∧
     (¬ (r7 ≠ ((-1))) →
      jc E m_X5_kindNamed d [jm_R v0, jm_L (m5 1 6)] m5 (fun (o : Option jm_V) (m9 : jm_M) => ∀ r10 : Int, o = some (jm_I r10) →
      ((r10 = ((-1)) →
        Q (some (jm_I 1)) m9) ∧
       (¬ (r10 = ((-1))) →
        jg E m_X5_isNewName d 41 [none, some (jm_R 1), none] [] m9 Q))))))) ∧
   (¬ (r2 ≠ 0) →
    jc E m_X7_fails d [jm_R 1, jm_I 1, jm_I (m1 1 5)] m1 (fun (o : Option jm_V) (m13 : jm_M) => ∀ r14 : Int, o = some (jm_I r14) → (r14 = 0 ∨ r14 = 1) →
    Q (some (jm_I r14)) m13))))) : jc E m_X5_isNewName (d + 1) [jm_R v0, jm_R 1] μ Q := by
  refine jm_Cl.of2 (by decide +kernel) (L0 := [some (jm_R v0), some (jm_R 1), none]) rfl (Nat.le_of_ble_eq_true rfl) (fun hok => ?_)
  have h := h hok
  refine jm_aloadn d_X5_isNewName_0 rfl ?_
  refine jm_invV (n1 := jm_N) (mc := 0) (ms := 0) (av := []) w_X7_isName l_X5_154 d_X5_isNewName_1 rfl is_1 ⟨_, _, rfl⟩ ⟨Nat.le_refl _, Nat.le_refl _⟩ (Nat.le_of_ble_eq_true rfl) rfl ?_
  refine jm_Cl.mono h (fun o m1 h hr _ => ?_)
  obtain ⟨r2, rfl, z3⟩ := jm_rokZ hr
  have h := h _ rfl z3
  refine jm_if_ne (tgt := 17) d_X5_isNewName_4 (by decide) (fun c4 => ?_) (fun c4 => ?_)
  · have h := h.1 c4
    refine jm_aloadn d_X5_isNewName_17 rfl ?_
    refine jm_aloadn d_X5_isNewName_18 rfl ?_
    refine jm_getL (k := 6) (ki := 6) cf_X7 (Nat.le_of_ble_eq_true rfl) f_X5_157 d_X5_isNewName_19 rfl rfl is_1 rfl ?_
    obtain ⟨f6, h⟩ := h
    refine jm_invV (n1 := jm_N) (mc := 0) (ms := 0) (av := [jm_L _]) w_X5_whoNamed l_X5_161 d_X5_isNewName_22 rfl f6 ⟨_, _, rfl⟩ ⟨Nat.le_refl _, Nat.le_refl _⟩ (Nat.le_of_ble_eq_true rfl) rfl ?_
    refine jm_Cl.mono h (fun o m5 h hr _ => ?_)
    obtain ⟨r7, rfl⟩ := jm_rokI hr
    have h := h _ rfl
    refine jm_iconst (v := (-1)) d_X5_isNewName_25 rfl (jm_okI (by decide) (by decide)) ?_
    refine jm_icmp_ne (tgt := 41) d_X5_isNewName_26 (by decide) (fun c8 => ?_) (fun c8 => ?_)
    · have h := h.1 c8
      exact jm_weak2 h (And.intro rfl trivial)
    · have h := h.2 c8
      refine jm_aloadn d_X5_isNewName_29 rfl ?_
      refine jm_aloadn d_X5_isNewName_30 rfl ?_
      refine jm_getL (k := 6) (ki := 6) cf_X7 (Nat.le_of_ble_eq_true rfl) f_X5_157 d_X5_isNewName_31 rfl rfl is_1 rfl ?_
      refine jm_invV (n1 := jm_N) (mc := 0) (ms := 0) (av := [jm_L _]) w_X5_kindNamed l_X5_165 d_X5_isNewName_34 rfl f6 ⟨_, _, rfl⟩ ⟨Nat.le_refl _, Nat.le_refl _⟩ (Nat.le_of_ble_eq_true rfl) rfl ?_
      refine jm_Cl.mono h (fun o m9 h hr _ => ?_)
      obtain ⟨r10, rfl⟩ := jm_rokI hr
      have h := h _ rfl
      refine jm_iconst (v := (-1)) d_X5_isNewName_37 rfl (jm_okI (by decide) (by decide)) ?_
      refine jm_icmp_eq (tgt := 45) d_X5_isNewName_38 (by decide) (fun c11 => ?_) (fun c11 => ?_)
      · have h := h.1 c11
        refine jm_iconst (v := 0) d_X5_isNewName_45 rfl (jm_okI (by decide) (by decide)) ?_
        refine jm_istoren (L' := [some (jm_R _), some (jm_R _), some (jm_I _)]) d_X5_isNewName_46 (Nat.le_of_ble_eq_true rfl) rfl ?_
        refine jm_iloadn d_X5_isNewName_47 rfl ?_
        refine jm_if_eq (tgt := 63) d_X5_isNewName_48 (by decide) (fun _ => ?_) (fun c12 => absurd (by decide) c12)
        refine jm_iconst (v := 1) d_X5_isNewName_63 rfl (jm_okI (by decide) (by decide)) ?_
        refine jm_goto (tgt := 68) d_X5_isNewName_64 (by decide) ?_
        exact jm_ret (o := some (jm_I _)) d_X5_isNewName_68 rfl ⟨Nat.le_refl _, Nat.le_refl _⟩ (jm_r_Z (by decide)) h rfl
      · have h := h.2 c11
        exact jm_weak2 h (And.intro rfl trivial)
  · have h := h.2 c4
    refine jm_aloadn d_X5_isNewName_7 rfl ?_
    refine jm_iconst (v := 1) d_X5_isNewName_8 rfl (jm_okI (by decide) (by decide)) ?_
    refine jm_aloadn d_X5_isNewName_9 rfl ?_
    refine jm_getI (k := 5) (ki := 5) cf_X7 (Nat.le_of_ble_eq_true rfl) f_X5_141 d_X5_isNewName_10 rfl rfl is_1 rfl ?_
    refine jm_invV (n1 := jm_N) (mc := 0) (ms := 0) (av := [jm_I _, jm_I _]) w_X7_fails l_X5_144 d_X5_isNewName_13 rfl is_1 ⟨_, _, rfl⟩ ⟨Nat.le_refl _, Nat.le_refl _⟩ (Nat.le_of_ble_eq_true rfl) rfl ?_
    refine jm_Cl.mono h (fun o m13 h hr _ => ?_)
    obtain ⟨r14, rfl, z15⟩ := jm_rokZ hr
    have h := h _ rfl z15
    exact jm_ret (o := some (jm_I _)) d_X5_isNewName_16 rfl ⟨Nat.le_refl _, Nat.le_refl _⟩ (jm_r_Z z15) h rfl
set_option maxRecDepth 20000 in
theorem r_X5_isNewName_41 {E : jm_E} {d : Nat} {μ : jm_M} {Q : Option jm_V → jm_M → Prop}  (h :
  jc E m_X7_fails d [jm_R 1, jm_I 3, jm_I (μ 1 5)] μ (fun (o : Option jm_V) (m2 : jm_M) => ∀ r3 : Int, o = some (jm_I r3) → (r3 = 0 ∨ r3 = 1) →
  ((r3 = 0 →
    Q (some (jm_I 0)) m2) ∧
   (¬ (r3 = 0) →
    Q (some (jm_I 1)) m2)))) : jg E m_X5_isNewName d 41 [none, some (jm_R 1), none] [] μ Q := by
  refine jm_iconst (v := 1) d_X5_isNewName_41 rfl (jm_okI (by decide) (by decide)) ?_
  refine jm_goto (tgt := 46) d_X5_isNewName_42 (by decide) ?_
  refine jm_istoren (L' := [none, some (jm_R _), some (jm_I _)]) d_X5_isNewName_46 (Nat.le_of_ble_eq_true rfl) rfl ?_
  refine jm_iloadn d_X5_isNewName_47 rfl ?_
  refine jm_if_eq (tgt := 63) d_X5_isNewName_48 (by decide) (fun c1 => absurd c1 (by decide)) (fun _ => ?_)
  refine jm_aloadn d_X5_isNewName_51 rfl ?_
  refine jm_iconst (v := 3) d_X5_isNewName_52 rfl (jm_okI (by decide) (by decide)) ?_
  refine jm_aloadn d_X5_isNewName_53 rfl ?_
  refine jm_getI (k := 5) (ki := 5) cf_X7 (Nat.le_of_ble_eq_true rfl) f_X5_141 d_X5_isNewName_54 rfl rfl is_1 rfl ?_
  refine jm_invV (n1 := jm_N) (mc := 0) (ms := 0) (av := [jm_I _, jm_I _]) w_X7_fails l_X5_144 d_X5_isNewName_57 rfl is_1 ⟨_, _, rfl⟩ ⟨Nat.le_refl _, Nat.le_refl _⟩ (Nat.le_of_ble_eq_true rfl) rfl ?_
  refine jm_Cl.mono h (fun o m2 h hr _ => ?_)
  obtain ⟨r3, rfl, z4⟩ := jm_rokZ hr
  have h := h _ rfl z4
  refine jm_if_eq (tgt := 67) d_X5_isNewName_60 (by decide) (fun c5 => ?_) (fun c5 => ?_)
  · have h := h.1 c5
    refine jm_iconst (v := 0) d_X5_isNewName_67 rfl (jm_okI (by decide) (by decide)) ?_
    exact jm_ret (o := some (jm_I _)) d_X5_isNewName_68 rfl ⟨Nat.le_refl _, Nat.le_refl _⟩ (jm_r_Z (by decide)) h rfl
  · have h := h.2 c5
    refine jm_iconst (v := 1) d_X5_isNewName_63 rfl (jm_okI (by decide) (by decide)) ?_
    refine jm_goto (tgt := 68) d_X5_isNewName_64 (by decide) ?_
    exact jm_ret (o := some (jm_I _)) d_X5_isNewName_68 rfl ⟨Nat.le_refl _, Nat.le_refl _⟩ (jm_r_Z (by decide)) h rfl
/-! ('CombTable$Table', 'readWho', '(LCombTable$Tape;)Z') -/
theorem d_X5_readWho_0 : decode m_X5_readWho.2.1 0 = .ok (.aload_n 0, 1) := by decide +kernel
theorem d_X5_readWho_1 : decode m_X5_readWho.2.1 1 = .ok (.getfield 44, 3) := by decide +kernel
theorem d_X5_readWho_4 : decode m_X5_readWho.2.1 4 = .ok (.bipush 8, 2) := by decide +kernel
theorem d_X5_readWho_6 : decode m_X5_readWho.2.1 6 = .ok (.if_icmp .lt 13, 3) := by decide +kernel
theorem d_X5_readWho_9 : decode m_X5_readWho.2.1 9 = .ok (.aload_n 1, 1) := by decide +kernel
theorem d_X5_readWho_10 : decode m_X5_readWho.2.1 10 = .ok (.iconst 4, 1) := by decide +kernel
theorem d_X5_readWho_11 : decode m_X5_readWho.2.1 11 = .ok (.aload_n 1, 1) := by decide +kernel
theorem d_X5_readWho_12 : decode m_X5_readWho.2.1 12 = .ok (.getfield 141, 3) := by decide +kernel
theorem d_X5_readWho_15 : decode m_X5_readWho.2.1 15 = .ok (.invokevirtual 144, 3) := by decide +kernel
theorem d_X5_readWho_18 : decode m_X5_readWho.2.1 18 = .ok (.ireturn, 1) := by decide +kernel
theorem d_X5_readWho_19 : decode m_X5_readWho.2.1 19 = .ok (.aload_n 1, 1) := by decide +kernel
theorem d_X5_readWho_20 : decode m_X5_readWho.2.1 20 = .ok (.invokevirtual 148, 3) := by decide +kernel
theorem d_X5_readWho_23 : decode m_X5_readWho.2.1 23 = .ok (.aload_n 0, 1) := by decide +kernel
theorem d_X5_readWho_24 : decode m_X5_readWho.2.1 24 = .ok (.aload_n 1, 1) := by decide +kernel
theorem d_X5_readWho_25 : decode m_X5_readWho.2.1 25 = .ok (.invokevirtual 168, 3) := by decide +kernel
theorem d_X5_readWho_28 : decode m_X5_readWho.2.1 28 = .ok (.ifCond .ne 5, 3) := by decide +kernel
theorem d_X5_readWho_31 : decode m_X5_readWho.2.1 31 = .ok (.iconst 0, 1) := by decide +kernel
theorem d_X5_readWho_32 : decode m_X5_readWho.2.1 32 = .ok (.ireturn, 1) := by decide +kernel
theorem d_X5_readWho_33 : decode m_X5_readWho.2.1 33 = .ok (.aload_n 0, 1) := by decide +kernel
theorem d_X5_readWho_34 : decode m_X5_readWho.2.1 34 = .ok (.getfield 11, 3) := by decide +kernel
theorem d_X5_readWho_37 : decode m_X5_readWho.2.1 37 = .ok (.aload_n 0, 1) := by decide +kernel
theorem d_X5_readWho_38 : decode m_X5_readWho.2.1 38 = .ok (.getfield 44, 3) := by decide +kernel
theorem d_X5_readWho_41 : decode m_X5_readWho.2.1 41 = .ok (.aload_n 1, 1) := by decide +kernel
theorem d_X5_readWho_42 : decode m_X5_readWho.2.1 42 = .ok (.getfield 157, 3) := by decide +kernel
theorem d_X5_readWho_45 : decode m_X5_readWho.2.1 45 = .ok (.lastore, 1) := by decide +kernel
theorem d_X5_readWho_46 : decode m_X5_readWho.2.1 46 = .ok (.aload_n 1, 1) := by decide +kernel
theorem d_X5_readWho_47 : decode m_X5_readWho.2.1 47 = .ok (.invokevirtual 148, 3) := by decide +kernel
theorem d_X5_readWho_50 : decode m_X5_readWho.2.1 50 = .ok (.aload_n 1, 1) := by decide +kernel
theorem d_X5_readWho_51 : decode m_X5_readWho.2.1 51 = .ok (.iconst 1, 1) := by decide +kernel
theorem d_X5_readWho_52 : decode m_X5_readWho.2.1 52 = .ok (.bipush 6, 2) := by decide +kernel
theorem d_X5_readWho_54 : decode m_X5_readWho.2.1 54 = .ok (.invokevirtual 171, 3) := by decide +kernel
theorem d_X5_readWho_57 : decode m_X5_readWho.2.1 57 = .ok (.ifCond .ne 5, 3) := by decide +kernel
theorem d_X5_readWho_60 : decode m_X5_readWho.2.1 60 = .ok (.iconst 0, 1) := by decide +kernel
theorem d_X5_readWho_61 : decode m_X5_readWho.2.1 61 = .ok (.ireturn, 1) := by decide +kernel
theorem d_X5_readWho_62 : decode m_X5_readWho.2.1 62 = .ok (.aload_n 0, 1) := by decide +kernel
theorem d_X5_readWho_63 : decode m_X5_readWho.2.1 63 = .ok (.getfield 15, 3) := by decide +kernel
theorem d_X5_readWho_66 : decode m_X5_readWho.2.1 66 = .ok (.aload_n 0, 1) := by decide +kernel
theorem d_X5_readWho_67 : decode m_X5_readWho.2.1 67 = .ok (.getfield 44, 3) := by decide +kernel
theorem d_X5_readWho_70 : decode m_X5_readWho.2.1 70 = .ok (.aload_n 1, 1) := by decide +kernel
theorem d_X5_readWho_71 : decode m_X5_readWho.2.1 71 = .ok (.getfield 174, 3) := by decide +kernel
theorem d_X5_readWho_74 : decode m_X5_readWho.2.1 74 = .ok (.iastore, 1) := by decide +kernel
theorem d_X5_readWho_75 : decode m_X5_readWho.2.1 75 = .ok (.aload_n 0, 1) := by decide +kernel
theorem d_X5_readWho_76 : decode m_X5_readWho.2.1 76 = .ok (.dup, 1) := by decide +kernel
theorem d_X5_readWho_77 : decode m_X5_readWho.2.1 77 = .ok (.getfield 44, 3) := by decide +kernel
theorem d_X5_readWho_80 : decode m_X5_readWho.2.1 80 = .ok (.iconst 1, 1) := by decide +kernel
theorem d_X5_readWho_81 : decode m_X5_readWho.2.1 81 = .ok (.iadd, 1) := by decide +kernel
theorem d_X5_readWho_82 : decode m_X5_readWho.2.1 82 = .ok (.putfield 44, 3) := by decide +kernel
theorem d_X5_readWho_85 : decode m_X5_readWho.2.1 85 = .ok (.aload_n 1, 1) := by decide +kernel
theorem d_X5_readWho_86 : decode m_X5_readWho.2.1 86 = .ok (.invokevirtual 148, 3) := by decide +kernel
theorem d_X5_readWho_89 : decode m_X5_readWho.2.1 89 = .ok (.iconst 1, 1) := by decide +kernel
theorem d_X5_readWho_90 : decode m_X5_readWho.2.1 90 = .ok (.ireturn, 1) := by decide +kernel
set_option maxRecDepth 20000 in
theorem e_X5_readWho {E : jm_E} {d : Nat} {μ : jm_M} {Q : Option jm_V → jm_M → Prop} {v0 : Int} (h : (∀ v ∈ ([jm_R v0, jm_R 1] : List jm_V), jm_ok v) →
  (jm_is jm_N v0 1 5) ∧
  ((μ v0 1 < 8 →
    jc E m_X7_advance d [jm_R 1] μ (fun (o : Option jm_V) (m3 : jm_M) => o = none →
    jc E m_X5_isNewName d [jm_R v0, jm_R 1] m3 (fun (o : Option jm_V) (m4 : jm_M) => ∀ r5 : Int, o = some (jm_I r5) → (r5 = 0 ∨ r5 = 1) →
    ((r5 ≠ 0 →
      (0 ≤ m4 v0 1 ∧ m4 v0 1 < 8) ∧
      ∀ m9 : jm_M, m9 = (jm_up m4 ((v0 + 1)) (m4 v0 1) (m4 1 6)) →
      jc E m_X7_advance d [jm_R 1] m9 (fun (o : Option jm_V) (m10 : jm_M) => o = none →
      jc E m_X7_isNumber d [jm_R 1, jm_I 1, jm_I 6] m10 (fun (o : Option jm_V) (m11 : jm_M) => ∀ r12 : Int, o = some (jm_I r12) → (r12 = 0 ∨ r12 = 1) →
      ((r12 ≠ 0 →
        (0 ≤ m11 v0 1 ∧ m11 v0 1 < 8) ∧
        ∀ m16 : jm_M, m16 = (jm_up m11 ((v0 + 2)) (m11 v0 1) (m11 1 8)) →
        jc E m_X7_advance d [jm_R 1] (jm_up m16 v0 1 (jm_wr ((m16 v0 1) + 1))) (fun (o : Option jm_V) (m17 : jm_M) => o = none →
        Q (some (jm_I 1)) m17)) ∧
       (¬ (r12 ≠ 0) →
        Q (some (jm_I 0)) m11))))) ∧
     (¬ (r5 ≠ 0) →
      Q (some (jm_I 0)) m4))))) ∧
   (¬ (μ v0 1 < 8) →
    jc E m_X7_fails d [jm_R 1, jm_I 4, jm_I (μ 1 5)] μ (fun (o : Option jm_V) (m18 : jm_M) => ∀ r19 : Int, o = some (jm_I r19) → (r19 = 0 ∨ r19 = 1) →
    Q (some (jm_I r19)) m18)))) : jc E m_X5_readWho (d + 1) [jm_R v0, jm_R 1] μ Q := by
  refine jm_Cl.of2 (by decide +kernel) (L0 := [some (jm_R v0), some (jm_R 1)]) rfl (Nat.le_of_ble_eq_true rfl) (fun hok => ?_)
  have h := h hok
  refine jm_aloadn d_X5_readWho_0 rfl ?_
  obtain ⟨f1, h⟩ := h
  refine jm_getI (k := 1) (ki := 1) cf_X5 (Nat.le_of_ble_eq_true rfl) f_X5_44 d_X5_readWho_1 rfl rfl f1 rfl ?_
  refine jm_bipush (v := 8) d_X5_readWho_4 rfl (jm_okI (by decide) (by decide)) ?_
  refine jm_icmp_lt (tgt := 19) d_X5_readWho_6 (by decide) (fun c2 => ?_) (fun c2 => ?_)
  · have h := h.1 c2
    refine jm_aloadn d_X5_readWho_19 rfl ?_
    refine jm_invV (n1 := jm_N) (mc := 0) (ms := 0) (av := []) w_X7_advance l_X5_148 d_X5_readWho_20 rfl is_1 ⟨_, _, rfl⟩ ⟨Nat.le_refl _, Nat.le_refl _⟩ (Nat.le_of_ble_eq_true rfl) rfl ?_
    refine jm_Cl.mono h (fun o m3 h hr _ => ?_)
    obtain rfl := jm_rokV hr
    have h := h rfl
    refine jm_aloadn d_X5_readWho_23 rfl ?_
    refine jm_aloadn d_X5_readWho_24 rfl ?_
    refine jm_invV (n1 := jm_N) (mc := 0) (ms := 0) (av := [jm_R _]) w_X5_isNewName l_X5_168 d_X5_readWho_25 rfl f1 ⟨_, _, rfl⟩ ⟨Nat.le_refl _, Nat.le_refl _⟩ (Nat.le_of_ble_eq_true rfl) rfl ?_
    refine jm_Cl.mono h (fun o m4 h hr _ => ?_)
    obtain ⟨r5, rfl, z6⟩ := jm_rokZ hr
    have h := h _ rfl z6
    refine jm_if_ne (tgt := 33) d_X5_readWho_28 (by decide) (fun c7 => ?_) (fun c7 => ?_)
    · have h := h.1 c7
      refine jm_aloadn d_X5_readWho_33 rfl ?_
      refine jm_getF (k := 2) (ki := 2) rfl cf_X5 (Nat.le_of_ble_eq_true rfl) f_X5_11 d_X5_readWho_34 rfl rfl f1 (fc_5_2 f1) ?_
      refine jm_aloadn d_X5_readWho_37 rfl ?_
      refine jm_getI (k := 1) (ki := 1) cf_X5 (Nat.le_of_ble_eq_true rfl) f_X5_44 d_X5_readWho_38 rfl rfl f1 rfl ?_
      refine jm_aloadn d_X5_readWho_41 rfl ?_
      refine jm_getL (k := 6) (ki := 6) cf_X7 (Nat.le_of_ble_eq_true rfl) f_X5_157 d_X5_readWho_42 rfl rfl is_1 rfl ?_
      obtain ⟨f8, h⟩ := h
      refine jm_lastore d_X5_readWho_45 (xc_5_2 f1 f8.1 f8.2) ?_
      have h := h _ rfl
      refine jm_aloadn d_X5_readWho_46 rfl ?_
      refine jm_invV (n1 := jm_N) (mc := 0) (ms := 0) (av := []) w_X7_advance l_X5_148 d_X5_readWho_47 rfl is_1 ⟨_, _, rfl⟩ ⟨Nat.le_refl _, Nat.le_refl _⟩ (Nat.le_of_ble_eq_true rfl) rfl ?_
      refine jm_Cl.mono h (fun o m10 h hr _ => ?_)
      obtain rfl := jm_rokV hr
      have h := h rfl
      refine jm_aloadn d_X5_readWho_50 rfl ?_
      refine jm_iconst (v := 1) d_X5_readWho_51 rfl (jm_okI (by decide) (by decide)) ?_
      refine jm_bipush (v := 6) d_X5_readWho_52 rfl (jm_okI (by decide) (by decide)) ?_
      refine jm_invV (n1 := jm_N) (mc := 0) (ms := 0) (av := [jm_I _, jm_I _]) w_X7_isNumber l_X5_171 d_X5_readWho_54 rfl is_1 ⟨_, _, rfl⟩ ⟨Nat.le_refl _, Nat.le_refl _⟩ (Nat.le_of_ble_eq_true rfl) rfl ?_
      refine jm_Cl.mono h (fun o m11 h hr _ => ?_)
      obtain ⟨r12, rfl, z13⟩ := jm_rokZ hr
      have h := h _ rfl z13
      refine jm_if_ne (tgt := 62) d_X5_readWho_57 (by decide) (fun c14 => ?_) (fun c14 => ?_)
      · have h := h.1 c14
        refine jm_aloadn d_X5_readWho_62 rfl ?_
        refine jm_getF (k := 3) (ki := 3) rfl cf_X5 (Nat.le_of_ble_eq_true rfl) f_X5_15 d_X5_readWho_63 rfl rfl f1 (fc_5_3 f1) ?_
        refine jm_aloadn d_X5_readWho_66 rfl ?_
        refine jm_getI (k := 1) (ki := 1) cf_X5 (Nat.le_of_ble_eq_true rfl) f_X5_44 d_X5_readWho_67 rfl rfl f1 rfl ?_
        refine jm_aloadn d_X5_readWho_70 rfl ?_
        refine jm_getI (k := 8) (ki := 8) cf_X7 (Nat.le_of_ble_eq_true rfl) f_X5_174 d_X5_readWho_71 rfl rfl is_1 rfl ?_
        obtain ⟨f15, h⟩ := h
        refine jm_iastore d_X5_readWho_74 (xc_5_3 f1 f15.1 f15.2) ?_
        have h := h _ rfl
        refine jm_aloadn d_X5_readWho_75 rfl ?_
        refine jm_dup rfl d_X5_readWho_76 ?_
        refine jm_getI (k := 1) (ki := 1) cf_X5 (Nat.le_of_ble_eq_true rfl) f_X5_44 d_X5_readWho_77 rfl rfl f1 rfl ?_
        refine jm_iconst (v := 1) d_X5_readWho_80 rfl (jm_okI (by decide) (by decide)) ?_
        refine jm_iadd d_X5_readWho_81 ?_
        refine jm_putI (k := 1) (ki := 1) cf_X5 (Nat.le_of_ble_eq_true rfl) f_X5_44 d_X5_readWho_82 (fun z => absurd z (by decide)) rfl rfl rfl (fun _ => rfl) f1 ?_
        refine jm_aloadn d_X5_readWho_85 rfl ?_
        refine jm_invV (n1 := jm_N) (mc := 0) (ms := 0) (av := []) w_X7_advance l_X5_148 d_X5_readWho_86 rfl is_1 ⟨_, _, rfl⟩ ⟨Nat.le_refl _, Nat.le_refl _⟩ (Nat.le_of_ble_eq_true rfl) rfl ?_
        refine jm_Cl.mono h (fun o m17 h hr _ => ?_)
        obtain rfl := jm_rokV hr
        have h := h rfl
        refine jm_iconst (v := 1) d_X5_readWho_89 rfl (jm_okI (by decide) (by decide)) ?_
        exact jm_ret (o := some (jm_I _)) d_X5_readWho_90 rfl ⟨Nat.le_refl _, Nat.le_refl _⟩ (jm_r_Z (by decide)) h rfl
      · have h := h.2 c14
        refine jm_iconst (v := 0) d_X5_readWho_60 rfl (jm_okI (by decide) (by decide)) ?_
        exact jm_ret (o := some (jm_I _)) d_X5_readWho_61 rfl ⟨Nat.le_refl _, Nat.le_refl _⟩ (jm_r_Z (by decide)) h rfl
    · have h := h.2 c7
      refine jm_iconst (v := 0) d_X5_readWho_31 rfl (jm_okI (by decide) (by decide)) ?_
      exact jm_ret (o := some (jm_I _)) d_X5_readWho_32 rfl ⟨Nat.le_refl _, Nat.le_refl _⟩ (jm_r_Z (by decide)) h rfl
  · have h := h.2 c2
    refine jm_aloadn d_X5_readWho_9 rfl ?_
    refine jm_iconst (v := 4) d_X5_readWho_10 rfl (jm_okI (by decide) (by decide)) ?_
    refine jm_aloadn d_X5_readWho_11 rfl ?_
    refine jm_getI (k := 5) (ki := 5) cf_X7 (Nat.le_of_ble_eq_true rfl) f_X5_141 d_X5_readWho_12 rfl rfl is_1 rfl ?_
    refine jm_invV (n1 := jm_N) (mc := 0) (ms := 0) (av := [jm_I _, jm_I _]) w_X7_fails l_X5_144 d_X5_readWho_15 rfl is_1 ⟨_, _, rfl⟩ ⟨Nat.le_refl _, Nat.le_refl _⟩ (Nat.le_of_ble_eq_true rfl) rfl ?_
    refine jm_Cl.mono h (fun o m18 h hr _ => ?_)
    obtain ⟨r19, rfl, z20⟩ := jm_rokZ hr
    have h := h _ rfl z20
    exact jm_ret (o := some (jm_I _)) d_X5_readWho_18 rfl ⟨Nat.le_refl _, Nat.le_refl _⟩ (jm_r_Z z20) h rfl
/-! ('CombTable$Table', 'readKind', '(LCombTable$Tape;)Z') -/
theorem d_X5_readKind_0 : decode m_X5_readKind.2.1 0 = .ok (.aload_n 0, 1) := by decide +kernel
theorem d_X5_readKind_1 : decode m_X5_readKind.2.1 1 = .ok (.getfield 47, 3) := by decide +kernel
theorem d_X5_readKind_4 : decode m_X5_readKind.2.1 4 = .ok (.bipush 10, 2) := by decide +kernel
theorem d_X5_readKind_6 : decode m_X5_readKind.2.1 6 = .ok (.if_icmp .lt 13, 3) := by decide +kernel
theorem d_X5_readKind_9 : decode m_X5_readKind.2.1 9 = .ok (.aload_n 1, 1) := by decide +kernel
theorem d_X5_readKind_10 : decode m_X5_readKind.2.1 10 = .ok (.iconst 4, 1) := by decide +kernel
theorem d_X5_readKind_11 : decode m_X5_readKind.2.1 11 = .ok (.aload_n 1, 1) := by decide +kernel
theorem d_X5_readKind_12 : decode m_X5_readKind.2.1 12 = .ok (.getfield 141, 3) := by decide +kernel
theorem d_X5_readKind_15 : decode m_X5_readKind.2.1 15 = .ok (.invokevirtual 144, 3) := by decide +kernel
theorem d_X5_readKind_18 : decode m_X5_readKind.2.1 18 = .ok (.ireturn, 1) := by decide +kernel
theorem d_X5_readKind_19 : decode m_X5_readKind.2.1 19 = .ok (.aload_n 1, 1) := by decide +kernel
theorem d_X5_readKind_20 : decode m_X5_readKind.2.1 20 = .ok (.invokevirtual 148, 3) := by decide +kernel
theorem d_X5_readKind_23 : decode m_X5_readKind.2.1 23 = .ok (.aload_n 0, 1) := by decide +kernel
theorem d_X5_readKind_24 : decode m_X5_readKind.2.1 24 = .ok (.aload_n 1, 1) := by decide +kernel
theorem d_X5_readKind_25 : decode m_X5_readKind.2.1 25 = .ok (.invokevirtual 168, 3) := by decide +kernel
theorem d_X5_readKind_28 : decode m_X5_readKind.2.1 28 = .ok (.ifCond .ne 5, 3) := by decide +kernel
theorem d_X5_readKind_31 : decode m_X5_readKind.2.1 31 = .ok (.iconst 0, 1) := by decide +kernel
theorem d_X5_readKind_32 : decode m_X5_readKind.2.1 32 = .ok (.ireturn, 1) := by decide +kernel
theorem d_X5_readKind_33 : decode m_X5_readKind.2.1 33 = .ok (.aload_n 0, 1) := by decide +kernel
theorem d_X5_readKind_34 : decode m_X5_readKind.2.1 34 = .ok (.getfield 19, 3) := by decide +kernel
theorem d_X5_readKind_37 : decode m_X5_readKind.2.1 37 = .ok (.aload_n 0, 1) := by decide +kernel
theorem d_X5_readKind_38 : decode m_X5_readKind.2.1 38 = .ok (.getfield 47, 3) := by decide +kernel
theorem d_X5_readKind_41 : decode m_X5_readKind.2.1 41 = .ok (.aload_n 1, 1) := by decide +kernel
theorem d_X5_readKind_42 : decode m_X5_readKind.2.1 42 = .ok (.getfield 157, 3) := by decide +kernel
theorem d_X5_readKind_45 : decode m_X5_readKind.2.1 45 = .ok (.lastore, 1) := by decide +kernel
theorem d_X5_readKind_46 : decode m_X5_readKind.2.1 46 = .ok (.aload_n 0, 1) := by decide +kernel
theorem d_X5_readKind_47 : decode m_X5_readKind.2.1 47 = .ok (.getfield 22, 3) := by decide +kernel
theorem d_X5_readKind_50 : decode m_X5_readKind.2.1 50 = .ok (.aload_n 0, 1) := by decide +kernel
theorem d_X5_readKind_51 : decode m_X5_readKind.2.1 51 = .ok (.getfield 47, 3) := by decide +kernel
theorem d_X5_readKind_54 : decode m_X5_readKind.2.1 54 = .ok (.iconst 0, 1) := by decide +kernel
theorem d_X5_readKind_55 : decode m_X5_readKind.2.1 55 = .ok (.iastore, 1) := by decide +kernel
theorem d_X5_readKind_56 : decode m_X5_readKind.2.1 56 = .ok (.aload_n 0, 1) := by decide +kernel
theorem d_X5_readKind_57 : decode m_X5_readKind.2.1 57 = .ok (.getfield 25, 3) := by decide +kernel
theorem d_X5_readKind_60 : decode m_X5_readKind.2.1 60 = .ok (.aload_n 0, 1) := by decide +kernel
theorem d_X5_readKind_61 : decode m_X5_readKind.2.1 61 = .ok (.getfield 47, 3) := by decide +kernel
theorem d_X5_readKind_64 : decode m_X5_readKind.2.1 64 = .ok (.iconst 0, 1) := by decide +kernel
theorem d_X5_readKind_65 : decode m_X5_readKind.2.1 65 = .ok (.iastore, 1) := by decide +kernel
theorem d_X5_readKind_66 : decode m_X5_readKind.2.1 66 = .ok (.aload_n 0, 1) := by decide +kernel
theorem d_X5_readKind_67 : decode m_X5_readKind.2.1 67 = .ok (.getfield 28, 3) := by decide +kernel
theorem d_X5_readKind_70 : decode m_X5_readKind.2.1 70 = .ok (.aload_n 0, 1) := by decide +kernel
theorem d_X5_readKind_71 : decode m_X5_readKind.2.1 71 = .ok (.getfield 47, 3) := by decide +kernel
theorem d_X5_readKind_74 : decode m_X5_readKind.2.1 74 = .ok (.iconst 0, 1) := by decide +kernel
theorem d_X5_readKind_75 : decode m_X5_readKind.2.1 75 = .ok (.iastore, 1) := by decide +kernel
theorem d_X5_readKind_76 : decode m_X5_readKind.2.1 76 = .ok (.aload_n 0, 1) := by decide +kernel
theorem d_X5_readKind_77 : decode m_X5_readKind.2.1 77 = .ok (.getfield 31, 3) := by decide +kernel
theorem d_X5_readKind_80 : decode m_X5_readKind.2.1 80 = .ok (.aload_n 0, 1) := by decide +kernel
theorem d_X5_readKind_81 : decode m_X5_readKind.2.1 81 = .ok (.getfield 47, 3) := by decide +kernel
theorem d_X5_readKind_84 : decode m_X5_readKind.2.1 84 = .ok (.iconst 0, 1) := by decide +kernel
theorem d_X5_readKind_85 : decode m_X5_readKind.2.1 85 = .ok (.iastore, 1) := by decide +kernel
theorem d_X5_readKind_86 : decode m_X5_readKind.2.1 86 = .ok (.aload_n 1, 1) := by decide +kernel
theorem d_X5_readKind_87 : decode m_X5_readKind.2.1 87 = .ok (.invokevirtual 148, 3) := by decide +kernel
theorem d_X5_readKind_90 : decode m_X5_readKind.2.1 90 = .ok (.aload_n 1, 1) := by decide +kernel
theorem d_X5_readKind_91 : decode m_X5_readKind.2.1 91 = .ok (.getstatic 177, 3) := by decide +kernel
theorem d_X5_readKind_94 : decode m_X5_readKind.2.1 94 = .ok (.invokevirtual 113, 3) := by decide +kernel
theorem d_X5_readKind_97 : decode m_X5_readKind.2.1 97 = .ok (.ifCond .ne 13, 3) := by decide +kernel
theorem d_X5_readKind_100 : decode m_X5_readKind.2.1 100 = .ok (.aload_n 1, 1) := by decide +kernel
theorem d_X5_readKind_101 : decode m_X5_readKind.2.1 101 = .ok (.getstatic 180, 3) := by decide +kernel
theorem d_X5_readKind_104 : decode m_X5_readKind.2.1 104 = .ok (.invokevirtual 113, 3) := by decide +kernel
theorem d_X5_readKind_107 : decode m_X5_readKind.2.1 107 = .ok (.ifCond .eq 31, 3) := by decide +kernel
theorem d_X5_readKind_110 : decode m_X5_readKind.2.1 110 = .ok (.aload_n 0, 1) := by decide +kernel
theorem d_X5_readKind_111 : decode m_X5_readKind.2.1 111 = .ok (.getfield 22, 3) := by decide +kernel
theorem d_X5_readKind_114 : decode m_X5_readKind.2.1 114 = .ok (.aload_n 0, 1) := by decide +kernel
theorem d_X5_readKind_115 : decode m_X5_readKind.2.1 115 = .ok (.getfield 47, 3) := by decide +kernel
theorem d_X5_readKind_118 : decode m_X5_readKind.2.1 118 = .ok (.aload_n 1, 1) := by decide +kernel
theorem d_X5_readKind_119 : decode m_X5_readKind.2.1 119 = .ok (.getstatic 177, 3) := by decide +kernel
theorem d_X5_readKind_122 : decode m_X5_readKind.2.1 122 = .ok (.invokevirtual 113, 3) := by decide +kernel
theorem d_X5_readKind_125 : decode m_X5_readKind.2.1 125 = .ok (.ifCond .eq 7, 3) := by decide +kernel
theorem d_X5_readKind_128 : decode m_X5_readKind.2.1 128 = .ok (.iconst 1, 1) := by decide +kernel
theorem d_X5_readKind_129 : decode m_X5_readKind.2.1 129 = .ok (.goto 4, 3) := by decide +kernel
theorem d_X5_readKind_132 : decode m_X5_readKind.2.1 132 = .ok (.iconst 2, 1) := by decide +kernel
theorem d_X5_readKind_133 : decode m_X5_readKind.2.1 133 = .ok (.iastore, 1) := by decide +kernel
theorem d_X5_readKind_134 : decode m_X5_readKind.2.1 134 = .ok (.aload_n 1, 1) := by decide +kernel
theorem d_X5_readKind_135 : decode m_X5_readKind.2.1 135 = .ok (.invokevirtual 148, 3) := by decide +kernel
theorem d_X5_readKind_138 : decode m_X5_readKind.2.1 138 = .ok (.aload_n 1, 1) := by decide +kernel
theorem d_X5_readKind_139 : decode m_X5_readKind.2.1 139 = .ok (.getfield 92, 3) := by decide +kernel
theorem d_X5_readKind_142 : decode m_X5_readKind.2.1 142 = .ok (.iconst 1, 1) := by decide +kernel
theorem d_X5_readKind_143 : decode m_X5_readKind.2.1 143 = .ok (.if_icmp .ne 75, 3) := by decide +kernel
theorem d_X5_readKind_146 : decode m_X5_readKind.2.1 146 = .ok (.aload_n 1, 1) := by decide +kernel
theorem d_X5_readKind_147 : decode m_X5_readKind.2.1 147 = .ok (.getfield 183, 3) := by decide +kernel
theorem d_X5_readKind_150 : decode m_X5_readKind.2.1 150 = .ok (.getfield 186, 3) := by decide +kernel
theorem d_X5_readKind_153 : decode m_X5_readKind.2.1 153 = .ok (.ifCond .eq 65, 3) := by decide +kernel
theorem d_X5_readKind_156 : decode m_X5_readKind.2.1 156 = .ok (.aload_n 0, 1) := by decide +kernel
theorem d_X5_readKind_157 : decode m_X5_readKind.2.1 157 = .ok (.getfield 25, 3) := by decide +kernel
theorem d_X5_readKind_160 : decode m_X5_readKind.2.1 160 = .ok (.aload_n 0, 1) := by decide +kernel
theorem d_X5_readKind_161 : decode m_X5_readKind.2.1 161 = .ok (.getfield 47, 3) := by decide +kernel
theorem d_X5_readKind_164 : decode m_X5_readKind.2.1 164 = .ok (.aload_n 1, 1) := by decide +kernel
theorem d_X5_readKind_165 : decode m_X5_readKind.2.1 165 = .ok (.getfield 183, 3) := by decide +kernel
theorem d_X5_readKind_168 : decode m_X5_readKind.2.1 168 = .ok (.getfield 186, 3) := by decide +kernel
theorem d_X5_readKind_171 : decode m_X5_readKind.2.1 171 = .ok (.iastore, 1) := by decide +kernel
theorem d_X5_readKind_172 : decode m_X5_readKind.2.1 172 = .ok (.aload_n 1, 1) := by decide +kernel
theorem d_X5_readKind_173 : decode m_X5_readKind.2.1 173 = .ok (.invokevirtual 148, 3) := by decide +kernel
theorem d_X5_readKind_176 : decode m_X5_readKind.2.1 176 = .ok (.aload_n 0, 1) := by decide +kernel
theorem d_X5_readKind_177 : decode m_X5_readKind.2.1 177 = .ok (.getfield 25, 3) := by decide +kernel
theorem d_X5_readKind_180 : decode m_X5_readKind.2.1 180 = .ok (.aload_n 0, 1) := by decide +kernel
theorem d_X5_readKind_181 : decode m_X5_readKind.2.1 181 = .ok (.getfield 47, 3) := by decide +kernel
theorem d_X5_readKind_184 : decode m_X5_readKind.2.1 184 = .ok (.iaload, 1) := by decide +kernel
theorem d_X5_readKind_185 : decode m_X5_readKind.2.1 185 = .ok (.iconst 2, 1) := by decide +kernel
theorem d_X5_readKind_186 : decode m_X5_readKind.2.1 186 = .ok (.if_icmp .ne 32, 3) := by decide +kernel
theorem d_X5_readKind_189 : decode m_X5_readKind.2.1 189 = .ok (.aload_n 1, 1) := by decide +kernel
theorem d_X5_readKind_190 : decode m_X5_readKind.2.1 190 = .ok (.iconst 1, 1) := by decide +kernel
theorem d_X5_readKind_191 : decode m_X5_readKind.2.1 191 = .ok (.bipush 99, 2) := by decide +kernel
theorem d_X5_readKind_193 : decode m_X5_readKind.2.1 193 = .ok (.invokevirtual 171, 3) := by decide +kernel
theorem d_X5_readKind_196 : decode m_X5_readKind.2.1 196 = .ok (.ifCond .ne 5, 3) := by decide +kernel
theorem d_X5_readKind_199 : decode m_X5_readKind.2.1 199 = .ok (.iconst 0, 1) := by decide +kernel
theorem d_X5_readKind_200 : decode m_X5_readKind.2.1 200 = .ok (.ireturn, 1) := by decide +kernel
theorem d_X5_readKind_201 : decode m_X5_readKind.2.1 201 = .ok (.aload_n 0, 1) := by decide +kernel
theorem d_X5_readKind_202 : decode m_X5_readKind.2.1 202 = .ok (.getfield 28, 3) := by decide +kernel
theorem d_X5_readKind_205 : decode m_X5_readKind.2.1 205 = .ok (.aload_n 0, 1) := by decide +kernel
theorem d_X5_readKind_206 : decode m_X5_readKind.2.1 206 = .ok (.getfield 47, 3) := by decide +kernel
theorem d_X5_readKind_209 : decode m_X5_readKind.2.1 209 = .ok (.aload_n 1, 1) := by decide +kernel
theorem d_X5_readKind_210 : decode m_X5_readKind.2.1 210 = .ok (.getfield 174, 3) := by decide +kernel
theorem d_X5_readKind_213 : decode m_X5_readKind.2.1 213 = .ok (.iastore, 1) := by decide +kernel
theorem d_X5_readKind_214 : decode m_X5_readKind.2.1 214 = .ok (.aload_n 1, 1) := by decide +kernel
theorem d_X5_readKind_215 : decode m_X5_readKind.2.1 215 = .ok (.invokevirtual 148, 3) := by decide +kernel
theorem d_X5_readKind_218 : decode m_X5_readKind.2.1 218 = .ok (.aload_n 0, 1) := by decide +kernel
theorem d_X5_readKind_219 : decode m_X5_readKind.2.1 219 = .ok (.dup, 1) := by decide +kernel
theorem d_X5_readKind_220 : decode m_X5_readKind.2.1 220 = .ok (.getfield 47, 3) := by decide +kernel
theorem d_X5_readKind_223 : decode m_X5_readKind.2.1 223 = .ok (.iconst 1, 1) := by decide +kernel
theorem d_X5_readKind_224 : decode m_X5_readKind.2.1 224 = .ok (.iadd, 1) := by decide +kernel
theorem d_X5_readKind_225 : decode m_X5_readKind.2.1 225 = .ok (.putfield 47, 3) := by decide +kernel
theorem d_X5_readKind_228 : decode m_X5_readKind.2.1 228 = .ok (.iconst 1, 1) := by decide +kernel
theorem d_X5_readKind_229 : decode m_X5_readKind.2.1 229 = .ok (.ireturn, 1) := by decide +kernel
set_option maxRecDepth 20000 in
theorem e_X5_readKind {E : jm_E} {d : Nat} {μ : jm_M} {Q : Option jm_V → jm_M → Prop} {v0 : Int} (h : (∀ v ∈ ([jm_R v0, jm_R 1] : List jm_V), jm_ok v) →
  (jm_is jm_N v0 1 5) ∧
  ((μ v0 4 < 10 →
    jc E m_X7_advance d [jm_R 1] μ (fun (o : Option jm_V) (m3 : jm_M) => o = none →
    jc E m_X5_isNewName d [jm_R v0, jm_R 1] m3 (fun (o : Option jm_V) (m4 : jm_M) => ∀ r5 : Int, o = some (jm_I r5) → (r5 = 0 ∨ r5 = 1) →
    ((r5 ≠ 0 →
      (0 ≤ m4 v0 4 ∧ m4 v0 4 < 10) ∧
      ∀ m9 : jm_M, m9 = (jm_up m4 ((v0 + 3)) (m4 v0 4) (m4 1 6)) →
      (0 ≤ m9 v0 4 ∧ m9 v0 4 < 10) ∧
      ∀ m11 : jm_M, m11 = (jm_up m9 ((v0 + 4)) (m9 v0 4) 0) →
      (0 ≤ m11 v0 4 ∧ m11 v0 4 < 10) ∧
      ∀ m13 : jm_M, m13 = (jm_up m11 ((v0 + 5)) (m11 v0 4) 0) →
      (0 ≤ m13 v0 4 ∧ m13 v0 4 < 10) ∧
      ∀ m15 : jm_M, m15 = (jm_up m13 ((v0 + 6)) (m13 v0 4) 0) →
      (0 ≤ m15 v0 4 ∧ m15 v0 4 < 10) ∧
      ∀ m17 : jm_M, m17 = (jm_up m15 ((v0 + 7)) (m15 v0 4) 0) →
      jc E m_X7_advance d [jm_R 1] m17 (fun (o : Option jm_V) (m18 : jm_M) => o = none →
      jc E m_X7_isTerm d [jm_R 1, jm_R ((-18))] m18 (fun (o : Option jm_V) (m19 : jm_M) => ∀ r20 : Int, o = some (jm_I r20) → (r20 = 0 ∨ r20 = 1) →
      ((r20 ≠ 0 →
        jg E m_X5_readKind d 110 [some (jm_R v0), some (jm_R 1)] [] m19 Q) ∧
       (¬ (r20 ≠ 0) →
        jc E m_X7_isTerm d [jm_R 1, jm_R ((-19))] m19 (fun (o : Option jm_V) (m23 : jm_M) => ∀ r24 : Int, o = some (jm_I r24) → (r24 = 0 ∨ r24 = 1) →
        ((r24 = 0 →
          jg E m_X5_readKind d 138 [some (jm_R v0), some (jm_R 1)] [] m23 Q) ∧
         (¬ (r24 = 0) →
          jg E m_X5_readKind d 110 [some (jm_R v0), some (jm_R 1)] [] m23 Q)))))))) ∧
     (¬ (r5 ≠ 0) →
      Q (some (jm_I 0)) m4))))) ∧
   (¬ (μ v0 4 < 10) →
    jc E m_X7_fails d [jm_R 1, jm_I 4, jm_I (μ 1 5)] μ (fun (o : Option jm_V) (m27 : jm_M) => ∀ r28 : Int, o = some (jm_I r28) → (r28 = 0 ∨ r28 = 1) →
    Q (some (jm_I r28)) m27)))) : jc E m_X5_readKind (d + 1) [jm_R v0, jm_R 1] μ Q := by
  refine jm_Cl.of2 (by decide +kernel) (L0 := [some (jm_R v0), some (jm_R 1)]) rfl (Nat.le_of_ble_eq_true rfl) (fun hok => ?_)
  have h := h hok
  refine jm_aloadn d_X5_readKind_0 rfl ?_
  obtain ⟨f1, h⟩ := h
  refine jm_getI (k := 4) (ki := 4) cf_X5 (Nat.le_of_ble_eq_true rfl) f_X5_47 d_X5_readKind_1 rfl rfl f1 rfl ?_
  refine jm_bipush (v := 10) d_X5_readKind_4 rfl (jm_okI (by decide) (by decide)) ?_
  refine jm_icmp_lt (tgt := 19) d_X5_readKind_6 (by decide) (fun c2 => ?_) (fun c2 => ?_)
  · have h := h.1 c2
    refine jm_aloadn d_X5_readKind_19 rfl ?_
    refine jm_invV (n1 := jm_N) (mc := 0) (ms := 0) (av := []) w_X7_advance l_X5_148 d_X5_readKind_20 rfl is_1 ⟨_, _, rfl⟩ ⟨Nat.le_refl _, Nat.le_refl _⟩ (Nat.le_of_ble_eq_true rfl) rfl ?_
    refine jm_Cl.mono h (fun o m3 h hr _ => ?_)
    obtain rfl := jm_rokV hr
    have h := h rfl
    refine jm_aloadn d_X5_readKind_23 rfl ?_
    refine jm_aloadn d_X5_readKind_24 rfl ?_
    refine jm_invV (n1 := jm_N) (mc := 0) (ms := 0) (av := [jm_R _]) w_X5_isNewName l_X5_168 d_X5_readKind_25 rfl f1 ⟨_, _, rfl⟩ ⟨Nat.le_refl _, Nat.le_refl _⟩ (Nat.le_of_ble_eq_true rfl) rfl ?_
    refine jm_Cl.mono h (fun o m4 h hr _ => ?_)
    obtain ⟨r5, rfl, z6⟩ := jm_rokZ hr
    have h := h _ rfl z6
    refine jm_if_ne (tgt := 33) d_X5_readKind_28 (by decide) (fun c7 => ?_) (fun c7 => ?_)
    · have h := h.1 c7
      refine jm_aloadn d_X5_readKind_33 rfl ?_
      refine jm_getF (k := 5) (ki := 5) rfl cf_X5 (Nat.le_of_ble_eq_true rfl) f_X5_19 d_X5_readKind_34 rfl rfl f1 (fc_5_5 f1) ?_
      refine jm_aloadn d_X5_readKind_37 rfl ?_
      refine jm_getI (k := 4) (ki := 4) cf_X5 (Nat.le_of_ble_eq_true rfl) f_X5_47 d_X5_readKind_38 rfl rfl f1 rfl ?_
      refine jm_aloadn d_X5_readKind_41 rfl ?_
      refine jm_getL (k := 6) (ki := 6) cf_X7 (Nat.le_of_ble_eq_true rfl) f_X5_157 d_X5_readKind_42 rfl rfl is_1 rfl ?_
      obtain ⟨f8, h⟩ := h
      refine jm_lastore d_X5_readKind_45 (xc_5_5 f1 f8.1 f8.2) ?_
      have h := h _ rfl
      refine jm_aloadn d_X5_readKind_46 rfl ?_
      refine jm_getF (k := 6) (ki := 6) rfl cf_X5 (Nat.le_of_ble_eq_true rfl) f_X5_22 d_X5_readKind_47 rfl rfl f1 (fc_5_6 f1) ?_
      refine jm_aloadn d_X5_readKind_50 rfl ?_
      refine jm_getI (k := 4) (ki := 4) cf_X5 (Nat.le_of_ble_eq_true rfl) f_X5_47 d_X5_readKind_51 rfl rfl f1 rfl ?_
      refine jm_iconst (v := 0) d_X5_readKind_54 rfl (jm_okI (by decide) (by decide)) ?_
      obtain ⟨f10, h⟩ := h
      refine jm_iastore d_X5_readKind_55 (xc_5_6 f1 f10.1 f10.2) ?_
      have h := h _ rfl
      refine jm_aloadn d_X5_readKind_56 rfl ?_
      refine jm_getF (k := 7) (ki := 7) rfl cf_X5 (Nat.le_of_ble_eq_true rfl) f_X5_25 d_X5_readKind_57 rfl rfl f1 (fc_5_7 f1) ?_
      refine jm_aloadn d_X5_readKind_60 rfl ?_
      refine jm_getI (k := 4) (ki := 4) cf_X5 (Nat.le_of_ble_eq_true rfl) f_X5_47 d_X5_readKind_61 rfl rfl f1 rfl ?_
      refine jm_iconst (v := 0) d_X5_readKind_64 rfl (jm_okI (by decide) (by decide)) ?_
      obtain ⟨f12, h⟩ := h
      refine jm_iastore d_X5_readKind_65 (xc_5_7 f1 f12.1 f12.2) ?_
      have h := h _ rfl
      refine jm_aloadn d_X5_readKind_66 rfl ?_
      refine jm_getF (k := 8) (ki := 8) rfl cf_X5 (Nat.le_of_ble_eq_true rfl) f_X5_28 d_X5_readKind_67 rfl rfl f1 (fc_5_8 f1) ?_
      refine jm_aloadn d_X5_readKind_70 rfl ?_
      refine jm_getI (k := 4) (ki := 4) cf_X5 (Nat.le_of_ble_eq_true rfl) f_X5_47 d_X5_readKind_71 rfl rfl f1 rfl ?_
      refine jm_iconst (v := 0) d_X5_readKind_74 rfl (jm_okI (by decide) (by decide)) ?_
      obtain ⟨f14, h⟩ := h
      refine jm_iastore d_X5_readKind_75 (xc_5_8 f1 f14.1 f14.2) ?_
      have h := h _ rfl
      refine jm_aloadn d_X5_readKind_76 rfl ?_
      refine jm_getF (k := 9) (ki := 9) rfl cf_X5 (Nat.le_of_ble_eq_true rfl) f_X5_31 d_X5_readKind_77 rfl rfl f1 (fc_5_9 f1) ?_
      refine jm_aloadn d_X5_readKind_80 rfl ?_
      refine jm_getI (k := 4) (ki := 4) cf_X5 (Nat.le_of_ble_eq_true rfl) f_X5_47 d_X5_readKind_81 rfl rfl f1 rfl ?_
      refine jm_iconst (v := 0) d_X5_readKind_84 rfl (jm_okI (by decide) (by decide)) ?_
      obtain ⟨f16, h⟩ := h
      refine jm_iastore d_X5_readKind_85 (xc_5_9 f1 f16.1 f16.2) ?_
      have h := h _ rfl
      refine jm_aloadn d_X5_readKind_86 rfl ?_
      refine jm_invV (n1 := jm_N) (mc := 0) (ms := 0) (av := []) w_X7_advance l_X5_148 d_X5_readKind_87 rfl is_1 ⟨_, _, rfl⟩ ⟨Nat.le_refl _, Nat.le_refl _⟩ (Nat.le_of_ble_eq_true rfl) rfl ?_
      refine jm_Cl.mono h (fun o m18 h hr _ => ?_)
      obtain rfl := jm_rokV hr
      have h := h rfl
      refine jm_aloadn d_X5_readKind_90 rfl ?_
      refine jm_getT (i := 7) (a := -18) (Nat.le_of_ble_eq_true rfl) (by decide) rfl f_X5_177 d_X5_readKind_91 ?_
      refine jm_invV (n1 := jm_N) (mc := 0) (ms := 0) (av := [jm_R _]) w_X7_isTerm l_X5_113 d_X5_readKind_94 rfl is_1 ⟨_, _, rfl⟩ ⟨Nat.le_refl _, Nat.le_refl _⟩ (Nat.le_of_ble_eq_true rfl) rfl ?_
      refine jm_Cl.mono h (fun o m19 h hr _ => ?_)
      obtain ⟨r20, rfl, z21⟩ := jm_rokZ hr
      have h := h _ rfl z21
      refine jm_if_ne (tgt := 110) d_X5_readKind_97 (by decide) (fun c22 => ?_) (fun c22 => ?_)
      · have h := h.1 c22
        exact h
      · have h := h.2 c22
        refine jm_aloadn d_X5_readKind_100 rfl ?_
        refine jm_getT (i := 8) (a := -19) (Nat.le_of_ble_eq_true rfl) (by decide) rfl f_X5_180 d_X5_readKind_101 ?_
        refine jm_invV (n1 := jm_N) (mc := 0) (ms := 0) (av := [jm_R _]) w_X7_isTerm l_X5_113 d_X5_readKind_104 rfl is_1 ⟨_, _, rfl⟩ ⟨Nat.le_refl _, Nat.le_refl _⟩ (Nat.le_of_ble_eq_true rfl) rfl ?_
        refine jm_Cl.mono h (fun o m23 h hr _ => ?_)
        obtain ⟨r24, rfl, z25⟩ := jm_rokZ hr
        have h := h _ rfl z25
        refine jm_if_eq (tgt := 138) d_X5_readKind_107 (by decide) (fun c26 => ?_) (fun c26 => ?_)
        · have h := h.1 c26
          exact h
        · have h := h.2 c26
          exact h
    · have h := h.2 c7
      refine jm_iconst (v := 0) d_X5_readKind_31 rfl (jm_okI (by decide) (by decide)) ?_
      exact jm_ret (o := some (jm_I _)) d_X5_readKind_32 rfl ⟨Nat.le_refl _, Nat.le_refl _⟩ (jm_r_Z (by decide)) h rfl
  · have h := h.2 c2
    refine jm_aloadn d_X5_readKind_9 rfl ?_
    refine jm_iconst (v := 4) d_X5_readKind_10 rfl (jm_okI (by decide) (by decide)) ?_
    refine jm_aloadn d_X5_readKind_11 rfl ?_
    refine jm_getI (k := 5) (ki := 5) cf_X7 (Nat.le_of_ble_eq_true rfl) f_X5_141 d_X5_readKind_12 rfl rfl is_1 rfl ?_
    refine jm_invV (n1 := jm_N) (mc := 0) (ms := 0) (av := [jm_I _, jm_I _]) w_X7_fails l_X5_144 d_X5_readKind_15 rfl is_1 ⟨_, _, rfl⟩ ⟨Nat.le_refl _, Nat.le_refl _⟩ (Nat.le_of_ble_eq_true rfl) rfl ?_
    refine jm_Cl.mono h (fun o m27 h hr _ => ?_)
    obtain ⟨r28, rfl, z29⟩ := jm_rokZ hr
    have h := h _ rfl z29
    exact jm_ret (o := some (jm_I _)) d_X5_readKind_18 rfl ⟨Nat.le_refl _, Nat.le_refl _⟩ (jm_r_Z z29) h rfl
set_option maxRecDepth 20000 in
theorem r_X5_readKind_110 {E : jm_E} {d : Nat} {μ : jm_M} {Q : Option jm_V → jm_M → Prop} {v0 : Int} (h :
  (jm_is jm_N v0 1 5) ∧
  jc E m_X7_isTerm d [jm_R 1, jm_R ((-18))] μ (fun (o : Option jm_V) (m2 : jm_M) => ∀ r3 : Int, o = some (jm_I r3) → (r3 = 0 ∨ r3 = 1) →
  ((r3 = 0 →
    (0 ≤ μ v0 4 ∧ μ v0 4 < 10) ∧
    ∀ m7 : jm_M, m7 = (jm_up m2 ((v0 + 4)) (μ v0 4) 2) →
    jc E m_X7_advance d [jm_R 1] m7 (fun (o : Option jm_V) (m8 : jm_M) => o = none →
    jg E m_X5_readKind d 138 [some (jm_R v0), some (jm_R 1)] [] m8 Q)) ∧
   (¬ (r3 = 0) →
    (0 ≤ μ v0 4 ∧ μ v0 4 < 10) ∧
    ∀ m10 : jm_M, m10 = (jm_up m2 ((v0 + 4)) (μ v0 4) 1) →
    jc E m_X7_advance d [jm_R 1] m10 (fun (o : Option jm_V) (m11 : jm_M) => o = none →
    jg E m_X5_readKind d 138 [some (jm_R v0), some (jm_R 1)] [] m11 Q))))) : jg E m_X5_readKind d 110 [some (jm_R v0), some (jm_R 1)] [] μ Q := by
  refine jm_aloadn d_X5_readKind_110 rfl ?_
  obtain ⟨f1, h⟩ := h
  refine jm_getF (k := 6) (ki := 6) rfl cf_X5 (Nat.le_of_ble_eq_true rfl) f_X5_22 d_X5_readKind_111 rfl rfl f1 (fc_5_6 f1) ?_
  refine jm_aloadn d_X5_readKind_114 rfl ?_
  refine jm_getI (k := 4) (ki := 4) cf_X5 (Nat.le_of_ble_eq_true rfl) f_X5_47 d_X5_readKind_115 rfl rfl f1 rfl ?_
  refine jm_aloadn d_X5_readKind_118 rfl ?_
  refine jm_getT (i := 7) (a := -18) (Nat.le_of_ble_eq_true rfl) (by decide) rfl f_X5_177 d_X5_readKind_119 ?_
  refine jm_invV (n1 := jm_N) (mc := 0) (ms := 0) (av := [jm_R _]) w_X7_isTerm l_X5_113 d_X5_readKind_122 rfl is_1 ⟨_, _, rfl⟩ ⟨Nat.le_refl _, Nat.le_refl _⟩ (Nat.le_of_ble_eq_true rfl) rfl ?_
  refine jm_Cl.mono h (fun o m2 h hr _ => ?_)
  obtain ⟨r3, rfl, z4⟩ := jm_rokZ hr
  have h := h _ rfl z4
  refine jm_if_eq (tgt := 132) d_X5_readKind_125 (by decide) (fun c5 => ?_) (fun c5 => ?_)
  · have h := h.1 c5
    refine jm_iconst (v := 2) d_X5_readKind_132 rfl (jm_okI (by decide) (by decide)) ?_
    obtain ⟨f6, h⟩ := h
    refine jm_iastore d_X5_readKind_133 (xc_5_6 f1 f6.1 f6.2) ?_
    have h := h _ rfl
    refine jm_aloadn d_X5_readKind_134 rfl ?_
    refine jm_invV (n1 := jm_N) (mc := 0) (ms := 0) (av := []) w_X7_advance l_X5_148 d_X5_readKind_135 rfl is_1 ⟨_, _, rfl⟩ ⟨Nat.le_refl _, Nat.le_refl _⟩ (Nat.le_of_ble_eq_true rfl) rfl ?_
    refine jm_Cl.mono h (fun o m8 h hr _ => ?_)
    obtain rfl := jm_rokV hr
    have h := h rfl
    exact h
  · have h := h.2 c5
    refine jm_iconst (v := 1) d_X5_readKind_128 rfl (jm_okI (by decide) (by decide)) ?_
    refine jm_goto (tgt := 133) d_X5_readKind_129 (by decide) ?_
    obtain ⟨f9, h⟩ := h
    refine jm_iastore d_X5_readKind_133 (xc_5_6 f1 f9.1 f9.2) ?_
    have h := h _ rfl
    refine jm_aloadn d_X5_readKind_134 rfl ?_
    refine jm_invV (n1 := jm_N) (mc := 0) (ms := 0) (av := []) w_X7_advance l_X5_148 d_X5_readKind_135 rfl is_1 ⟨_, _, rfl⟩ ⟨Nat.le_refl _, Nat.le_refl _⟩ (Nat.le_of_ble_eq_true rfl) rfl ?_
    refine jm_Cl.mono h (fun o m11 h hr _ => ?_)
    obtain rfl := jm_rokV hr
    have h := h rfl
    exact h
set_option maxRecDepth 20000 in
theorem r_X5_readKind_138 {E : jm_E} {d : Nat} {μ : jm_M} {Q : Option jm_V → jm_M → Prop} {v0 : Int} (h :
  ((μ 1 4 ≠ 1 →
    (jm_is jm_N v0 1 5) ∧
    Q (some (jm_I 1)) (jm_up μ v0 4 (jm_wr ((μ v0 4) + 1)))) ∧
   (¬ (μ 1 4 ≠ 1) →
    (jm_it (μ 1 7)) ∧
    (((jm_do (μ 1 7)) = 0 →
      (jm_is jm_N v0 1 5) ∧
      Q (some (jm_I 1)) (jm_up μ v0 4 (jm_wr ((μ v0 4) + 1)))) ∧
     (¬ ((jm_do (μ 1 7)) = 0) →
      (jm_is jm_N v0 1 5) ∧
      (0 ≤ μ v0 4 ∧ μ v0 4 < 10) ∧
      ∀ m8 : jm_M, m8 = (jm_up μ ((v0 + 5)) (μ v0 4) (jm_do (μ 1 7))) →
      jc E m_X7_advance d [jm_R 1] m8 (fun (o : Option jm_V) (m9 : jm_M) => o = none →
      (0 ≤ m9 v0 4 ∧ m9 v0 4 < 10) ∧
      (((m9 ((v0 + 5)) (m9 v0 4)) ≠ 2 →
        Q (some (jm_I 1)) (jm_up m9 v0 4 (jm_wr ((m9 v0 4) + 1)))) ∧
       (¬ ((m9 ((v0 + 5)) (m9 v0 4)) ≠ 2) →
        jc E m_X7_isNumber d [jm_R 1, jm_I 1, jm_I 99] m9 (fun (o : Option jm_V) (m12 : jm_M) => ∀ r13 : Int, o = some (jm_I r13) → (r13 = 0 ∨ r13 = 1) →
        ((r13 ≠ 0 →
          (0 ≤ m12 v0 4 ∧ m12 v0 4 < 10) ∧
          ∀ m17 : jm_M, m17 = (jm_up m12 ((v0 + 6)) (m12 v0 4) (m12 1 8)) →
          jc E m_X7_advance d [jm_R 1] m17 (fun (o : Option jm_V) (m18 : jm_M) => o = none →
          Q (some (jm_I 1)) (jm_up m18 v0 4 (jm_wr ((m18 v0 4) + 1))))) ∧
         (¬ (r13 ≠ 0) →
          Q (some (jm_I 0)) m12))))))))))) : jg E m_X5_readKind d 138 [some (jm_R v0), some (jm_R 1)] [] μ Q := by
  refine jm_aloadn d_X5_readKind_138 rfl ?_
  refine jm_getI (k := 4) (ki := 4) cf_X7 (Nat.le_of_ble_eq_true rfl) f_X5_92 d_X5_readKind_139 rfl rfl is_1 rfl ?_
  refine jm_iconst (v := 1) d_X5_readKind_142 rfl (jm_okI (by decide) (by decide)) ?_
  refine jm_icmp_ne (tgt := 218) d_X5_readKind_143 (by decide) (fun c1 => ?_) (fun c1 => ?_)
  · have h := h.1 c1
    refine jm_aloadn d_X5_readKind_218 rfl ?_
    refine jm_dup rfl d_X5_readKind_219 ?_
    obtain ⟨f2, h⟩ := h
    refine jm_getI (k := 4) (ki := 4) cf_X5 (Nat.le_of_ble_eq_true rfl) f_X5_47 d_X5_readKind_220 rfl rfl f2 rfl ?_
    refine jm_iconst (v := 1) d_X5_readKind_223 rfl (jm_okI (by decide) (by decide)) ?_
    refine jm_iadd d_X5_readKind_224 ?_
    refine jm_putI (k := 4) (ki := 4) cf_X5 (Nat.le_of_ble_eq_true rfl) f_X5_47 d_X5_readKind_225 (fun z => absurd z (by decide)) rfl rfl rfl (fun _ => rfl) f2 ?_
    refine jm_iconst (v := 1) d_X5_readKind_228 rfl (jm_okI (by decide) (by decide)) ?_
    exact jm_ret (o := some (jm_I _)) d_X5_readKind_229 rfl ⟨Nat.le_refl _, Nat.le_refl _⟩ (jm_r_Z (by decide)) h rfl
  · have h := h.2 c1
    refine jm_aloadn d_X5_readKind_146 rfl ?_
    refine jm_getR (k := 7) (ki := 7) cf_X7 (Nat.le_of_ble_eq_true rfl) f_X5_183 d_X5_readKind_147 rfl rfl is_1 rfl ?_
    obtain ⟨f3, h⟩ := h
    refine jm_getTd f3 f_X5_186 d_X5_readKind_150 ?_
    refine jm_if_eq (tgt := 218) d_X5_readKind_153 (by decide) (fun c4 => ?_) (fun c4 => ?_)
    · have h := h.1 c4
      refine jm_aloadn d_X5_readKind_218 rfl ?_
      refine jm_dup rfl d_X5_readKind_219 ?_
      obtain ⟨f5, h⟩ := h
      refine jm_getI (k := 4) (ki := 4) cf_X5 (Nat.le_of_ble_eq_true rfl) f_X5_47 d_X5_readKind_220 rfl rfl f5 rfl ?_
      refine jm_iconst (v := 1) d_X5_readKind_223 rfl (jm_okI (by decide) (by decide)) ?_
      refine jm_iadd d_X5_readKind_224 ?_
      refine jm_putI (k := 4) (ki := 4) cf_X5 (Nat.le_of_ble_eq_true rfl) f_X5_47 d_X5_readKind_225 (fun z => absurd z (by decide)) rfl rfl rfl (fun _ => rfl) f5 ?_
      refine jm_iconst (v := 1) d_X5_readKind_228 rfl (jm_okI (by decide) (by decide)) ?_
      exact jm_ret (o := some (jm_I _)) d_X5_readKind_229 rfl ⟨Nat.le_refl _, Nat.le_refl _⟩ (jm_r_Z (by decide)) h rfl
    · have h := h.2 c4
      refine jm_aloadn d_X5_readKind_156 rfl ?_
      obtain ⟨f6, h⟩ := h
      refine jm_getF (k := 7) (ki := 7) rfl cf_X5 (Nat.le_of_ble_eq_true rfl) f_X5_25 d_X5_readKind_157 rfl rfl f6 (fc_5_7 f6) ?_
      refine jm_aloadn d_X5_readKind_160 rfl ?_
      refine jm_getI (k := 4) (ki := 4) cf_X5 (Nat.le_of_ble_eq_true rfl) f_X5_47 d_X5_readKind_161 rfl rfl f6 rfl ?_
      refine jm_aloadn d_X5_readKind_164 rfl ?_
      refine jm_getR (k := 7) (ki := 7) cf_X7 (Nat.le_of_ble_eq_true rfl) f_X5_183 d_X5_readKind_165 rfl rfl is_1 rfl ?_
      refine jm_getTd f3 f_X5_186 d_X5_readKind_168 ?_
      obtain ⟨f7, h⟩ := h
      refine jm_iastore d_X5_readKind_171 (xc_5_7 f6 f7.1 f7.2) ?_
      have h := h _ rfl
      refine jm_aloadn d_X5_readKind_172 rfl ?_
      refine jm_invV (n1 := jm_N) (mc := 0) (ms := 0) (av := []) w_X7_advance l_X5_148 d_X5_readKind_173 rfl is_1 ⟨_, _, rfl⟩ ⟨Nat.le_refl _, Nat.le_refl _⟩ (Nat.le_of_ble_eq_true rfl) rfl ?_
      refine jm_Cl.mono h (fun o m9 h hr _ => ?_)
      obtain rfl := jm_rokV hr
      have h := h rfl
      refine jm_aloadn d_X5_readKind_176 rfl ?_
      refine jm_getF (k := 7) (ki := 7) rfl cf_X5 (Nat.le_of_ble_eq_true rfl) f_X5_25 d_X5_readKind_177 rfl rfl f6 (fc_5_7 f6) ?_
      refine jm_aloadn d_X5_readKind_180 rfl ?_
      refine jm_getI (k := 4) (ki := 4) cf_X5 (Nat.le_of_ble_eq_true rfl) f_X5_47 d_X5_readKind_181 rfl rfl f6 rfl ?_
      obtain ⟨f10, h⟩ := h
      refine jm_iaload d_X5_readKind_184 (xc_5_7 f6 f10.1 f10.2) ?_
      refine jm_iconst (v := 2) d_X5_readKind_185 rfl (jm_okI (by decide) (by decide)) ?_
      refine jm_icmp_ne (tgt := 218) d_X5_readKind_186 (by decide) (fun c11 => ?_) (fun c11 => ?_)
      · have h := h.1 c11
        refine jm_aloadn d_X5_readKind_218 rfl ?_
        refine jm_dup rfl d_X5_readKind_219 ?_
        refine jm_getI (k := 4) (ki := 4) cf_X5 (Nat.le_of_ble_eq_true rfl) f_X5_47 d_X5_readKind_220 rfl rfl f6 rfl ?_
        refine jm_iconst (v := 1) d_X5_readKind_223 rfl (jm_okI (by decide) (by decide)) ?_
        refine jm_iadd d_X5_readKind_224 ?_
        refine jm_putI (k := 4) (ki := 4) cf_X5 (Nat.le_of_ble_eq_true rfl) f_X5_47 d_X5_readKind_225 (fun z => absurd z (by decide)) rfl rfl rfl (fun _ => rfl) f6 ?_
        refine jm_iconst (v := 1) d_X5_readKind_228 rfl (jm_okI (by decide) (by decide)) ?_
        exact jm_ret (o := some (jm_I _)) d_X5_readKind_229 rfl ⟨Nat.le_refl _, Nat.le_refl _⟩ (jm_r_Z (by decide)) h rfl
      · have h := h.2 c11
        refine jm_aloadn d_X5_readKind_189 rfl ?_
        refine jm_iconst (v := 1) d_X5_readKind_190 rfl (jm_okI (by decide) (by decide)) ?_
        refine jm_bipush (v := 99) d_X5_readKind_191 rfl (jm_okI (by decide) (by decide)) ?_
        refine jm_invV (n1 := jm_N) (mc := 0) (ms := 0) (av := [jm_I _, jm_I _]) w_X7_isNumber l_X5_171 d_X5_readKind_193 rfl is_1 ⟨_, _, rfl⟩ ⟨Nat.le_refl _, Nat.le_refl _⟩ (Nat.le_of_ble_eq_true rfl) rfl ?_
        refine jm_Cl.mono h (fun o m12 h hr _ => ?_)
        obtain ⟨r13, rfl, z14⟩ := jm_rokZ hr
        have h := h _ rfl z14
        refine jm_if_ne (tgt := 201) d_X5_readKind_196 (by decide) (fun c15 => ?_) (fun c15 => ?_)
        · have h := h.1 c15
          refine jm_aloadn d_X5_readKind_201 rfl ?_
          refine jm_getF (k := 8) (ki := 8) rfl cf_X5 (Nat.le_of_ble_eq_true rfl) f_X5_28 d_X5_readKind_202 rfl rfl f6 (fc_5_8 f6) ?_
          refine jm_aloadn d_X5_readKind_205 rfl ?_
          refine jm_getI (k := 4) (ki := 4) cf_X5 (Nat.le_of_ble_eq_true rfl) f_X5_47 d_X5_readKind_206 rfl rfl f6 rfl ?_
          refine jm_aloadn d_X5_readKind_209 rfl ?_
          refine jm_getI (k := 8) (ki := 8) cf_X7 (Nat.le_of_ble_eq_true rfl) f_X5_174 d_X5_readKind_210 rfl rfl is_1 rfl ?_
          obtain ⟨f16, h⟩ := h
          refine jm_iastore d_X5_readKind_213 (xc_5_8 f6 f16.1 f16.2) ?_
          have h := h _ rfl
          refine jm_aloadn d_X5_readKind_214 rfl ?_
          refine jm_invV (n1 := jm_N) (mc := 0) (ms := 0) (av := []) w_X7_advance l_X5_148 d_X5_readKind_215 rfl is_1 ⟨_, _, rfl⟩ ⟨Nat.le_refl _, Nat.le_refl _⟩ (Nat.le_of_ble_eq_true rfl) rfl ?_
          refine jm_Cl.mono h (fun o m18 h hr _ => ?_)
          obtain rfl := jm_rokV hr
          have h := h rfl
          refine jm_aloadn d_X5_readKind_218 rfl ?_
          refine jm_dup rfl d_X5_readKind_219 ?_
          refine jm_getI (k := 4) (ki := 4) cf_X5 (Nat.le_of_ble_eq_true rfl) f_X5_47 d_X5_readKind_220 rfl rfl f6 rfl ?_
          refine jm_iconst (v := 1) d_X5_readKind_223 rfl (jm_okI (by decide) (by decide)) ?_
          refine jm_iadd d_X5_readKind_224 ?_
          refine jm_putI (k := 4) (ki := 4) cf_X5 (Nat.le_of_ble_eq_true rfl) f_X5_47 d_X5_readKind_225 (fun z => absurd z (by decide)) rfl rfl rfl (fun _ => rfl) f6 ?_
          refine jm_iconst (v := 1) d_X5_readKind_228 rfl (jm_okI (by decide) (by decide)) ?_
          exact jm_ret (o := some (jm_I _)) d_X5_readKind_229 rfl ⟨Nat.le_refl _, Nat.le_refl _⟩ (jm_r_Z (by decide)) h rfl
        · have h := h.2 c15
          refine jm_iconst (v := 0) d_X5_readKind_199 rfl (jm_okI (by decide) (by decide)) ?_
          exact jm_ret (o := some (jm_I _)) d_X5_readKind_200 rfl ⟨Nat.le_refl _, Nat.le_refl _⟩ (jm_r_Z (by decide)) h rfl
/-! ('CombTable$Table', 'readMay', '(LCombTable$Tape;)Z') -/
theorem d_X5_readMay_0 : decode m_X5_readMay.2.1 0 = .ok (.aload_n 0, 1) := by decide +kernel
theorem d_X5_readMay_1 : decode m_X5_readMay.2.1 1 = .ok (.getfield 50, 3) := by decide +kernel
theorem d_X5_readMay_4 : decode m_X5_readMay.2.1 4 = .ok (.bipush 40, 2) := by decide +kernel
theorem d_X5_readMay_6 : decode m_X5_readMay.2.1 6 = .ok (.if_icmp .lt 13, 3) := by decide +kernel
theorem d_X5_readMay_9 : decode m_X5_readMay.2.1 9 = .ok (.aload_n 1, 1) := by decide +kernel
theorem d_X5_readMay_10 : decode m_X5_readMay.2.1 10 = .ok (.iconst 4, 1) := by decide +kernel
theorem d_X5_readMay_11 : decode m_X5_readMay.2.1 11 = .ok (.aload_n 1, 1) := by decide +kernel
theorem d_X5_readMay_12 : decode m_X5_readMay.2.1 12 = .ok (.getfield 141, 3) := by decide +kernel
theorem d_X5_readMay_15 : decode m_X5_readMay.2.1 15 = .ok (.invokevirtual 144, 3) := by decide +kernel
theorem d_X5_readMay_18 : decode m_X5_readMay.2.1 18 = .ok (.ireturn, 1) := by decide +kernel
theorem d_X5_readMay_19 : decode m_X5_readMay.2.1 19 = .ok (.aload_n 1, 1) := by decide +kernel
theorem d_X5_readMay_20 : decode m_X5_readMay.2.1 20 = .ok (.invokevirtual 148, 3) := by decide +kernel
theorem d_X5_readMay_23 : decode m_X5_readMay.2.1 23 = .ok (.aload_n 1, 1) := by decide +kernel
theorem d_X5_readMay_24 : decode m_X5_readMay.2.1 24 = .ok (.aload_n 0, 1) := by decide +kernel
theorem d_X5_readMay_25 : decode m_X5_readMay.2.1 25 = .ok (.invokevirtual 188, 3) := by decide +kernel
theorem d_X5_readMay_28 : decode m_X5_readMay.2.1 28 = .ok (.istore_n 2, 1) := by decide +kernel
theorem d_X5_readMay_29 : decode m_X5_readMay.2.1 29 = .ok (.aload_n 0, 1) := by decide +kernel
theorem d_X5_readMay_30 : decode m_X5_readMay.2.1 30 = .ok (.iload_n 2, 1) := by decide +kernel
theorem d_X5_readMay_31 : decode m_X5_readMay.2.1 31 = .ok (.invokevirtual 69, 3) := by decide +kernel
theorem d_X5_readMay_34 : decode m_X5_readMay.2.1 34 = .ok (.ifCond .ne 5, 3) := by decide +kernel
theorem d_X5_readMay_37 : decode m_X5_readMay.2.1 37 = .ok (.iconst 0, 1) := by decide +kernel
theorem d_X5_readMay_38 : decode m_X5_readMay.2.1 38 = .ok (.ireturn, 1) := by decide +kernel
theorem d_X5_readMay_39 : decode m_X5_readMay.2.1 39 = .ok (.aload_n 1, 1) := by decide +kernel
theorem d_X5_readMay_40 : decode m_X5_readMay.2.1 40 = .ok (.invokevirtual 148, 3) := by decide +kernel
theorem d_X5_readMay_43 : decode m_X5_readMay.2.1 43 = .ok (.aload_n 1, 1) := by decide +kernel
theorem d_X5_readMay_44 : decode m_X5_readMay.2.1 44 = .ok (.aload_n 0, 1) := by decide +kernel
theorem d_X5_readMay_45 : decode m_X5_readMay.2.1 45 = .ok (.invokevirtual 188, 3) := by decide +kernel
theorem d_X5_readMay_48 : decode m_X5_readMay.2.1 48 = .ok (.istore_n 3, 1) := by decide +kernel
theorem d_X5_readMay_49 : decode m_X5_readMay.2.1 49 = .ok (.aload_n 0, 1) := by decide +kernel
theorem d_X5_readMay_50 : decode m_X5_readMay.2.1 50 = .ok (.iload_n 3, 1) := by decide +kernel
theorem d_X5_readMay_51 : decode m_X5_readMay.2.1 51 = .ok (.invokevirtual 69, 3) := by decide +kernel
theorem d_X5_readMay_54 : decode m_X5_readMay.2.1 54 = .ok (.ifCond .ne 5, 3) := by decide +kernel
theorem d_X5_readMay_57 : decode m_X5_readMay.2.1 57 = .ok (.iconst 0, 1) := by decide +kernel
theorem d_X5_readMay_58 : decode m_X5_readMay.2.1 58 = .ok (.ireturn, 1) := by decide +kernel
theorem d_X5_readMay_59 : decode m_X5_readMay.2.1 59 = .ok (.aload_n 0, 1) := by decide +kernel
theorem d_X5_readMay_60 : decode m_X5_readMay.2.1 60 = .ok (.iload_n 2, 1) := by decide +kernel
theorem d_X5_readMay_61 : decode m_X5_readMay.2.1 61 = .ok (.iload_n 3, 1) := by decide +kernel
theorem d_X5_readMay_62 : decode m_X5_readMay.2.1 62 = .ok (.invokevirtual 192, 3) := by decide +kernel
theorem d_X5_readMay_65 : decode m_X5_readMay.2.1 65 = .ok (.ifCond .eq 13, 3) := by decide +kernel
theorem d_X5_readMay_68 : decode m_X5_readMay.2.1 68 = .ok (.aload_n 1, 1) := by decide +kernel
theorem d_X5_readMay_69 : decode m_X5_readMay.2.1 69 = .ok (.iconst 3, 1) := by decide +kernel
theorem d_X5_readMay_70 : decode m_X5_readMay.2.1 70 = .ok (.aload_n 1, 1) := by decide +kernel
theorem d_X5_readMay_71 : decode m_X5_readMay.2.1 71 = .ok (.getfield 141, 3) := by decide +kernel
theorem d_X5_readMay_74 : decode m_X5_readMay.2.1 74 = .ok (.invokevirtual 144, 3) := by decide +kernel
theorem d_X5_readMay_77 : decode m_X5_readMay.2.1 77 = .ok (.ireturn, 1) := by decide +kernel
theorem d_X5_readMay_78 : decode m_X5_readMay.2.1 78 = .ok (.aload_n 0, 1) := by decide +kernel
theorem d_X5_readMay_79 : decode m_X5_readMay.2.1 79 = .ok (.getfield 31, 3) := by decide +kernel
theorem d_X5_readMay_82 : decode m_X5_readMay.2.1 82 = .ok (.iload_n 2, 1) := by decide +kernel
theorem d_X5_readMay_83 : decode m_X5_readMay.2.1 83 = .ok (.dup2, 1) := by decide +kernel
theorem d_X5_readMay_84 : decode m_X5_readMay.2.1 84 = .ok (.iaload, 1) := by decide +kernel
theorem d_X5_readMay_85 : decode m_X5_readMay.2.1 85 = .ok (.iconst 1, 1) := by decide +kernel
theorem d_X5_readMay_86 : decode m_X5_readMay.2.1 86 = .ok (.iload_n 3, 1) := by decide +kernel
theorem d_X5_readMay_87 : decode m_X5_readMay.2.1 87 = .ok (.ishl, 1) := by decide +kernel
theorem d_X5_readMay_88 : decode m_X5_readMay.2.1 88 = .ok (.ior, 1) := by decide +kernel
theorem d_X5_readMay_89 : decode m_X5_readMay.2.1 89 = .ok (.iastore, 1) := by decide +kernel
theorem d_X5_readMay_90 : decode m_X5_readMay.2.1 90 = .ok (.aload_n 0, 1) := by decide +kernel
theorem d_X5_readMay_91 : decode m_X5_readMay.2.1 91 = .ok (.dup, 1) := by decide +kernel
theorem d_X5_readMay_92 : decode m_X5_readMay.2.1 92 = .ok (.getfield 50, 3) := by decide +kernel
theorem d_X5_readMay_95 : decode m_X5_readMay.2.1 95 = .ok (.iconst 1, 1) := by decide +kernel
theorem d_X5_readMay_96 : decode m_X5_readMay.2.1 96 = .ok (.iadd, 1) := by decide +kernel
theorem d_X5_readMay_97 : decode m_X5_readMay.2.1 97 = .ok (.putfield 50, 3) := by decide +kernel
theorem d_X5_readMay_100 : decode m_X5_readMay.2.1 100 = .ok (.aload_n 1, 1) := by decide +kernel
theorem d_X5_readMay_101 : decode m_X5_readMay.2.1 101 = .ok (.invokevirtual 148, 3) := by decide +kernel
theorem d_X5_readMay_104 : decode m_X5_readMay.2.1 104 = .ok (.iconst 1, 1) := by decide +kernel
theorem d_X5_readMay_105 : decode m_X5_readMay.2.1 105 = .ok (.ireturn, 1) := by decide +kernel
set_option maxRecDepth 20000 in
theorem e_X5_readMay {E : jm_E} {d : Nat} {μ : jm_M} {Q : Option jm_V → jm_M → Prop} {v0 : Int} (h : (∀ v ∈ ([jm_R v0, jm_R 1] : List jm_V), jm_ok v) →
  (jm_is jm_N v0 1 5) ∧
  ((μ v0 10 < 40 →
    jc E m_X7_advance d [jm_R 1] μ (fun (o : Option jm_V) (m3 : jm_M) => o = none →
    jc E m_X7_kindHere d [jm_R 1, jm_R v0] m3 (fun (o : Option jm_V) (m4 : jm_M) => ∀ r5 : Int, o = some (jm_I r5) →
    jc E m_X5_hasKind d [jm_R v0, jm_I r5] m4 (fun (o : Option jm_V) (m6 : jm_M) => ∀ r7 : Int, o = some (jm_I r7) → (r7 = 0 ∨ r7 = 1) →
    ((r7 ≠ 0 →
      jc E m_X7_advance d [jm_R 1] m6 (fun (o : Option jm_V) (m10 : jm_M) => o = none →
      jc E m_X7_kindHere d [jm_R 1, jm_R v0] m10 (fun (o : Option jm_V) (m11 : jm_M) => ∀ r12 : Int, o = some (jm_I r12) →
      jc E m_X5_hasKind d [jm_R v0, jm_I r12] m11 (fun (o : Option jm_V) (m13 : jm_M) => ∀ r14 : Int, o = some (jm_I r14) → (r14 = 0 ∨ r14 = 1) →
      ((r14 ≠ 0 →
        jc E m_X5_mayAnswer d [jm_R v0, jm_I r5, jm_I r12] m13 (fun (o : Option jm_V) (m17 : jm_M) => ∀ r18 : Int, o = some (jm_I r18) → (r18 = 0 ∨ r18 = 1) →
        ((r18 = 0 →
          (0 ≤ r5 ∧ r5 < 10) ∧
          ∀ m22 : jm_M, m22 = (jm_up m17 ((v0 + 7)) r5 (jm_or (m17 ((v0 + 7)) r5) (jm_shl 1 r12))) →
          jc E m_X7_advance d [jm_R 1] (jm_up m22 v0 10 (jm_wr ((m22 v0 10) + 1))) (fun (o : Option jm_V) (m23 : jm_M) => o = none →
          Q (some (jm_I 1)) m23)) ∧
         (¬ (r18 = 0) →
          jc E m_X7_fails d [jm_R 1, jm_I 3, jm_I (m17 1 5)] m17 (fun (o : Option jm_V) (m24 : jm_M) => ∀ r25 : Int, o = some (jm_I r25) → (r25 = 0 ∨ r25 = 1) →
          Q (some (jm_I r25)) m24))))) ∧
       (¬ (r14 ≠ 0) →
        Q (some (jm_I 0)) m13)))))) ∧
     (¬ (r7 ≠ 0) →
      Q (some (jm_I 0)) m6)))))) ∧
   (¬ (μ v0 10 < 40) →
    jc E m_X7_fails d [jm_R 1, jm_I 4, jm_I (μ 1 5)] μ (fun (o : Option jm_V) (m27 : jm_M) => ∀ r28 : Int, o = some (jm_I r28) → (r28 = 0 ∨ r28 = 1) →
    Q (some (jm_I r28)) m27)))) : jc E m_X5_readMay (d + 1) [jm_R v0, jm_R 1] μ Q := by
  refine jm_Cl.of2 (by decide +kernel) (L0 := [some (jm_R v0), some (jm_R 1), none, none]) rfl (Nat.le_of_ble_eq_true rfl) (fun hok => ?_)
  have h := h hok
  refine jm_aloadn d_X5_readMay_0 rfl ?_
  obtain ⟨f1, h⟩ := h
  refine jm_getI (k := 10) (ki := 10) cf_X5 (Nat.le_of_ble_eq_true rfl) f_X5_50 d_X5_readMay_1 rfl rfl f1 rfl ?_
  refine jm_bipush (v := 40) d_X5_readMay_4 rfl (jm_okI (by decide) (by decide)) ?_
  refine jm_icmp_lt (tgt := 19) d_X5_readMay_6 (by decide) (fun c2 => ?_) (fun c2 => ?_)
  · have h := h.1 c2
    refine jm_aloadn d_X5_readMay_19 rfl ?_
    refine jm_invV (n1 := jm_N) (mc := 0) (ms := 0) (av := []) w_X7_advance l_X5_148 d_X5_readMay_20 rfl is_1 ⟨_, _, rfl⟩ ⟨Nat.le_refl _, Nat.le_refl _⟩ (Nat.le_of_ble_eq_true rfl) rfl ?_
    refine jm_Cl.mono h (fun o m3 h hr _ => ?_)
    obtain rfl := jm_rokV hr
    have h := h rfl
    refine jm_aloadn d_X5_readMay_23 rfl ?_
    refine jm_aloadn d_X5_readMay_24 rfl ?_
    refine jm_invV (n1 := jm_N) (mc := 0) (ms := 0) (av := [jm_R _]) w_X7_kindHere l_X5_188 d_X5_readMay_25 rfl is_1 ⟨_, _, rfl⟩ ⟨Nat.le_refl _, Nat.le_refl _⟩ (Nat.le_of_ble_eq_true rfl) rfl ?_
    refine jm_Cl.mono h (fun o m4 h hr _ => ?_)
    obtain ⟨r5, rfl⟩ := jm_rokI hr
    have h := h _ rfl
    refine jm_istoren (L' := [some (jm_R _), some (jm_R _), some (jm_I _), none]) d_X5_readMay_28 (Nat.le_of_ble_eq_true rfl) rfl ?_
    refine jm_aloadn d_X5_readMay_29 rfl ?_
    refine jm_iloadn d_X5_readMay_30 rfl ?_
    refine jm_invV (n1 := jm_N) (mc := 0) (ms := 0) (av := [jm_I _]) w_X5_hasKind l_X5_69 d_X5_readMay_31 rfl f1 ⟨_, _, rfl⟩ ⟨Nat.le_refl _, Nat.le_refl _⟩ (Nat.le_of_ble_eq_true rfl) rfl ?_
    refine jm_Cl.mono h (fun o m6 h hr _ => ?_)
    obtain ⟨r7, rfl, z8⟩ := jm_rokZ hr
    have h := h _ rfl z8
    refine jm_if_ne (tgt := 39) d_X5_readMay_34 (by decide) (fun c9 => ?_) (fun c9 => ?_)
    · have h := h.1 c9
      refine jm_aloadn d_X5_readMay_39 rfl ?_
      refine jm_invV (n1 := jm_N) (mc := 0) (ms := 0) (av := []) w_X7_advance l_X5_148 d_X5_readMay_40 rfl is_1 ⟨_, _, rfl⟩ ⟨Nat.le_refl _, Nat.le_refl _⟩ (Nat.le_of_ble_eq_true rfl) rfl ?_
      refine jm_Cl.mono h (fun o m10 h hr _ => ?_)
      obtain rfl := jm_rokV hr
      have h := h rfl
      refine jm_aloadn d_X5_readMay_43 rfl ?_
      refine jm_aloadn d_X5_readMay_44 rfl ?_
      refine jm_invV (n1 := jm_N) (mc := 0) (ms := 0) (av := [jm_R _]) w_X7_kindHere l_X5_188 d_X5_readMay_45 rfl is_1 ⟨_, _, rfl⟩ ⟨Nat.le_refl _, Nat.le_refl _⟩ (Nat.le_of_ble_eq_true rfl) rfl ?_
      refine jm_Cl.mono h (fun o m11 h hr _ => ?_)
      obtain ⟨r12, rfl⟩ := jm_rokI hr
      have h := h _ rfl
      refine jm_istoren (L' := [some (jm_R _), some (jm_R _), some (jm_I _), some (jm_I _)]) d_X5_readMay_48 (Nat.le_of_ble_eq_true rfl) rfl ?_
      refine jm_aloadn d_X5_readMay_49 rfl ?_
      refine jm_iloadn d_X5_readMay_50 rfl ?_
      refine jm_invV (n1 := jm_N) (mc := 0) (ms := 0) (av := [jm_I _]) w_X5_hasKind l_X5_69 d_X5_readMay_51 rfl f1 ⟨_, _, rfl⟩ ⟨Nat.le_refl _, Nat.le_refl _⟩ (Nat.le_of_ble_eq_true rfl) rfl ?_
      refine jm_Cl.mono h (fun o m13 h hr _ => ?_)
      obtain ⟨r14, rfl, z15⟩ := jm_rokZ hr
      have h := h _ rfl z15
      refine jm_if_ne (tgt := 59) d_X5_readMay_54 (by decide) (fun c16 => ?_) (fun c16 => ?_)
      · have h := h.1 c16
        refine jm_aloadn d_X5_readMay_59 rfl ?_
        refine jm_iloadn d_X5_readMay_60 rfl ?_
        refine jm_iloadn d_X5_readMay_61 rfl ?_
        refine jm_invV (n1 := jm_N) (mc := 0) (ms := 0) (av := [jm_I _, jm_I _]) w_X5_mayAnswer l_X5_192 d_X5_readMay_62 rfl f1 ⟨_, _, rfl⟩ ⟨Nat.le_refl _, Nat.le_refl _⟩ (Nat.le_of_ble_eq_true rfl) rfl ?_
        refine jm_Cl.mono h (fun o m17 h hr _ => ?_)
        obtain ⟨r18, rfl, z19⟩ := jm_rokZ hr
        have h := h _ rfl z19
        refine jm_if_eq (tgt := 78) d_X5_readMay_65 (by decide) (fun c20 => ?_) (fun c20 => ?_)
        · have h := h.1 c20
          refine jm_aloadn d_X5_readMay_78 rfl ?_
          refine jm_getF (k := 9) (ki := 9) rfl cf_X5 (Nat.le_of_ble_eq_true rfl) f_X5_31 d_X5_readMay_79 rfl rfl f1 (fc_5_9 f1) ?_
          refine jm_iloadn d_X5_readMay_82 rfl ?_
          refine jm_dup2 rfl rfl d_X5_readMay_83 ?_
          obtain ⟨f21, h⟩ := h
          refine jm_iaload d_X5_readMay_84 (xc_5_9 f1 f21.1 f21.2) ?_
          refine jm_iconst (v := 1) d_X5_readMay_85 rfl (jm_okI (by decide) (by decide)) ?_
          refine jm_iloadn d_X5_readMay_86 rfl ?_
          refine jm_ishl d_X5_readMay_87 ?_
          refine jm_ior d_X5_readMay_88 ?_
          refine jm_iastore d_X5_readMay_89 (xc_5_9 f1 f21.1 f21.2) ?_
          have h := h _ rfl
          refine jm_aloadn d_X5_readMay_90 rfl ?_
          refine jm_dup rfl d_X5_readMay_91 ?_
          refine jm_getI (k := 10) (ki := 10) cf_X5 (Nat.le_of_ble_eq_true rfl) f_X5_50 d_X5_readMay_92 rfl rfl f1 rfl ?_
          refine jm_iconst (v := 1) d_X5_readMay_95 rfl (jm_okI (by decide) (by decide)) ?_
          refine jm_iadd d_X5_readMay_96 ?_
          refine jm_putI (k := 10) (ki := 10) cf_X5 (Nat.le_of_ble_eq_true rfl) f_X5_50 d_X5_readMay_97 (fun z => absurd z (by decide)) rfl rfl rfl (fun _ => rfl) f1 ?_
          refine jm_aloadn d_X5_readMay_100 rfl ?_
          refine jm_invV (n1 := jm_N) (mc := 0) (ms := 0) (av := []) w_X7_advance l_X5_148 d_X5_readMay_101 rfl is_1 ⟨_, _, rfl⟩ ⟨Nat.le_refl _, Nat.le_refl _⟩ (Nat.le_of_ble_eq_true rfl) rfl ?_
          refine jm_Cl.mono h (fun o m23 h hr _ => ?_)
          obtain rfl := jm_rokV hr
          have h := h rfl
          refine jm_iconst (v := 1) d_X5_readMay_104 rfl (jm_okI (by decide) (by decide)) ?_
          exact jm_ret (o := some (jm_I _)) d_X5_readMay_105 rfl ⟨Nat.le_refl _, Nat.le_refl _⟩ (jm_r_Z (by decide)) h rfl
        · have h := h.2 c20
          refine jm_aloadn d_X5_readMay_68 rfl ?_
          refine jm_iconst (v := 3) d_X5_readMay_69 rfl (jm_okI (by decide) (by decide)) ?_
          refine jm_aloadn d_X5_readMay_70 rfl ?_
          refine jm_getI (k := 5) (ki := 5) cf_X7 (Nat.le_of_ble_eq_true rfl) f_X5_141 d_X5_readMay_71 rfl rfl is_1 rfl ?_
          refine jm_invV (n1 := jm_N) (mc := 0) (ms := 0) (av := [jm_I _, jm_I _]) w_X7_fails l_X5_144 d_X5_readMay_74 rfl is_1 ⟨_, _, rfl⟩ ⟨Nat.le_refl _, Nat.le_refl _⟩ (Nat.le_of_ble_eq_true rfl) rfl ?_
          refine jm_Cl.mono h (fun o m24 h hr _ => ?_)
          obtain ⟨r25, rfl, z26⟩ := jm_rokZ hr
          have h := h _ rfl z26
          exact jm_ret (o := some (jm_I _)) d_X5_readMay_77 rfl ⟨Nat.le_refl _, Nat.le_refl _⟩ (jm_r_Z z26) h rfl
      · have h := h.2 c16
        refine jm_iconst (v := 0) d_X5_readMay_57 rfl (jm_okI (by decide) (by decide)) ?_
        exact jm_ret (o := some (jm_I _)) d_X5_readMay_58 rfl ⟨Nat.le_refl _, Nat.le_refl _⟩ (jm_r_Z (by decide)) h rfl
    · have h := h.2 c9
      refine jm_iconst (v := 0) d_X5_readMay_37 rfl (jm_okI (by decide) (by decide)) ?_
      exact jm_ret (o := some (jm_I _)) d_X5_readMay_38 rfl ⟨Nat.le_refl _, Nat.le_refl _⟩ (jm_r_Z (by decide)) h rfl
  · have h := h.2 c2
    refine jm_aloadn d_X5_readMay_9 rfl ?_
    refine jm_iconst (v := 4) d_X5_readMay_10 rfl (jm_okI (by decide) (by decide)) ?_
    refine jm_aloadn d_X5_readMay_11 rfl ?_
    refine jm_getI (k := 5) (ki := 5) cf_X7 (Nat.le_of_ble_eq_true rfl) f_X5_141 d_X5_readMay_12 rfl rfl is_1 rfl ?_
    refine jm_invV (n1 := jm_N) (mc := 0) (ms := 0) (av := [jm_I _, jm_I _]) w_X7_fails l_X5_144 d_X5_readMay_15 rfl is_1 ⟨_, _, rfl⟩ ⟨Nat.le_refl _, Nat.le_refl _⟩ (Nat.le_of_ble_eq_true rfl) rfl ?_
    refine jm_Cl.mono h (fun o m27 h hr _ => ?_)
    obtain ⟨r28, rfl, z29⟩ := jm_rokZ hr
    have h := h _ rfl z29
    exact jm_ret (o := some (jm_I _)) d_X5_readMay_18 rfl ⟨Nat.le_refl _, Nat.le_refl _⟩ (jm_r_Z z29) h rfl
/-! ('CombTable$Table', 'readComb', '(LCombTable$Tape;)Z') -/
theorem d_X5_readComb_0 : decode m_X5_readComb.2.1 0 = .ok (.aload_n 0, 1) := by decide +kernel
theorem d_X5_readComb_1 : decode m_X5_readComb.2.1 1 = .ok (.getfield 53, 3) := by decide +kernel
theorem d_X5_readComb_4 : decode m_X5_readComb.2.1 4 = .ok (.ifCond .eq 13, 3) := by decide +kernel
theorem d_X5_readComb_7 : decode m_X5_readComb.2.1 7 = .ok (.aload_n 1, 1) := by decide +kernel
theorem d_X5_readComb_8 : decode m_X5_readComb.2.1 8 = .ok (.iconst 3, 1) := by decide +kernel
theorem d_X5_readComb_9 : decode m_X5_readComb.2.1 9 = .ok (.aload_n 1, 1) := by decide +kernel
theorem d_X5_readComb_10 : decode m_X5_readComb.2.1 10 = .ok (.getfield 141, 3) := by decide +kernel
theorem d_X5_readComb_13 : decode m_X5_readComb.2.1 13 = .ok (.invokevirtual 144, 3) := by decide +kernel
theorem d_X5_readComb_16 : decode m_X5_readComb.2.1 16 = .ok (.ireturn, 1) := by decide +kernel
theorem d_X5_readComb_17 : decode m_X5_readComb.2.1 17 = .ok (.aload_n 0, 1) := by decide +kernel
theorem d_X5_readComb_18 : decode m_X5_readComb.2.1 18 = .ok (.iconst 1, 1) := by decide +kernel
theorem d_X5_readComb_19 : decode m_X5_readComb.2.1 19 = .ok (.putfield 53, 3) := by decide +kernel
theorem d_X5_readComb_22 : decode m_X5_readComb.2.1 22 = .ok (.aload_n 0, 1) := by decide +kernel
theorem d_X5_readComb_23 : decode m_X5_readComb.2.1 23 = .ok (.iconst 0, 1) := by decide +kernel
theorem d_X5_readComb_24 : decode m_X5_readComb.2.1 24 = .ok (.putfield 37, 3) := by decide +kernel
theorem d_X5_readComb_27 : decode m_X5_readComb.2.1 27 = .ok (.aload_n 1, 1) := by decide +kernel
theorem d_X5_readComb_28 : decode m_X5_readComb.2.1 28 = .ok (.invokevirtual 148, 3) := by decide +kernel
theorem d_X5_readComb_31 : decode m_X5_readComb.2.1 31 = .ok (.iconst 0, 1) := by decide +kernel
theorem d_X5_readComb_32 : decode m_X5_readComb.2.1 32 = .ok (.istore_n 2, 1) := by decide +kernel
theorem d_X5_readComb_33 : decode m_X5_readComb.2.1 33 = .ok (.iload_n 2, 1) := by decide +kernel
theorem d_X5_readComb_34 : decode m_X5_readComb.2.1 34 = .ok (.bipush 6, 2) := by decide +kernel
theorem d_X5_readComb_36 : decode m_X5_readComb.2.1 36 = .ok (.if_icmp .ge 53, 3) := by decide +kernel
theorem d_X5_readComb_39 : decode m_X5_readComb.2.1 39 = .ok (.aload_n 1, 1) := by decide +kernel
theorem d_X5_readComb_40 : decode m_X5_readComb.2.1 40 = .ok (.getfield 92, 3) := by decide +kernel
theorem d_X5_readComb_43 : decode m_X5_readComb.2.1 43 = .ok (.iconst 2, 1) := by decide +kernel
theorem d_X5_readComb_44 : decode m_X5_readComb.2.1 44 = .ok (.if_icmp .ne 45, 3) := by decide +kernel
theorem d_X5_readComb_47 : decode m_X5_readComb.2.1 47 = .ok (.aload_n 1, 1) := by decide +kernel
theorem d_X5_readComb_48 : decode m_X5_readComb.2.1 48 = .ok (.iconst 1, 1) := by decide +kernel
theorem d_X5_readComb_49 : decode m_X5_readComb.2.1 49 = .ok (.bipush 6, 2) := by decide +kernel
theorem d_X5_readComb_51 : decode m_X5_readComb.2.1 51 = .ok (.invokevirtual 171, 3) := by decide +kernel
theorem d_X5_readComb_54 : decode m_X5_readComb.2.1 54 = .ok (.ifCond .ne 5, 3) := by decide +kernel
theorem d_X5_readComb_57 : decode m_X5_readComb.2.1 57 = .ok (.iconst 0, 1) := by decide +kernel
theorem d_X5_readComb_58 : decode m_X5_readComb.2.1 58 = .ok (.ireturn, 1) := by decide +kernel
theorem d_X5_readComb_59 : decode m_X5_readComb.2.1 59 = .ok (.aload_n 0, 1) := by decide +kernel
theorem d_X5_readComb_60 : decode m_X5_readComb.2.1 60 = .ok (.getfield 34, 3) := by decide +kernel
theorem d_X5_readComb_63 : decode m_X5_readComb.2.1 63 = .ok (.iload_n 2, 1) := by decide +kernel
theorem d_X5_readComb_64 : decode m_X5_readComb.2.1 64 = .ok (.aload_n 1, 1) := by decide +kernel
theorem d_X5_readComb_65 : decode m_X5_readComb.2.1 65 = .ok (.getfield 174, 3) := by decide +kernel
theorem d_X5_readComb_68 : decode m_X5_readComb.2.1 68 = .ok (.iastore, 1) := by decide +kernel
theorem d_X5_readComb_69 : decode m_X5_readComb.2.1 69 = .ok (.aload_n 0, 1) := by decide +kernel
theorem d_X5_readComb_70 : decode m_X5_readComb.2.1 70 = .ok (.dup, 1) := by decide +kernel
theorem d_X5_readComb_71 : decode m_X5_readComb.2.1 71 = .ok (.getfield 37, 3) := by decide +kernel
theorem d_X5_readComb_74 : decode m_X5_readComb.2.1 74 = .ok (.iconst 1, 1) := by decide +kernel
theorem d_X5_readComb_75 : decode m_X5_readComb.2.1 75 = .ok (.iadd, 1) := by decide +kernel
theorem d_X5_readComb_76 : decode m_X5_readComb.2.1 76 = .ok (.putfield 37, 3) := by decide +kernel
theorem d_X5_readComb_79 : decode m_X5_readComb.2.1 79 = .ok (.aload_n 1, 1) := by decide +kernel
theorem d_X5_readComb_80 : decode m_X5_readComb.2.1 80 = .ok (.invokevirtual 148, 3) := by decide +kernel
theorem d_X5_readComb_83 : decode m_X5_readComb.2.1 83 = .ok (.iinc 2 1, 3) := by decide +kernel
theorem d_X5_readComb_86 : decode m_X5_readComb.2.1 86 = .ok (.goto (-53), 3) := by decide +kernel
theorem d_X5_readComb_89 : decode m_X5_readComb.2.1 89 = .ok (.aload_n 1, 1) := by decide +kernel
theorem d_X5_readComb_90 : decode m_X5_readComb.2.1 90 = .ok (.getfield 92, 3) := by decide +kernel
theorem d_X5_readComb_93 : decode m_X5_readComb.2.1 93 = .ok (.iconst 2, 1) := by decide +kernel
theorem d_X5_readComb_94 : decode m_X5_readComb.2.1 94 = .ok (.if_icmp .ne 13, 3) := by decide +kernel
theorem d_X5_readComb_97 : decode m_X5_readComb.2.1 97 = .ok (.aload_n 1, 1) := by decide +kernel
theorem d_X5_readComb_98 : decode m_X5_readComb.2.1 98 = .ok (.iconst 4, 1) := by decide +kernel
theorem d_X5_readComb_99 : decode m_X5_readComb.2.1 99 = .ok (.aload_n 1, 1) := by decide +kernel
theorem d_X5_readComb_100 : decode m_X5_readComb.2.1 100 = .ok (.getfield 141, 3) := by decide +kernel
theorem d_X5_readComb_103 : decode m_X5_readComb.2.1 103 = .ok (.invokevirtual 144, 3) := by decide +kernel
theorem d_X5_readComb_106 : decode m_X5_readComb.2.1 106 = .ok (.ireturn, 1) := by decide +kernel
theorem d_X5_readComb_107 : decode m_X5_readComb.2.1 107 = .ok (.aload_n 0, 1) := by decide +kernel
theorem d_X5_readComb_108 : decode m_X5_readComb.2.1 108 = .ok (.getfield 37, 3) := by decide +kernel
theorem d_X5_readComb_111 : decode m_X5_readComb.2.1 111 = .ok (.ifCond .gt 15, 3) := by decide +kernel
theorem d_X5_readComb_114 : decode m_X5_readComb.2.1 114 = .ok (.aload_n 1, 1) := by decide +kernel
theorem d_X5_readComb_115 : decode m_X5_readComb.2.1 115 = .ok (.iconst 1, 1) := by decide +kernel
theorem d_X5_readComb_116 : decode m_X5_readComb.2.1 116 = .ok (.aload_n 1, 1) := by decide +kernel
theorem d_X5_readComb_117 : decode m_X5_readComb.2.1 117 = .ok (.getfield 141, 3) := by decide +kernel
theorem d_X5_readComb_120 : decode m_X5_readComb.2.1 120 = .ok (.invokevirtual 144, 3) := by decide +kernel
theorem d_X5_readComb_123 : decode m_X5_readComb.2.1 123 = .ok (.ifCond .eq 7, 3) := by decide +kernel
theorem d_X5_readComb_126 : decode m_X5_readComb.2.1 126 = .ok (.iconst 1, 1) := by decide +kernel
theorem d_X5_readComb_127 : decode m_X5_readComb.2.1 127 = .ok (.goto 4, 3) := by decide +kernel
theorem d_X5_readComb_130 : decode m_X5_readComb.2.1 130 = .ok (.iconst 0, 1) := by decide +kernel
theorem d_X5_readComb_131 : decode m_X5_readComb.2.1 131 = .ok (.ireturn, 1) := by decide +kernel
set_option maxRecDepth 20000 in
theorem e_X5_readComb {E : jm_E} {d : Nat} {μ : jm_M} {Q : Option jm_V → jm_M → Prop} {v0 : Int} (h : (∀ v ∈ ([jm_R v0, jm_R 1] : List jm_V), jm_ok v) →
  (jm_is jm_N v0 1 5) ∧
  ((μ v0 13 = 0 →
    jc E m_X7_advance d [jm_R 1] (jm_up (jm_up μ v0 13 1) v0 11 0) (fun (o : Option jm_V) (m3 : jm_M) => o = none →
    jg E m_X5_readComb d 33 [some (jm_R v0), some (jm_R 1), some (jm_I 0)] [] m3 Q)) ∧
   (¬ (μ v0 13 = 0) →
    jc E m_X7_fails d [jm_R 1, jm_I 3, jm_I (μ 1 5)] μ (fun (o : Option jm_V) (m4 : jm_M) => ∀ r5 : Int, o = some (jm_I r5) → (r5 = 0 ∨ r5 = 1) →
    Q (some (jm_I r5)) m4)))) : jc E m_X5_readComb (d + 1) [jm_R v0, jm_R 1] μ Q := by
  refine jm_Cl.of2 (by decide +kernel) (L0 := [some (jm_R v0), some (jm_R 1), none]) rfl (Nat.le_of_ble_eq_true rfl) (fun hok => ?_)
  have h := h hok
  refine jm_aloadn d_X5_readComb_0 rfl ?_
  obtain ⟨f1, h⟩ := h
  refine jm_getI (k := 13) (ki := 13) cf_X5 (Nat.le_of_ble_eq_true rfl) f_X5_53 d_X5_readComb_1 rfl rfl f1 rfl ?_
  refine jm_if_eq (tgt := 17) d_X5_readComb_4 (by decide) (fun c2 => ?_) (fun c2 => ?_)
  · have h := h.1 c2
    refine jm_aloadn d_X5_readComb_17 rfl ?_
    refine jm_iconst (v := 1) d_X5_readComb_18 rfl (jm_okI (by decide) (by decide)) ?_
    refine jm_putZ (k := 13) (ki := 13) cf_X5 (Nat.le_of_ble_eq_true rfl) f_X5_53 d_X5_readComb_19 (fun z => absurd z (by decide)) rfl rfl rfl (by decide) (fun _ => rfl) f1 ?_
    refine jm_aloadn d_X5_readComb_22 rfl ?_
    refine jm_iconst (v := 0) d_X5_readComb_23 rfl (jm_okI (by decide) (by decide)) ?_
    refine jm_putI (k := 11) (ki := 11) cf_X5 (Nat.le_of_ble_eq_true rfl) f_X5_37 d_X5_readComb_24 (fun z => absurd z (by decide)) rfl rfl rfl (fun _ => rfl) f1 ?_
    refine jm_aloadn d_X5_readComb_27 rfl ?_
    refine jm_invV (n1 := jm_N) (mc := 0) (ms := 0) (av := []) w_X7_advance l_X5_148 d_X5_readComb_28 rfl is_1 ⟨_, _, rfl⟩ ⟨Nat.le_refl _, Nat.le_refl _⟩ (Nat.le_of_ble_eq_true rfl) rfl ?_
    refine jm_Cl.mono h (fun o m3 h hr _ => ?_)
    obtain rfl := jm_rokV hr
    have h := h rfl
    refine jm_iconst (v := 0) d_X5_readComb_31 rfl (jm_okI (by decide) (by decide)) ?_
    refine jm_istoren (L' := [some (jm_R _), some (jm_R _), some (jm_I _)]) d_X5_readComb_32 (Nat.le_of_ble_eq_true rfl) rfl ?_
    exact h
  · have h := h.2 c2
    refine jm_aloadn d_X5_readComb_7 rfl ?_
    refine jm_iconst (v := 3) d_X5_readComb_8 rfl (jm_okI (by decide) (by decide)) ?_
    refine jm_aloadn d_X5_readComb_9 rfl ?_
    refine jm_getI (k := 5) (ki := 5) cf_X7 (Nat.le_of_ble_eq_true rfl) f_X5_141 d_X5_readComb_10 rfl rfl is_1 rfl ?_
    refine jm_invV (n1 := jm_N) (mc := 0) (ms := 0) (av := [jm_I _, jm_I _]) w_X7_fails l_X5_144 d_X5_readComb_13 rfl is_1 ⟨_, _, rfl⟩ ⟨Nat.le_refl _, Nat.le_refl _⟩ (Nat.le_of_ble_eq_true rfl) rfl ?_
    refine jm_Cl.mono h (fun o m4 h hr _ => ?_)
    obtain ⟨r5, rfl, z6⟩ := jm_rokZ hr
    have h := h _ rfl z6
    exact jm_ret (o := some (jm_I _)) d_X5_readComb_16 rfl ⟨Nat.le_refl _, Nat.le_refl _⟩ (jm_r_Z z6) h rfl
set_option maxRecDepth 20000 in
theorem r_X5_readComb_33 {E : jm_E} {d : Nat} {μ : jm_M} {Q : Option jm_V → jm_M → Prop} {v0 v2 : Int} (h :
  ((6 ≤ v2 →
    jg E m_X5_readComb d 89 [some (jm_R v0), some (jm_R 1), none] [] μ Q) ∧
   (¬ (6 ≤ v2) →
    ((μ 1 4 ≠ 2 →
      jg E m_X5_readComb d 89 [some (jm_R v0), some (jm_R 1), none] [] μ Q) ∧
     (¬ (μ 1 4 ≠ 2) →
      jc E m_X7_isNumber d [jm_R 1, jm_I 1, jm_I 6] μ (fun (o : Option jm_V) (m3 : jm_M) => ∀ r4 : Int, o = some (jm_I r4) → (r4 = 0 ∨ r4 = 1) →
      ((r4 ≠ 0 →
        (jm_is jm_N v0 1 5) ∧
        (0 ≤ v2 ∧ v2 < 6) ∧
        ∀ m9 : jm_M, m9 = (jm_up m3 ((v0 + 8)) v2 (m3 1 8)) →
        jc E m_X7_advance d [jm_R 1] (jm_up m9 v0 11 (jm_wr ((m9 v0 11) + 1))) (fun (o : Option jm_V) (m10 : jm_M) => o = none →
        jg E m_X5_readComb d 33 [some (jm_R v0), some (jm_R 1), some (jm_I (jm_wr (v2 + 1)))] [] m10 Q)) ∧
       (¬ (r4 ≠ 0) →
        Q (some (jm_I 0)) m3)))))))) : jg E m_X5_readComb d 33 [some (jm_R v0), some (jm_R 1), some (jm_I v2)] [] μ Q := by
  refine jm_iloadn d_X5_readComb_33 rfl ?_
  refine jm_bipush (v := 6) d_X5_readComb_34 rfl (jm_okI (by decide) (by decide)) ?_
  refine jm_icmp_ge (tgt := 89) d_X5_readComb_36 (by decide) (fun c1 => ?_) (fun c1 => ?_)
  · have h := h.1 c1
    exact jm_weak2 h (And.intro rfl (And.intro rfl trivial))
  · have h := h.2 c1
    refine jm_aloadn d_X5_readComb_39 rfl ?_
    refine jm_getI (k := 4) (ki := 4) cf_X7 (Nat.le_of_ble_eq_true rfl) f_X5_92 d_X5_readComb_40 rfl rfl is_1 rfl ?_
    refine jm_iconst (v := 2) d_X5_readComb_43 rfl (jm_okI (by decide) (by decide)) ?_
    refine jm_icmp_ne (tgt := 89) d_X5_readComb_44 (by decide) (fun c2 => ?_) (fun c2 => ?_)
    · have h := h.1 c2
      exact jm_weak2 h (And.intro rfl (And.intro rfl trivial))
    · have h := h.2 c2
      refine jm_aloadn d_X5_readComb_47 rfl ?_
      refine jm_iconst (v := 1) d_X5_readComb_48 rfl (jm_okI (by decide) (by decide)) ?_
      refine jm_bipush (v := 6) d_X5_readComb_49 rfl (jm_okI (by decide) (by decide)) ?_
      refine jm_invV (n1 := jm_N) (mc := 0) (ms := 0) (av := [jm_I _, jm_I _]) w_X7_isNumber l_X5_171 d_X5_readComb_51 rfl is_1 ⟨_, _, rfl⟩ ⟨Nat.le_refl _, Nat.le_refl _⟩ (Nat.le_of_ble_eq_true rfl) rfl ?_
      refine jm_Cl.mono h (fun o m3 h hr _ => ?_)
      obtain ⟨r4, rfl, z5⟩ := jm_rokZ hr
      have h := h _ rfl z5
      refine jm_if_ne (tgt := 59) d_X5_readComb_54 (by decide) (fun c6 => ?_) (fun c6 => ?_)
      · have h := h.1 c6
        refine jm_aloadn d_X5_readComb_59 rfl ?_
        obtain ⟨f7, h⟩ := h
        refine jm_getF (k := 12) (ki := 12) rfl cf_X5 (Nat.le_of_ble_eq_true rfl) f_X5_34 d_X5_readComb_60 rfl rfl f7 (fc_5_12 f7) ?_
        refine jm_iloadn d_X5_readComb_63 rfl ?_
        refine jm_aloadn d_X5_readComb_64 rfl ?_
        refine jm_getI (k := 8) (ki := 8) cf_X7 (Nat.le_of_ble_eq_true rfl) f_X5_174 d_X5_readComb_65 rfl rfl is_1 rfl ?_
        obtain ⟨f8, h⟩ := h
        refine jm_iastore d_X5_readComb_68 (xc_5_12 f7 f8.1 f8.2) ?_
        have h := h _ rfl
        refine jm_aloadn d_X5_readComb_69 rfl ?_
        refine jm_dup rfl d_X5_readComb_70 ?_
        refine jm_getI (k := 11) (ki := 11) cf_X5 (Nat.le_of_ble_eq_true rfl) f_X5_37 d_X5_readComb_71 rfl rfl f7 rfl ?_
        refine jm_iconst (v := 1) d_X5_readComb_74 rfl (jm_okI (by decide) (by decide)) ?_
        refine jm_iadd d_X5_readComb_75 ?_
        refine jm_putI (k := 11) (ki := 11) cf_X5 (Nat.le_of_ble_eq_true rfl) f_X5_37 d_X5_readComb_76 (fun z => absurd z (by decide)) rfl rfl rfl (fun _ => rfl) f7 ?_
        refine jm_aloadn d_X5_readComb_79 rfl ?_
        refine jm_invV (n1 := jm_N) (mc := 0) (ms := 0) (av := []) w_X7_advance l_X5_148 d_X5_readComb_80 rfl is_1 ⟨_, _, rfl⟩ ⟨Nat.le_refl _, Nat.le_refl _⟩ (Nat.le_of_ble_eq_true rfl) rfl ?_
        refine jm_Cl.mono h (fun o m10 h hr _ => ?_)
        obtain rfl := jm_rokV hr
        have h := h rfl
        refine jm_iinc (L' := [some (jm_R _), some (jm_R _), some (jm_I _)]) d_X5_readComb_83 rfl rfl (Nat.le_of_ble_eq_true rfl) rfl ?_
        refine jm_goto (tgt := 33) d_X5_readComb_86 (by decide) ?_
        exact h
      · have h := h.2 c6
        refine jm_iconst (v := 0) d_X5_readComb_57 rfl (jm_okI (by decide) (by decide)) ?_
        exact jm_ret (o := some (jm_I _)) d_X5_readComb_58 rfl ⟨Nat.le_refl _, Nat.le_refl _⟩ (jm_r_Z (by decide)) h rfl
set_option maxRecDepth 20000 in
theorem r_X5_readComb_89 {E : jm_E} {d : Nat} {μ : jm_M} {Q : Option jm_V → jm_M → Prop} {v0 : Int} (h :
  ((μ 1 4 ≠ 2 →
    (jm_is jm_N v0 1 5) ∧
    ((0 < μ v0 11 →
      Q (some (jm_I 1)) μ) ∧
     (¬ (0 < μ v0 11) →
      jc E m_X7_fails d [jm_R 1, jm_I 1, jm_I (μ 1 5)] μ (fun (o : Option jm_V) (m4 : jm_M) => ∀ r5 : Int, o = some (jm_I r5) → (r5 = 0 ∨ r5 = 1) →
      ((r5 = 0 →
        Q (some (jm_I 0)) m4) ∧
       (¬ (r5 = 0) →
        Q (some (jm_I 1)) m4)))))) ∧
   (¬ (μ 1 4 ≠ 2) →
    jc E m_X7_fails d [jm_R 1, jm_I 4, jm_I (μ 1 5)] μ (fun (o : Option jm_V) (m8 : jm_M) => ∀ r9 : Int, o = some (jm_I r9) → (r9 = 0 ∨ r9 = 1) →
    Q (some (jm_I r9)) m8)))) : jg E m_X5_readComb d 89 [some (jm_R v0), some (jm_R 1), none] [] μ Q := by
  refine jm_aloadn d_X5_readComb_89 rfl ?_
  refine jm_getI (k := 4) (ki := 4) cf_X7 (Nat.le_of_ble_eq_true rfl) f_X5_92 d_X5_readComb_90 rfl rfl is_1 rfl ?_
  refine jm_iconst (v := 2) d_X5_readComb_93 rfl (jm_okI (by decide) (by decide)) ?_
  refine jm_icmp_ne (tgt := 107) d_X5_readComb_94 (by decide) (fun c1 => ?_) (fun c1 => ?_)
  · have h := h.1 c1
    refine jm_aloadn d_X5_readComb_107 rfl ?_
    obtain ⟨f2, h⟩ := h
    refine jm_getI (k := 11) (ki := 11) cf_X5 (Nat.le_of_ble_eq_true rfl) f_X5_37 d_X5_readComb_108 rfl rfl f2 rfl ?_
    refine jm_if_gt (tgt := 126) d_X5_readComb_111 (by decide) (fun c3 => ?_) (fun c3 => ?_)
    · have h := h.1 c3
      refine jm_iconst (v := 1) d_X5_readComb_126 rfl (jm_okI (by decide) (by decide)) ?_
      refine jm_goto (tgt := 131) d_X5_readComb_127 (by decide) ?_
      exact jm_ret (o := some (jm_I _)) d_X5_readComb_131 rfl ⟨Nat.le_refl _, Nat.le_refl _⟩ (jm_r_Z (by decide)) h rfl
    · have h := h.2 c3
      refine jm_aloadn d_X5_readComb_114 rfl ?_
      refine jm_iconst (v := 1) d_X5_readComb_115 rfl (jm_okI (by decide) (by decide)) ?_
      refine jm_aloadn d_X5_readComb_116 rfl ?_
      refine jm_getI (k := 5) (ki := 5) cf_X7 (Nat.le_of_ble_eq_true rfl) f_X5_141 d_X5_readComb_117 rfl rfl is_1 rfl ?_
      refine jm_invV (n1 := jm_N) (mc := 0) (ms := 0) (av := [jm_I _, jm_I _]) w_X7_fails l_X5_144 d_X5_readComb_120 rfl is_1 ⟨_, _, rfl⟩ ⟨Nat.le_refl _, Nat.le_refl _⟩ (Nat.le_of_ble_eq_true rfl) rfl ?_
      refine jm_Cl.mono h (fun o m4 h hr _ => ?_)
      obtain ⟨r5, rfl, z6⟩ := jm_rokZ hr
      have h := h _ rfl z6
      refine jm_if_eq (tgt := 130) d_X5_readComb_123 (by decide) (fun c7 => ?_) (fun c7 => ?_)
      · have h := h.1 c7
        refine jm_iconst (v := 0) d_X5_readComb_130 rfl (jm_okI (by decide) (by decide)) ?_
        exact jm_ret (o := some (jm_I _)) d_X5_readComb_131 rfl ⟨Nat.le_refl _, Nat.le_refl _⟩ (jm_r_Z (by decide)) h rfl
      · have h := h.2 c7
        refine jm_iconst (v := 1) d_X5_readComb_126 rfl (jm_okI (by decide) (by decide)) ?_
        refine jm_goto (tgt := 131) d_X5_readComb_127 (by decide) ?_
        exact jm_ret (o := some (jm_I _)) d_X5_readComb_131 rfl ⟨Nat.le_refl _, Nat.le_refl _⟩ (jm_r_Z (by decide)) h rfl
  · have h := h.2 c1
    refine jm_aloadn d_X5_readComb_97 rfl ?_
    refine jm_iconst (v := 4) d_X5_readComb_98 rfl (jm_okI (by decide) (by decide)) ?_
    refine jm_aloadn d_X5_readComb_99 rfl ?_
    refine jm_getI (k := 5) (ki := 5) cf_X7 (Nat.le_of_ble_eq_true rfl) f_X5_141 d_X5_readComb_100 rfl rfl is_1 rfl ?_
    refine jm_invV (n1 := jm_N) (mc := 0) (ms := 0) (av := [jm_I _, jm_I _]) w_X7_fails l_X5_144 d_X5_readComb_103 rfl is_1 ⟨_, _, rfl⟩ ⟨Nat.le_refl _, Nat.le_refl _⟩ (Nat.le_of_ble_eq_true rfl) rfl ?_
    refine jm_Cl.mono h (fun o m8 h hr _ => ?_)
    obtain ⟨r9, rfl, z10⟩ := jm_rokZ hr
    have h := h _ rfl z10
    exact jm_ret (o := some (jm_I _)) d_X5_readComb_106 rfl ⟨Nat.le_refl _, Nat.le_refl _⟩ (jm_r_Z z10) h rfl
-- X1_init: by hand (objinit)
/-! ('CombTable$Minutes', 'clear', '()V') -/
theorem d_X1_clear_0 : decode m_X1_clear.2.1 0 = .ok (.aload_n 0, 1) := by decide +kernel
theorem d_X1_clear_1 : decode m_X1_clear.2.1 1 = .ok (.iconst 0, 1) := by decide +kernel
theorem d_X1_clear_2 : decode m_X1_clear.2.1 2 = .ok (.putfield 18, 3) := by decide +kernel
theorem d_X1_clear_5 : decode m_X1_clear.2.1 5 = .ok (.aload_n 0, 1) := by decide +kernel
theorem d_X1_clear_6 : decode m_X1_clear.2.1 6 = .ok (.iconst 0, 1) := by decide +kernel
theorem d_X1_clear_7 : decode m_X1_clear.2.1 7 = .ok (.putfield 22, 3) := by decide +kernel
theorem d_X1_clear_10 : decode m_X1_clear.2.1 10 = .ok (.return_, 1) := by decide +kernel
set_option maxRecDepth 20000 in
theorem e_X1_clear {E : jm_E} {d : Nat} {μ : jm_M} {Q : Option jm_V → jm_M → Prop} {v0 : Int} (h : (∀ v ∈ ([jm_R v0] : List jm_V), jm_ok v) →
  (jm_is jm_N v0 1 1) ∧
  Q none (jm_up (jm_up μ v0 0 0) v0 1 0)) : jc E m_X1_clear (d + 1) [jm_R v0] μ Q := by
  refine jm_Cl.of2 (by decide +kernel) (L0 := [some (jm_R v0)]) rfl (Nat.le_of_ble_eq_true rfl) (fun hok => ?_)
  have h := h hok
  refine jm_aloadn d_X1_clear_0 rfl ?_
  refine jm_iconst (v := 0) d_X1_clear_1 rfl (jm_okI (by decide) (by decide)) ?_
  obtain ⟨f1, h⟩ := h
  refine jm_putI (k := 0) (ki := 0) cf_X1 (Nat.le_of_ble_eq_true rfl) f_X1_18 d_X1_clear_2 (fun z => absurd z (by decide)) rfl rfl rfl (fun _ => rfl) f1 ?_
  refine jm_aloadn d_X1_clear_5 rfl ?_
  refine jm_iconst (v := 0) d_X1_clear_6 rfl (jm_okI (by decide) (by decide)) ?_
  refine jm_putI (k := 1) (ki := 1) cf_X1 (Nat.le_of_ble_eq_true rfl) f_X1_22 d_X1_clear_7 (fun z => absurd z (by decide)) rfl rfl rfl (fun _ => rfl) f1 ?_
  exact jm_ret (o := none) d_X1_clear_10 rfl ⟨Nat.le_refl _, Nat.le_refl _⟩ jm_r_V h rfl
/-! ('CombTable$Minutes', 'whoAt', '(I)I') -/
theorem d_X1_whoAt_0 : decode m_X1_whoAt.2.1 0 = .ok (.iload_n 1, 1) := by decide +kernel
theorem d_X1_whoAt_1 : decode m_X1_whoAt.2.1 1 = .ok (.ifCond .lt 18, 3) := by decide +kernel
theorem d_X1_whoAt_4 : decode m_X1_whoAt.2.1 4 = .ok (.iload_n 1, 1) := by decide +kernel
theorem d_X1_whoAt_5 : decode m_X1_whoAt.2.1 5 = .ok (.bipush 24, 2) := by decide +kernel
theorem d_X1_whoAt_7 : decode m_X1_whoAt.2.1 7 = .ok (.if_icmp .ge 12, 3) := by decide +kernel
theorem d_X1_whoAt_10 : decode m_X1_whoAt.2.1 10 = .ok (.aload_n 0, 1) := by decide +kernel
theorem d_X1_whoAt_11 : decode m_X1_whoAt.2.1 11 = .ok (.getfield 11, 3) := by decide +kernel
theorem d_X1_whoAt_14 : decode m_X1_whoAt.2.1 14 = .ok (.iload_n 1, 1) := by decide +kernel
theorem d_X1_whoAt_15 : decode m_X1_whoAt.2.1 15 = .ok (.iaload, 1) := by decide +kernel
theorem d_X1_whoAt_16 : decode m_X1_whoAt.2.1 16 = .ok (.goto 4, 3) := by decide +kernel
theorem d_X1_whoAt_19 : decode m_X1_whoAt.2.1 19 = .ok (.iconst (-1), 1) := by decide +kernel
theorem d_X1_whoAt_20 : decode m_X1_whoAt.2.1 20 = .ok (.ireturn, 1) := by decide +kernel
set_option maxRecDepth 20000 in
theorem e_X1_whoAt {E : jm_E} {d : Nat} {μ : jm_M} {Q : Option jm_V → jm_M → Prop} {v0 v1 : Int} (h : (∀ v ∈ ([jm_R v0, jm_I v1] : List jm_V), jm_ok v) →
  ((v1 < 0 →
    Q (some (jm_I ((-1)))) μ) ∧
   (¬ (v1 < 0) →
    ((24 ≤ v1 →
      Q (some (jm_I ((-1)))) μ) ∧
     (¬ (24 ≤ v1) →
      (jm_is jm_N v0 1 1) ∧
      (0 ≤ v1 ∧ v1 < 24) ∧
      Q (some (jm_I (μ ((v0 + 1)) v1))) μ))))) : jc E m_X1_whoAt (d + 1) [jm_R v0, jm_I v1] μ Q := by
  refine jm_Cl.of2 (by decide +kernel) (L0 := [some (jm_R v0), some (jm_I v1)]) rfl (Nat.le_of_ble_eq_true rfl) (fun hok => ?_)
  have h := h hok
  refine jm_iloadn d_X1_whoAt_0 rfl ?_
  refine jm_if_lt (tgt := 19) d_X1_whoAt_1 (by decide) (fun c1 => ?_) (fun c1 => ?_)
  · have h := h.1 c1
    refine jm_iconst (v := (-1)) d_X1_whoAt_19 rfl (jm_okI (by decide) (by decide)) ?_
    exact jm_ret (o := some (jm_I _)) d_X1_whoAt_20 rfl ⟨Nat.le_refl _, Nat.le_refl _⟩ jm_r_I h rfl
  · have h := h.2 c1
    refine jm_iloadn d_X1_whoAt_4 rfl ?_
    refine jm_bipush (v := 24) d_X1_whoAt_5 rfl (jm_okI (by decide) (by decide)) ?_
    refine jm_icmp_ge (tgt := 19) d_X1_whoAt_7 (by decide) (fun c2 => ?_) (fun c2 => ?_)
    · have h := h.1 c2
      refine jm_iconst (v := (-1)) d_X1_whoAt_19 rfl (jm_okI (by decide) (by decide)) ?_
      exact jm_ret (o := some (jm_I _)) d_X1_whoAt_20 rfl ⟨Nat.le_refl _, Nat.le_refl _⟩ jm_r_I h rfl
    · have h := h.2 c2
      refine jm_aloadn d_X1_whoAt_10 rfl ?_
      obtain ⟨f3, h⟩ := h
      refine jm_getF (k := 2) (ki := 2) rfl cf_X1 (Nat.le_of_ble_eq_true rfl) f_X1_11 d_X1_whoAt_11 rfl rfl f3 (fc_1_2 f3) ?_
      refine jm_iloadn d_X1_whoAt_14 rfl ?_
      obtain ⟨f4, h⟩ := h
      refine jm_iaload d_X1_whoAt_15 (xc_1_2 f3 f4.1 f4.2) ?_
      refine jm_goto (tgt := 20) d_X1_whoAt_16 (by decide) ?_
      exact jm_ret (o := some (jm_I _)) d_X1_whoAt_20 rfl ⟨Nat.le_refl _, Nat.le_refl _⟩ jm_r_I h rfl
/-! ('CombTable$Minutes', 'kindAt', '(I)I') -/
theorem d_X1_kindAt_0 : decode m_X1_kindAt.2.1 0 = .ok (.iload_n 1, 1) := by decide +kernel
theorem d_X1_kindAt_1 : decode m_X1_kindAt.2.1 1 = .ok (.ifCond .lt 18, 3) := by decide +kernel
theorem d_X1_kindAt_4 : decode m_X1_kindAt.2.1 4 = .ok (.iload_n 1, 1) := by decide +kernel
theorem d_X1_kindAt_5 : decode m_X1_kindAt.2.1 5 = .ok (.bipush 24, 2) := by decide +kernel
theorem d_X1_kindAt_7 : decode m_X1_kindAt.2.1 7 = .ok (.if_icmp .ge 12, 3) := by decide +kernel
theorem d_X1_kindAt_10 : decode m_X1_kindAt.2.1 10 = .ok (.aload_n 0, 1) := by decide +kernel
theorem d_X1_kindAt_11 : decode m_X1_kindAt.2.1 11 = .ok (.getfield 15, 3) := by decide +kernel
theorem d_X1_kindAt_14 : decode m_X1_kindAt.2.1 14 = .ok (.iload_n 1, 1) := by decide +kernel
theorem d_X1_kindAt_15 : decode m_X1_kindAt.2.1 15 = .ok (.iaload, 1) := by decide +kernel
theorem d_X1_kindAt_16 : decode m_X1_kindAt.2.1 16 = .ok (.goto 4, 3) := by decide +kernel
theorem d_X1_kindAt_19 : decode m_X1_kindAt.2.1 19 = .ok (.iconst (-1), 1) := by decide +kernel
theorem d_X1_kindAt_20 : decode m_X1_kindAt.2.1 20 = .ok (.ireturn, 1) := by decide +kernel
set_option maxRecDepth 20000 in
theorem e_X1_kindAt {E : jm_E} {d : Nat} {μ : jm_M} {Q : Option jm_V → jm_M → Prop} {v0 v1 : Int} (h : (∀ v ∈ ([jm_R v0, jm_I v1] : List jm_V), jm_ok v) →
  ((v1 < 0 →
    Q (some (jm_I ((-1)))) μ) ∧
   (¬ (v1 < 0) →
    ((24 ≤ v1 →
      Q (some (jm_I ((-1)))) μ) ∧
     (¬ (24 ≤ v1) →
      (jm_is jm_N v0 1 1) ∧
      (0 ≤ v1 ∧ v1 < 24) ∧
      Q (some (jm_I (μ ((v0 + 2)) v1))) μ))))) : jc E m_X1_kindAt (d + 1) [jm_R v0, jm_I v1] μ Q := by
  refine jm_Cl.of2 (by decide +kernel) (L0 := [some (jm_R v0), some (jm_I v1)]) rfl (Nat.le_of_ble_eq_true rfl) (fun hok => ?_)
  have h := h hok
  refine jm_iloadn d_X1_kindAt_0 rfl ?_
  refine jm_if_lt (tgt := 19) d_X1_kindAt_1 (by decide) (fun c1 => ?_) (fun c1 => ?_)
  · have h := h.1 c1
    refine jm_iconst (v := (-1)) d_X1_kindAt_19 rfl (jm_okI (by decide) (by decide)) ?_
    exact jm_ret (o := some (jm_I _)) d_X1_kindAt_20 rfl ⟨Nat.le_refl _, Nat.le_refl _⟩ jm_r_I h rfl
  · have h := h.2 c1
    refine jm_iloadn d_X1_kindAt_4 rfl ?_
    refine jm_bipush (v := 24) d_X1_kindAt_5 rfl (jm_okI (by decide) (by decide)) ?_
    refine jm_icmp_ge (tgt := 19) d_X1_kindAt_7 (by decide) (fun c2 => ?_) (fun c2 => ?_)
    · have h := h.1 c2
      refine jm_iconst (v := (-1)) d_X1_kindAt_19 rfl (jm_okI (by decide) (by decide)) ?_
      exact jm_ret (o := some (jm_I _)) d_X1_kindAt_20 rfl ⟨Nat.le_refl _, Nat.le_refl _⟩ jm_r_I h rfl
    · have h := h.2 c2
      refine jm_aloadn d_X1_kindAt_10 rfl ?_
      obtain ⟨f3, h⟩ := h
      refine jm_getF (k := 3) (ki := 3) rfl cf_X1 (Nat.le_of_ble_eq_true rfl) f_X1_15 d_X1_kindAt_11 rfl rfl f3 (fc_1_3 f3) ?_
      refine jm_iloadn d_X1_kindAt_14 rfl ?_
      obtain ⟨f4, h⟩ := h
      refine jm_iaload d_X1_kindAt_15 (xc_1_3 f3 f4.1 f4.2) ?_
      refine jm_goto (tgt := 20) d_X1_kindAt_16 (by decide) ?_
      exact jm_ret (o := some (jm_I _)) d_X1_kindAt_20 rfl ⟨Nat.le_refl _, Nat.le_refl _⟩ jm_r_I h rfl
/-! ('CombTable$Minutes', 'ways', '(LCombTable$Table;)J') -/
theorem d_X1_ways_0 : decode m_X1_ways.2.1 0 = .ok (.lconst 1, 1) := by decide +kernel
theorem d_X1_ways_1 : decode m_X1_ways.2.1 1 = .ok (.lstore_n 2, 1) := by decide +kernel
theorem d_X1_ways_2 : decode m_X1_ways.2.1 2 = .ok (.iconst 0, 1) := by decide +kernel
theorem d_X1_ways_3 : decode m_X1_ways.2.1 3 = .ok (.istore 4, 2) := by decide +kernel
theorem d_X1_ways_5 : decode m_X1_ways.2.1 5 = .ok (.iload 4, 2) := by decide +kernel
theorem d_X1_ways_7 : decode m_X1_ways.2.1 7 = .ok (.aload_n 0, 1) := by decide +kernel
theorem d_X1_ways_8 : decode m_X1_ways.2.1 8 = .ok (.getfield 18, 3) := by decide +kernel
theorem d_X1_ways_11 : decode m_X1_ways.2.1 11 = .ok (.if_icmp .ge 54, 3) := by decide +kernel
theorem d_X1_ways_14 : decode m_X1_ways.2.1 14 = .ok (.iload 4, 2) := by decide +kernel
theorem d_X1_ways_16 : decode m_X1_ways.2.1 16 = .ok (.bipush 24, 2) := by decide +kernel
theorem d_X1_ways_18 : decode m_X1_ways.2.1 18 = .ok (.if_icmp .ge 47, 3) := by decide +kernel
theorem d_X1_ways_21 : decode m_X1_ways.2.1 21 = .ok (.aload_n 0, 1) := by decide +kernel
theorem d_X1_ways_22 : decode m_X1_ways.2.1 22 = .ok (.getfield 11, 3) := by decide +kernel
theorem d_X1_ways_25 : decode m_X1_ways.2.1 25 = .ok (.iload 4, 2) := by decide +kernel
theorem d_X1_ways_27 : decode m_X1_ways.2.1 27 = .ok (.iaload, 1) := by decide +kernel
theorem d_X1_ways_28 : decode m_X1_ways.2.1 28 = .ok (.iconst (-1), 1) := by decide +kernel
theorem d_X1_ways_29 : decode m_X1_ways.2.1 29 = .ok (.if_icmp .ne 11, 3) := by decide +kernel
theorem d_X1_ways_32 : decode m_X1_ways.2.1 32 = .ok (.lload_n 2, 1) := by decide +kernel
theorem d_X1_ways_33 : decode m_X1_ways.2.1 33 = .ok (.aload_n 1, 1) := by decide +kernel
theorem d_X1_ways_34 : decode m_X1_ways.2.1 34 = .ok (.getfield 31, 3) := by decide +kernel
theorem d_X1_ways_37 : decode m_X1_ways.2.1 37 = .ok (.i2l, 1) := by decide +kernel
theorem d_X1_ways_38 : decode m_X1_ways.2.1 38 = .ok (.lmul, 1) := by decide +kernel
theorem d_X1_ways_39 : decode m_X1_ways.2.1 39 = .ok (.lstore_n 2, 1) := by decide +kernel
theorem d_X1_ways_40 : decode m_X1_ways.2.1 40 = .ok (.aload_n 0, 1) := by decide +kernel
theorem d_X1_ways_41 : decode m_X1_ways.2.1 41 = .ok (.getfield 15, 3) := by decide +kernel
theorem d_X1_ways_44 : decode m_X1_ways.2.1 44 = .ok (.iload 4, 2) := by decide +kernel
theorem d_X1_ways_46 : decode m_X1_ways.2.1 46 = .ok (.iaload, 1) := by decide +kernel
theorem d_X1_ways_47 : decode m_X1_ways.2.1 47 = .ok (.iconst (-1), 1) := by decide +kernel
theorem d_X1_ways_48 : decode m_X1_ways.2.1 48 = .ok (.if_icmp .ne 11, 3) := by decide +kernel
theorem d_X1_ways_51 : decode m_X1_ways.2.1 51 = .ok (.lload_n 2, 1) := by decide +kernel
theorem d_X1_ways_52 : decode m_X1_ways.2.1 52 = .ok (.aload_n 1, 1) := by decide +kernel
theorem d_X1_ways_53 : decode m_X1_ways.2.1 53 = .ok (.getfield 36, 3) := by decide +kernel
theorem d_X1_ways_56 : decode m_X1_ways.2.1 56 = .ok (.i2l, 1) := by decide +kernel
theorem d_X1_ways_57 : decode m_X1_ways.2.1 57 = .ok (.lmul, 1) := by decide +kernel
theorem d_X1_ways_58 : decode m_X1_ways.2.1 58 = .ok (.lstore_n 2, 1) := by decide +kernel
theorem d_X1_ways_59 : decode m_X1_ways.2.1 59 = .ok (.iinc 4 1, 3) := by decide +kernel
theorem d_X1_ways_62 : decode m_X1_ways.2.1 62 = .ok (.goto (-57), 3) := by decide +kernel
theorem d_X1_ways_65 : decode m_X1_ways.2.1 65 = .ok (.lload_n 2, 1) := by decide +kernel
theorem d_X1_ways_66 : decode m_X1_ways.2.1 66 = .ok (.lreturn, 1) := by decide +kernel
set_option maxRecDepth 20000 in
theorem e_X1_ways {E : jm_E} {d : Nat} {μ : jm_M} {Q : Option jm_V → jm_M → Prop} {v0 v1 : Int} (h : (∀ v ∈ ([jm_R v0, jm_R v1] : List jm_V), jm_ok v) →
  jg E m_X1_ways d 5 [some (jm_R v0), some (jm_R v1), some (jm_L 1), none, some (jm_I 0)] [] μ Q) : jc E m_X1_ways (d + 1) [jm_R v0, jm_R v1] μ Q := by
  refine jm_Cl.of2 (by decide +kernel) (L0 := [some (jm_R v0), some (jm_R v1), none, none, none]) rfl (Nat.le_of_ble_eq_true rfl) (fun hok => ?_)
  have h := h hok
  refine jm_lconst (v := 1) d_X1_ways_0 rfl (jm_okL (by decide) (by decide)) ?_
  refine jm_lstoren (L' := [some (jm_R _), some (jm_R _), some (jm_L _), none, none]) d_X1_ways_1 (Nat.le_of_ble_eq_true rfl) rfl ?_
  refine jm_iconst (v := 0) d_X1_ways_2 rfl (jm_okI (by decide) (by decide)) ?_
  refine jm_istore (L' := [some (jm_R _), some (jm_R _), some (jm_L _), none, some (jm_I _)]) d_X1_ways_3 (Nat.le_of_ble_eq_true rfl) rfl ?_
  exact h
set_option maxRecDepth 20000 in
theorem r_X1_ways_5 {E : jm_E} {d : Nat} {μ : jm_M} {Q : Option jm_V → jm_M → Prop} {v0 v1 v2 v4 : Int} (h :
  (jm_is jm_N v0 1 1) ∧
  ((μ v0 0 ≤ v4 →
    Q (some (jm_L v2)) μ) ∧
   (¬ (μ v0 0 ≤ v4) →
    ((24 ≤ v4 →
      Q (some (jm_L v2)) μ) ∧
     (¬ (24 ≤ v4) →
      (0 ≤ v4 ∧ v4 < 24) ∧
      (((μ ((v0 + 1)) v4) ≠ ((-1)) →
        jg E m_X1_ways d 40 [some (jm_R v0), some (jm_R v1), some (jm_L v2), none, some (jm_I v4)] [] μ Q) ∧
       (¬ ((μ ((v0 + 1)) v4) ≠ ((-1))) →
        (jm_is jm_N v1 1 5) ∧
        ∀ x7 : Int, x7 = jm_wl (v2 * (μ v1 1)) →
        jg E m_X1_ways d 40 [some (jm_R v0), some (jm_R v1), some (jm_L x7), none, some (jm_I v4)] [] μ Q))))))) : jg E m_X1_ways d 5 [some (jm_R v0), some (jm_R v1), some (jm_L v2), none, some (jm_I v4)] [] μ Q := by
  refine jm_iload d_X1_ways_5 rfl ?_
  refine jm_aloadn d_X1_ways_7 rfl ?_
  obtain ⟨f1, h⟩ := h
  refine jm_getI (k := 0) (ki := 0) cf_X1 (Nat.le_of_ble_eq_true rfl) f_X1_18 d_X1_ways_8 rfl rfl f1 rfl ?_
  refine jm_icmp_ge (tgt := 65) d_X1_ways_11 (by decide) (fun c2 => ?_) (fun c2 => ?_)
  · have h := h.1 c2
    refine jm_lloadn d_X1_ways_65 rfl ?_
    exact jm_ret (o := some (jm_L _)) d_X1_ways_66 rfl ⟨Nat.le_refl _, Nat.le_refl _⟩ jm_r_L h rfl
  · have h := h.2 c2
    refine jm_iload d_X1_ways_14 rfl ?_
    refine jm_bipush (v := 24) d_X1_ways_16 rfl (jm_okI (by decide) (by decide)) ?_
    refine jm_icmp_ge (tgt := 65) d_X1_ways_18 (by decide) (fun c3 => ?_) (fun c3 => ?_)
    · have h := h.1 c3
      refine jm_lloadn d_X1_ways_65 rfl ?_
      exact jm_ret (o := some (jm_L _)) d_X1_ways_66 rfl ⟨Nat.le_refl _, Nat.le_refl _⟩ jm_r_L h rfl
    · have h := h.2 c3
      refine jm_aloadn d_X1_ways_21 rfl ?_
      refine jm_getF (k := 2) (ki := 2) rfl cf_X1 (Nat.le_of_ble_eq_true rfl) f_X1_11 d_X1_ways_22 rfl rfl f1 (fc_1_2 f1) ?_
      refine jm_iload d_X1_ways_25 rfl ?_
      obtain ⟨f4, h⟩ := h
      refine jm_iaload d_X1_ways_27 (xc_1_2 f1 f4.1 f4.2) ?_
      refine jm_iconst (v := (-1)) d_X1_ways_28 rfl (jm_okI (by decide) (by decide)) ?_
      refine jm_icmp_ne (tgt := 40) d_X1_ways_29 (by decide) (fun c5 => ?_) (fun c5 => ?_)
      · have h := h.1 c5
        exact h
      · have h := h.2 c5
        refine jm_lloadn d_X1_ways_32 rfl ?_
        refine jm_aloadn d_X1_ways_33 rfl ?_
        obtain ⟨f6, h⟩ := h
        refine jm_getI (k := 1) (ki := 1) cf_X5 (Nat.le_of_ble_eq_true rfl) f_X1_31 d_X1_ways_34 rfl rfl f6 rfl ?_
        refine jm_i2l d_X1_ways_37 ?_
        refine jm_lmul d_X1_ways_38 ?_
        have h := h _ rfl
        refine jm_lstoren (L' := [some (jm_R _), some (jm_R _), some (jm_L _), none, some (jm_I _)]) d_X1_ways_39 (Nat.le_of_ble_eq_true rfl) rfl ?_
        exact h
set_option maxRecDepth 20000 in
theorem r_X1_ways_40 {E : jm_E} {d : Nat} {μ : jm_M} {Q : Option jm_V → jm_M → Prop} {v0 v1 v2 v4 : Int} (h :
  (jm_is jm_N v0 1 1) ∧
  (0 ≤ v4 ∧ v4 < 24) ∧
  (((μ ((v0 + 2)) v4) ≠ ((-1)) →
    jg E m_X1_ways d 5 [some (jm_R v0), some (jm_R v1), some (jm_L v2), none, some (jm_I (jm_wr (v4 + 1)))] [] μ Q) ∧
   (¬ ((μ ((v0 + 2)) v4) ≠ ((-1))) →
    (jm_is jm_N v1 1 5) ∧
    ∀ x5 : Int, x5 = jm_wl (v2 * (μ v1 4)) →
    jg E m_X1_ways d 5 [some (jm_R v0), some (jm_R v1), some (jm_L x5), none, some (jm_I (jm_wr (v4 + 1)))] [] μ Q))) : jg E m_X1_ways d 40 [some (jm_R v0), some (jm_R v1), some (jm_L v2), none, some (jm_I v4)] [] μ Q := by
  refine jm_aloadn d_X1_ways_40 rfl ?_
  obtain ⟨f1, h⟩ := h
  refine jm_getF (k := 3) (ki := 3) rfl cf_X1 (Nat.le_of_ble_eq_true rfl) f_X1_15 d_X1_ways_41 rfl rfl f1 (fc_1_3 f1) ?_
  refine jm_iload d_X1_ways_44 rfl ?_
  obtain ⟨f2, h⟩ := h
  refine jm_iaload d_X1_ways_46 (xc_1_3 f1 f2.1 f2.2) ?_
  refine jm_iconst (v := (-1)) d_X1_ways_47 rfl (jm_okI (by decide) (by decide)) ?_
  refine jm_icmp_ne (tgt := 59) d_X1_ways_48 (by decide) (fun c3 => ?_) (fun c3 => ?_)
  · have h := h.1 c3
    refine jm_iinc (L' := [some (jm_R _), some (jm_R _), some (jm_L _), none, some (jm_I _)]) d_X1_ways_59 rfl rfl (Nat.le_of_ble_eq_true rfl) rfl ?_
    refine jm_goto (tgt := 5) d_X1_ways_62 (by decide) ?_
    exact h
  · have h := h.2 c3
    refine jm_lloadn d_X1_ways_51 rfl ?_
    refine jm_aloadn d_X1_ways_52 rfl ?_
    obtain ⟨f4, h⟩ := h
    refine jm_getI (k := 4) (ki := 4) cf_X5 (Nat.le_of_ble_eq_true rfl) f_X1_36 d_X1_ways_53 rfl rfl f4 rfl ?_
    refine jm_i2l d_X1_ways_56 ?_
    refine jm_lmul d_X1_ways_57 ?_
    have h := h _ rfl
    refine jm_lstoren (L' := [some (jm_R _), some (jm_R _), some (jm_L _), none, some (jm_I _)]) d_X1_ways_58 (Nat.le_of_ble_eq_true rfl) rfl ?_
    refine jm_iinc (L' := [some (jm_R _), some (jm_R _), some (jm_L _), none, some (jm_I _)]) d_X1_ways_59 rfl rfl (Nat.le_of_ble_eq_true rfl) rfl ?_
    refine jm_goto (tgt := 5) d_X1_ways_62 (by decide) ?_
    exact h
