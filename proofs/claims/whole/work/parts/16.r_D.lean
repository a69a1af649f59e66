-- X4_init: by hand (objinit)
/-! ('CombTable$Sentence', 'clear', '()V') -/
theorem d_X4_clear_0 : decode m_X4_clear.2.1 0 = .ok (.aload_n 0, 1) := by decide +kernel
theorem d_X4_clear_1 : decode m_X4_clear.2.1 1 = .ok (.iconst 0, 1) := by decide +kernel
theorem d_X4_clear_2 : decode m_X4_clear.2.1 2 = .ok (.putfield 21, 3) := by decide +kernel
theorem d_X4_clear_5 : decode m_X4_clear.2.1 5 = .ok (.aload_n 0, 1) := by decide +kernel
theorem d_X4_clear_6 : decode m_X4_clear.2.1 6 = .ok (.iconst 0, 1) := by decide +kernel
theorem d_X4_clear_7 : decode m_X4_clear.2.1 7 = .ok (.putfield 25, 3) := by decide +kernel
theorem d_X4_clear_10 : decode m_X4_clear.2.1 10 = .ok (.return_, 1) := by decide +kernel
set_option maxRecDepth 20000 in
theorem e_X4_clear {E : jm_E} {d : Nat} {μ : jm_M} {Q : Option jm_V → jm_M → Prop} {v0 : Int} (h : (∀ v ∈ ([jm_R v0] : List jm_V), jm_ok v) →
  (jm_is jm_N v0 1 4) ∧
  Q none (jm_up (jm_up μ v0 0 0) v0 1 0)) : jc E m_X4_clear (d + 1) [jm_R v0] μ Q := by
  refine jm_Cl.of2 (by decide +kernel) (L0 := [some (jm_R v0)]) rfl (Nat.le_of_ble_eq_true rfl) (fun hok => ?_)
  have h := h hok
  refine jm_aloadn d_X4_clear_0 rfl ?_
  refine jm_iconst (v := 0) d_X4_clear_1 rfl (jm_okI (by decide) (by decide)) ?_
  obtain ⟨f1, h⟩ := h
  refine jm_putI (k := 0) (ki := 0) cf_X4 (Nat.le_of_ble_eq_true rfl) f_X4_21 d_X4_clear_2 (fun z => absurd z (by decide)) rfl rfl rfl (fun _ => rfl) f1 ?_
  refine jm_aloadn d_X4_clear_5 rfl ?_
  refine jm_iconst (v := 0) d_X4_clear_6 rfl (jm_okI (by decide) (by decide)) ?_
  refine jm_putI (k := 1) (ki := 1) cf_X4 (Nat.le_of_ble_eq_true rfl) f_X4_25 d_X4_clear_7 (fun z => absurd z (by decide)) rfl rfl rfl (fun _ => rfl) f1 ?_
  exact jm_ret (o := none) d_X4_clear_10 rfl ⟨Nat.le_refl _, Nat.le_refl _⟩ jm_r_V h rfl
/-! ('CombTable$Sentence', 'copy', '(LCombTable$Sentence;)V') -/
theorem d_X4_copy_0 : decode m_X4_copy.2.1 0 = .ok (.aload_n 0, 1) := by decide +kernel
theorem d_X4_copy_1 : decode m_X4_copy.2.1 1 = .ok (.aload_n 1, 1) := by decide +kernel
theorem d_X4_copy_2 : decode m_X4_copy.2.1 2 = .ok (.getfield 21, 3) := by decide +kernel
theorem d_X4_copy_5 : decode m_X4_copy.2.1 5 = .ok (.putfield 21, 3) := by decide +kernel
theorem d_X4_copy_8 : decode m_X4_copy.2.1 8 = .ok (.aload_n 0, 1) := by decide +kernel
theorem d_X4_copy_9 : decode m_X4_copy.2.1 9 = .ok (.aload_n 1, 1) := by decide +kernel
theorem d_X4_copy_10 : decode m_X4_copy.2.1 10 = .ok (.getfield 25, 3) := by decide +kernel
theorem d_X4_copy_13 : decode m_X4_copy.2.1 13 = .ok (.putfield 25, 3) := by decide +kernel
theorem d_X4_copy_16 : decode m_X4_copy.2.1 16 = .ok (.aload_n 1, 1) := by decide +kernel
theorem d_X4_copy_17 : decode m_X4_copy.2.1 17 = .ok (.getfield 11, 3) := by decide +kernel
theorem d_X4_copy_20 : decode m_X4_copy.2.1 20 = .ok (.iconst 0, 1) := by decide +kernel
theorem d_X4_copy_21 : decode m_X4_copy.2.1 21 = .ok (.aload_n 0, 1) := by decide +kernel
theorem d_X4_copy_22 : decode m_X4_copy.2.1 22 = .ok (.getfield 11, 3) := by decide +kernel
theorem d_X4_copy_25 : decode m_X4_copy.2.1 25 = .ok (.iconst 0, 1) := by decide +kernel
theorem d_X4_copy_26 : decode m_X4_copy.2.1 26 = .ok (.bipush 64, 2) := by decide +kernel
theorem d_X4_copy_28 : decode m_X4_copy.2.1 28 = .ok (.invokestatic 28, 3) := by decide +kernel
theorem d_X4_copy_31 : decode m_X4_copy.2.1 31 = .ok (.aload_n 1, 1) := by decide +kernel
theorem d_X4_copy_32 : decode m_X4_copy.2.1 32 = .ok (.getfield 15, 3) := by decide +kernel
theorem d_X4_copy_35 : decode m_X4_copy.2.1 35 = .ok (.iconst 0, 1) := by decide +kernel
theorem d_X4_copy_36 : decode m_X4_copy.2.1 36 = .ok (.aload_n 0, 1) := by decide +kernel
theorem d_X4_copy_37 : decode m_X4_copy.2.1 37 = .ok (.getfield 15, 3) := by decide +kernel
theorem d_X4_copy_40 : decode m_X4_copy.2.1 40 = .ok (.iconst 0, 1) := by decide +kernel
theorem d_X4_copy_41 : decode m_X4_copy.2.1 41 = .ok (.bipush 64, 2) := by decide +kernel
theorem d_X4_copy_43 : decode m_X4_copy.2.1 43 = .ok (.invokestatic 28, 3) := by decide +kernel
theorem d_X4_copy_46 : decode m_X4_copy.2.1 46 = .ok (.aload_n 1, 1) := by decide +kernel
theorem d_X4_copy_47 : decode m_X4_copy.2.1 47 = .ok (.getfield 18, 3) := by decide +kernel
theorem d_X4_copy_50 : decode m_X4_copy.2.1 50 = .ok (.iconst 0, 1) := by decide +kernel
theorem d_X4_copy_51 : decode m_X4_copy.2.1 51 = .ok (.aload_n 0, 1) := by decide +kernel
theorem d_X4_copy_52 : decode m_X4_copy.2.1 52 = .ok (.getfield 18, 3) := by decide +kernel
theorem d_X4_copy_55 : decode m_X4_copy.2.1 55 = .ok (.iconst 0, 1) := by decide +kernel
theorem d_X4_copy_56 : decode m_X4_copy.2.1 56 = .ok (.bipush 64, 2) := by decide +kernel
theorem d_X4_copy_58 : decode m_X4_copy.2.1 58 = .ok (.invokestatic 28, 3) := by decide +kernel
theorem d_X4_copy_61 : decode m_X4_copy.2.1 61 = .ok (.return_, 1) := by decide +kernel
set_option maxRecDepth 20000 in
theorem e_X4_copy {E : jm_E} {d : Nat} {μ : jm_M} {Q : Option jm_V → jm_M → Prop} {v0 v1 : Int} (h : (∀ v ∈ ([jm_R v0, jm_R v1] : List jm_V), jm_ok v) →
  (jm_is jm_N v1 1 4) ∧
  (jm_is jm_N v0 1 4) ∧
  ∀ m3 : jm_M, m3 = jm_cpy (jm_up (jm_up μ v0 0 (μ v1 0)) v0 1 (μ v1 1)) ((v1 + 1)) 0 ((v0 + 1)) 0 64 →
  ∀ m4 : jm_M, m4 = jm_cpy m3 ((v1 + 2)) 0 ((v0 + 2)) 0 64 →
  ∀ m5 : jm_M, m5 = jm_cpy m4 ((v1 + 3)) 0 ((v0 + 3)) 0 64 →
  Q none m5) : jc E m_X4_copy (d + 1) [jm_R v0, jm_R v1] μ Q := by
  refine jm_Cl.of2 (by decide +kernel) (L0 := [some (jm_R v0), some (jm_R v1)]) rfl (Nat.le_of_ble_eq_true rfl) (fun hok => ?_)
  have h := h hok
  refine jm_aloadn d_X4_copy_0 rfl ?_
  refine jm_aloadn d_X4_copy_1 rfl ?_
  obtain ⟨f1, h⟩ := h
  refine jm_getI (k := 0) (ki := 0) cf_X4 (Nat.le_of_ble_eq_true rfl) f_X4_21 d_X4_copy_2 rfl rfl f1 rfl ?_
  obtain ⟨f2, h⟩ := h
  refine jm_putI (k := 0) (ki := 0) cf_X4 (Nat.le_of_ble_eq_true rfl) f_X4_21 d_X4_copy_5 (fun z => absurd z (by decide)) rfl rfl rfl (fun _ => rfl) f2 ?_
  refine jm_aloadn d_X4_copy_8 rfl ?_
  refine jm_aloadn d_X4_copy_9 rfl ?_
  refine jm_getI (k := 1) (ki := 1) cf_X4 (Nat.le_of_ble_eq_true rfl) f_X4_25 d_X4_copy_10 rfl rfl f1 ((jm_up_i (by decide)).trans rfl) ?_
  refine jm_putI (k := 1) (ki := 1) cf_X4 (Nat.le_of_ble_eq_true rfl) f_X4_25 d_X4_copy_13 (fun z => absurd z (by decide)) rfl rfl rfl (fun _ => rfl) f2 ?_
  refine jm_aloadn d_X4_copy_16 rfl ?_
  refine jm_getF (k := 2) (ki := 2) rfl cf_X4 (Nat.le_of_ble_eq_true rfl) f_X4_11 d_X4_copy_17 rfl rfl f1 (fc_4_2 f1) ?_
  refine jm_iconst (v := 0) d_X4_copy_20 rfl (jm_okI (by decide) (by decide)) ?_
  refine jm_aloadn d_X4_copy_21 rfl ?_
  refine jm_getF (k := 2) (ki := 2) rfl cf_X4 (Nat.le_of_ble_eq_true rfl) f_X4_11 d_X4_copy_22 rfl rfl f2 (fc_4_2 f2) ?_
  refine jm_iconst (v := 0) d_X4_copy_25 rfl (jm_okI (by decide) (by decide)) ?_
  refine jm_bipush (v := 64) d_X4_copy_26 rfl (jm_okI (by decide) (by decide)) ?_
  refine jm_acp ⟨by decide, (ac_4_2 f1).1, by rw [(ac_4_2 f1).2]; decide, (ac_4_2 f2).1, by rw [(ac_4_2 f2).2]; decide⟩ l_X4_28 d_X4_copy_28 ?_
  have h := h _ rfl
  refine jm_aloadn d_X4_copy_31 rfl ?_
  refine jm_getF (k := 3) (ki := 3) rfl cf_X4 (Nat.le_of_ble_eq_true rfl) f_X4_15 d_X4_copy_32 rfl rfl f1 (fc_4_3 f1) ?_
  refine jm_iconst (v := 0) d_X4_copy_35 rfl (jm_okI (by decide) (by decide)) ?_
  refine jm_aloadn d_X4_copy_36 rfl ?_
  refine jm_getF (k := 3) (ki := 3) rfl cf_X4 (Nat.le_of_ble_eq_true rfl) f_X4_15 d_X4_copy_37 rfl rfl f2 (fc_4_3 f2) ?_
  refine jm_iconst (v := 0) d_X4_copy_40 rfl (jm_okI (by decide) (by decide)) ?_
  refine jm_bipush (v := 64) d_X4_copy_41 rfl (jm_okI (by decide) (by decide)) ?_
  refine jm_acp ⟨by decide, (ac_4_3 f1).1, by rw [(ac_4_3 f1).2]; decide, (ac_4_3 f2).1, by rw [(ac_4_3 f2).2]; decide⟩ l_X4_28 d_X4_copy_43 ?_
  have h := h _ rfl
  refine jm_aloadn d_X4_copy_46 rfl ?_
  refine jm_getF (k := 4) (ki := 4) rfl cf_X4 (Nat.le_of_ble_eq_true rfl) f_X4_18 d_X4_copy_47 rfl rfl f1 (fc_4_4 f1) ?_
  refine jm_iconst (v := 0) d_X4_copy_50 rfl (jm_okI (by decide) (by decide)) ?_
  refine jm_aloadn d_X4_copy_51 rfl ?_
  refine jm_getF (k := 4) (ki := 4) rfl cf_X4 (Nat.le_of_ble_eq_true rfl) f_X4_18 d_X4_copy_52 rfl rfl f2 (fc_4_4 f2) ?_
  refine jm_iconst (v := 0) d_X4_copy_55 rfl (jm_okI (by decide) (by decide)) ?_
  refine jm_bipush (v := 64) d_X4_copy_56 rfl (jm_okI (by decide) (by decide)) ?_
  refine jm_acp ⟨by decide, (ac_4_4 f1).1, by rw [(ac_4_4 f1).2]; decide, (ac_4_4 f2).1, by rw [(ac_4_4 f2).2]; decide⟩ l_X4_28 d_X4_copy_58 ?_
  have h := h _ rfl
  exact jm_ret (o := none) d_X4_copy_61 rfl ⟨Nat.le_refl _, Nat.le_refl _⟩ jm_r_V h rfl
/-! ('CombTable$Sentence', 'put', '(III)V') -/
theorem d_X4_put_0 : decode m_X4_put.2.1 0 = .ok (.aload_n 0, 1) := by decide +kernel
theorem d_X4_put_1 : decode m_X4_put.2.1 1 = .ok (.getfield 25, 3) := by decide +kernel
theorem d_X4_put_4 : decode m_X4_put.2.1 4 = .ok (.bipush 64, 2) := by decide +kernel
theorem d_X4_put_6 : decode m_X4_put.2.1 6 = .ok (.if_icmp .ge 43, 3) := by decide +kernel
theorem d_X4_put_9 : decode m_X4_put.2.1 9 = .ok (.aload_n 0, 1) := by decide +kernel
theorem d_X4_put_10 : decode m_X4_put.2.1 10 = .ok (.getfield 11, 3) := by decide +kernel
theorem d_X4_put_13 : decode m_X4_put.2.1 13 = .ok (.aload_n 0, 1) := by decide +kernel
theorem d_X4_put_14 : decode m_X4_put.2.1 14 = .ok (.getfield 25, 3) := by decide +kernel
theorem d_X4_put_17 : decode m_X4_put.2.1 17 = .ok (.iload_n 1, 1) := by decide +kernel
theorem d_X4_put_18 : decode m_X4_put.2.1 18 = .ok (.iastore, 1) := by decide +kernel
theorem d_X4_put_19 : decode m_X4_put.2.1 19 = .ok (.aload_n 0, 1) := by decide +kernel
theorem d_X4_put_20 : decode m_X4_put.2.1 20 = .ok (.getfield 15, 3) := by decide +kernel
theorem d_X4_put_23 : decode m_X4_put.2.1 23 = .ok (.aload_n 0, 1) := by decide +kernel
theorem d_X4_put_24 : decode m_X4_put.2.1 24 = .ok (.getfield 25, 3) := by decide +kernel
theorem d_X4_put_27 : decode m_X4_put.2.1 27 = .ok (.iload_n 2, 1) := by decide +kernel
theorem d_X4_put_28 : decode m_X4_put.2.1 28 = .ok (.iastore, 1) := by decide +kernel
theorem d_X4_put_29 : decode m_X4_put.2.1 29 = .ok (.aload_n 0, 1) := by decide +kernel
theorem d_X4_put_30 : decode m_X4_put.2.1 30 = .ok (.getfield 18, 3) := by decide +kernel
theorem d_X4_put_33 : decode m_X4_put.2.1 33 = .ok (.aload_n 0, 1) := by decide +kernel
theorem d_X4_put_34 : decode m_X4_put.2.1 34 = .ok (.getfield 25, 3) := by decide +kernel
theorem d_X4_put_37 : decode m_X4_put.2.1 37 = .ok (.iload_n 3, 1) := by decide +kernel
theorem d_X4_put_38 : decode m_X4_put.2.1 38 = .ok (.iastore, 1) := by decide +kernel
theorem d_X4_put_39 : decode m_X4_put.2.1 39 = .ok (.aload_n 0, 1) := by decide +kernel
theorem d_X4_put_40 : decode m_X4_put.2.1 40 = .ok (.dup, 1) := by decide +kernel
theorem d_X4_put_41 : decode m_X4_put.2.1 41 = .ok (.getfield 25, 3) := by decide +kernel
theorem d_X4_put_44 : decode m_X4_put.2.1 44 = .ok (.iconst 1, 1) := by decide +kernel
theorem d_X4_put_45 : decode m_X4_put.2.1 45 = .ok (.iadd, 1) := by decide +kernel
theorem d_X4_put_46 : decode m_X4_put.2.1 46 = .ok (.putfield 25, 3) := by decide +kernel
theorem d_X4_put_49 : decode m_X4_put.2.1 49 = .ok (.return_, 1) := by decide +kernel
set_option maxRecDepth 20000 in
theorem e_X4_put {E : jm_E} {d : Nat} {μ : jm_M} {Q : Option jm_V → jm_M → Prop} {v0 v1 v2 v3 : Int} (h : (∀ v ∈ ([jm_R v0, jm_I v1, jm_I v2, jm_I v3] : List jm_V), jm_ok v) →
  (jm_is jm_N v0 1 4) ∧
  ((64 ≤ μ v0 1 →
    Q none μ) ∧
   (¬ (64 ≤ μ v0 1) →
    (0 ≤ μ v0 1 ∧ μ v0 1 < 64) ∧
    ∀ m4 : jm_M, m4 = (jm_up μ ((v0 + 1)) (μ v0 1) v1) →
    (0 ≤ m4 v0 1 ∧ m4 v0 1 < 64) ∧
    ∀ m6 : jm_M, m6 = (jm_up m4 ((v0 + 2)) (m4 v0 1) v2) →
    (0 ≤ m6 v0 1 ∧ m6 v0 1 < 64) ∧
    ∀ m8 : jm_M, m8 = (jm_up m6 ((v0 + 3)) (m6 v0 1) v3) →
    Q none (jm_up m8 v0 1 (jm_wr ((m8 v0 1) + 1)))))) : jc E m_X4_put (d + 1) [jm_R v0, jm_I v1, jm_I v2, jm_I v3] μ Q := by
  refine jm_Cl.of2 (by decide +kernel) (L0 := [some (jm_R v0), some (jm_I v1), some (jm_I v2), some (jm_I v3)]) rfl (Nat.le_of_ble_eq_true rfl) (fun hok => ?_)
  have h := h hok
  refine jm_aloadn d_X4_put_0 rfl ?_
  obtain ⟨f1, h⟩ := h
  refine jm_getI (k := 1) (ki := 1) cf_X4 (Nat.le_of_ble_eq_true rfl) f_X4_25 d_X4_put_1 rfl rfl f1 rfl ?_
  refine jm_bipush (v := 64) d_X4_put_4 rfl (jm_okI (by decide) (by decide)) ?_
  refine jm_icmp_ge (tgt := 49) d_X4_put_6 (by decide) (fun c2 => ?_) (fun c2 => ?_)
  · have h := h.1 c2
    exact jm_ret (o := none) d_X4_put_49 rfl ⟨Nat.le_refl _, Nat.le_refl _⟩ jm_r_V h rfl
  · have h := h.2 c2
    refine jm_aloadn d_X4_put_9 rfl ?_
    refine jm_getF (k := 2) (ki := 2) rfl cf_X4 (Nat.le_of_ble_eq_true rfl) f_X4_11 d_X4_put_10 rfl rfl f1 (fc_4_2 f1) ?_
    refine jm_aloadn d_X4_put_13 rfl ?_
    refine jm_getI (k := 1) (ki := 1) cf_X4 (Nat.le_of_ble_eq_true rfl) f_X4_25 d_X4_put_14 rfl rfl f1 rfl ?_
    refine jm_iloadn d_X4_put_17 rfl ?_
    obtain ⟨f3, h⟩ := h
    refine jm_iastore d_X4_put_18 (xc_4_2 f1 f3.1 f3.2) ?_
    have h := h _ rfl
    refine jm_aloadn d_X4_put_19 rfl ?_
    refine jm_getF (k := 3) (ki := 3) rfl cf_X4 (Nat.le_of_ble_eq_true rfl) f_X4_15 d_X4_put_20 rfl rfl f1 (fc_4_3 f1) ?_
    refine jm_aloadn d_X4_put_23 rfl ?_
    refine jm_getI (k := 1) (ki := 1) cf_X4 (Nat.le_of_ble_eq_true rfl) f_X4_25 d_X4_put_24 rfl rfl f1 rfl ?_
    refine jm_iloadn d_X4_put_27 rfl ?_
    obtain ⟨f5, h⟩ := h
    refine jm_iastore d_X4_put_28 (xc_4_3 f1 f5.1 f5.2) ?_
    have h := h _ rfl
    refine jm_aloadn d_X4_put_29 rfl ?_
    refine jm_getF (k := 4) (ki := 4) rfl cf_X4 (Nat.le_of_ble_eq_true rfl) f_X4_18 d_X4_put_30 rfl rfl f1 (fc_4_4 f1) ?_
    refine jm_aloadn d_X4_put_33 rfl ?_
    refine jm_getI (k := 1) (ki := 1) cf_X4 (Nat.le_of_ble_eq_true rfl) f_X4_25 d_X4_put_34 rfl rfl f1 rfl ?_
    refine jm_iloadn d_X4_put_37 rfl ?_
    obtain ⟨f7, h⟩ := h
    refine jm_iastore d_X4_put_38 (xc_4_4 f1 f7.1 f7.2) ?_
    have h := h _ rfl
    refine jm_aloadn d_X4_put_39 rfl ?_
    refine jm_dup rfl d_X4_put_40 ?_
    refine jm_getI (k := 1) (ki := 1) cf_X4 (Nat.le_of_ble_eq_true rfl) f_X4_25 d_X4_put_41 rfl rfl f1 rfl ?_
    refine jm_iconst (v := 1) d_X4_put_44 rfl (jm_okI (by decide) (by decide)) ?_
    refine jm_iadd d_X4_put_45 ?_
    refine jm_putI (k := 1) (ki := 1) cf_X4 (Nat.le_of_ble_eq_true rfl) f_X4_25 d_X4_put_46 (fun z => absurd z (by decide)) rfl rfl rfl (fun _ => rfl) f1 ?_
    exact jm_ret (o := none) d_X4_put_49 rfl ⟨Nat.le_refl _, Nat.le_refl _⟩ jm_r_V h rfl
/-! ('CombTable$Sentence', 'holds', '(LCombTable$Talk;I)Z') -/
theorem d_X4_holds_0 : decode m_X4_holds.2.1 0 = .ok (.iconst 0, 1) := by decide +kernel
theorem d_X4_holds_1 : decode m_X4_holds.2.1 1 = .ok (.istore_n 3, 1) := by decide +kernel
theorem d_X4_holds_2 : decode m_X4_holds.2.1 2 = .ok (.iconst 0, 1) := by decide +kernel
theorem d_X4_holds_3 : decode m_X4_holds.2.1 3 = .ok (.istore 4, 2) := by decide +kernel
theorem d_X4_holds_5 : decode m_X4_holds.2.1 5 = .ok (.iload 4, 2) := by decide +kernel
theorem d_X4_holds_7 : decode m_X4_holds.2.1 7 = .ok (.aload_n 0, 1) := by decide +kernel
theorem d_X4_holds_8 : decode m_X4_holds.2.1 8 = .ok (.getfield 25, 3) := by decide +kernel
theorem d_X4_holds_11 : decode m_X4_holds.2.1 11 = .ok (.if_icmp .ge 104, 3) := by decide +kernel
theorem d_X4_holds_14 : decode m_X4_holds.2.1 14 = .ok (.iload 4, 2) := by decide +kernel
theorem d_X4_holds_16 : decode m_X4_holds.2.1 16 = .ok (.bipush 64, 2) := by decide +kernel
theorem d_X4_holds_18 : decode m_X4_holds.2.1 18 = .ok (.if_icmp .ge 97, 3) := by decide +kernel
theorem d_X4_holds_21 : decode m_X4_holds.2.1 21 = .ok (.iload_n 3, 1) := by decide +kernel
theorem d_X4_holds_22 : decode m_X4_holds.2.1 22 = .ok (.iconst 1, 1) := by decide +kernel
theorem d_X4_holds_23 : decode m_X4_holds.2.1 23 = .ok (.iand, 1) := by decide +kernel
theorem d_X4_holds_24 : decode m_X4_holds.2.1 24 = .ok (.istore 5, 2) := by decide +kernel
theorem d_X4_holds_26 : decode m_X4_holds.2.1 26 = .ok (.aload_n 0, 1) := by decide +kernel
theorem d_X4_holds_27 : decode m_X4_holds.2.1 27 = .ok (.getfield 11, 3) := by decide +kernel
theorem d_X4_holds_30 : decode m_X4_holds.2.1 30 = .ok (.iload 4, 2) := by decide +kernel
theorem d_X4_holds_32 : decode m_X4_holds.2.1 32 = .ok (.iaload, 1) := by decide +kernel
theorem d_X4_holds_33 : decode m_X4_holds.2.1 33 = .ok (.ifCond .ne 10, 3) := by decide +kernel
theorem d_X4_holds_36 : decode m_X4_holds.2.1 36 = .ok (.iload_n 3, 1) := by decide +kernel
theorem d_X4_holds_37 : decode m_X4_holds.2.1 37 = .ok (.iconst 1, 1) := by decide +kernel
theorem d_X4_holds_38 : decode m_X4_holds.2.1 38 = .ok (.ixor, 1) := by decide +kernel
theorem d_X4_holds_39 : decode m_X4_holds.2.1 39 = .ok (.istore_n 3, 1) := by decide +kernel
theorem d_X4_holds_40 : decode m_X4_holds.2.1 40 = .ok (.goto 69, 3) := by decide +kernel
theorem d_X4_holds_43 : decode m_X4_holds.2.1 43 = .ok (.aload_n 0, 1) := by decide +kernel
theorem d_X4_holds_44 : decode m_X4_holds.2.1 44 = .ok (.getfield 11, 3) := by decide +kernel
theorem d_X4_holds_47 : decode m_X4_holds.2.1 47 = .ok (.iload 4, 2) := by decide +kernel
theorem d_X4_holds_49 : decode m_X4_holds.2.1 49 = .ok (.iaload, 1) := by decide +kernel
theorem d_X4_holds_50 : decode m_X4_holds.2.1 50 = .ok (.iconst 1, 1) := by decide +kernel
theorem d_X4_holds_51 : decode m_X4_holds.2.1 51 = .ok (.if_icmp .ne 16, 3) := by decide +kernel
theorem d_X4_holds_54 : decode m_X4_holds.2.1 54 = .ok (.iload_n 3, 1) := by decide +kernel
theorem d_X4_holds_55 : decode m_X4_holds.2.1 55 = .ok (.iconst 1, 1) := by decide +kernel
theorem d_X4_holds_56 : decode m_X4_holds.2.1 56 = .ok (.iushr, 1) := by decide +kernel
theorem d_X4_holds_57 : decode m_X4_holds.2.1 57 = .ok (.bipush (-2), 2) := by decide +kernel
theorem d_X4_holds_59 : decode m_X4_holds.2.1 59 = .ok (.iload 5, 2) := by decide +kernel
theorem d_X4_holds_61 : decode m_X4_holds.2.1 61 = .ok (.ior, 1) := by decide +kernel
theorem d_X4_holds_62 : decode m_X4_holds.2.1 62 = .ok (.iand, 1) := by decide +kernel
theorem d_X4_holds_63 : decode m_X4_holds.2.1 63 = .ok (.istore_n 3, 1) := by decide +kernel
theorem d_X4_holds_64 : decode m_X4_holds.2.1 64 = .ok (.goto 45, 3) := by decide +kernel
theorem d_X4_holds_67 : decode m_X4_holds.2.1 67 = .ok (.aload_n 0, 1) := by decide +kernel
theorem d_X4_holds_68 : decode m_X4_holds.2.1 68 = .ok (.getfield 11, 3) := by decide +kernel
theorem d_X4_holds_71 : decode m_X4_holds.2.1 71 = .ok (.iload 4, 2) := by decide +kernel
theorem d_X4_holds_73 : decode m_X4_holds.2.1 73 = .ok (.iaload, 1) := by decide +kernel
theorem d_X4_holds_74 : decode m_X4_holds.2.1 74 = .ok (.iconst 2, 1) := by decide +kernel
theorem d_X4_holds_75 : decode m_X4_holds.2.1 75 = .ok (.if_icmp .ne 13, 3) := by decide +kernel
theorem d_X4_holds_78 : decode m_X4_holds.2.1 78 = .ok (.iload_n 3, 1) := by decide +kernel
theorem d_X4_holds_79 : decode m_X4_holds.2.1 79 = .ok (.iconst 1, 1) := by decide +kernel
theorem d_X4_holds_80 : decode m_X4_holds.2.1 80 = .ok (.iushr, 1) := by decide +kernel
theorem d_X4_holds_81 : decode m_X4_holds.2.1 81 = .ok (.iload 5, 2) := by decide +kernel
theorem d_X4_holds_83 : decode m_X4_holds.2.1 83 = .ok (.ior, 1) := by decide +kernel
theorem d_X4_holds_84 : decode m_X4_holds.2.1 84 = .ok (.istore_n 3, 1) := by decide +kernel
theorem d_X4_holds_85 : decode m_X4_holds.2.1 85 = .ok (.goto 24, 3) := by decide +kernel
theorem d_X4_holds_88 : decode m_X4_holds.2.1 88 = .ok (.iload_n 3, 1) := by decide +kernel
theorem d_X4_holds_89 : decode m_X4_holds.2.1 89 = .ok (.iconst 1, 1) := by decide +kernel
theorem d_X4_holds_90 : decode m_X4_holds.2.1 90 = .ok (.ishl, 1) := by decide +kernel
theorem d_X4_holds_91 : decode m_X4_holds.2.1 91 = .ok (.aload_n 0, 1) := by decide +kernel
theorem d_X4_holds_92 : decode m_X4_holds.2.1 92 = .ok (.aload_n 1, 1) := by decide +kernel
theorem d_X4_holds_93 : decode m_X4_holds.2.1 93 = .ok (.iload_n 2, 1) := by decide +kernel
theorem d_X4_holds_94 : decode m_X4_holds.2.1 94 = .ok (.iload 4, 2) := by decide +kernel
theorem d_X4_holds_96 : decode m_X4_holds.2.1 96 = .ok (.invokevirtual 34, 3) := by decide +kernel
theorem d_X4_holds_99 : decode m_X4_holds.2.1 99 = .ok (.ifCond .eq 7, 3) := by decide +kernel
theorem d_X4_holds_102 : decode m_X4_holds.2.1 102 = .ok (.iconst 1, 1) := by decide +kernel
theorem d_X4_holds_103 : decode m_X4_holds.2.1 103 = .ok (.goto 4, 3) := by decide +kernel
theorem d_X4_holds_106 : decode m_X4_holds.2.1 106 = .ok (.iconst 0, 1) := by decide +kernel
theorem d_X4_holds_107 : decode m_X4_holds.2.1 107 = .ok (.ior, 1) := by decide +kernel
theorem d_X4_holds_108 : decode m_X4_holds.2.1 108 = .ok (.istore_n 3, 1) := by decide +kernel
theorem d_X4_holds_109 : decode m_X4_holds.2.1 109 = .ok (.iinc 4 1, 3) := by decide +kernel
theorem d_X4_holds_112 : decode m_X4_holds.2.1 112 = .ok (.goto (-107), 3) := by decide +kernel
theorem d_X4_holds_115 : decode m_X4_holds.2.1 115 = .ok (.iload_n 3, 1) := by decide +kernel
theorem d_X4_holds_116 : decode m_X4_holds.2.1 116 = .ok (.iconst 1, 1) := by decide +kernel
theorem d_X4_holds_117 : decode m_X4_holds.2.1 117 = .ok (.iand, 1) := by decide +kernel
theorem d_X4_holds_118 : decode m_X4_holds.2.1 118 = .ok (.ifCond .eq 7, 3) := by decide +kernel
theorem d_X4_holds_121 : decode m_X4_holds.2.1 121 = .ok (.iconst 1, 1) := by decide +kernel
theorem d_X4_holds_122 : decode m_X4_holds.2.1 122 = .ok (.goto 4, 3) := by decide +kernel
theorem d_X4_holds_125 : decode m_X4_holds.2.1 125 = .ok (.iconst 0, 1) := by decide +kernel
theorem d_X4_holds_126 : decode m_X4_holds.2.1 126 = .ok (.ireturn, 1) := by decide +kernel
set_option maxRecDepth 20000 in
theorem e_X4_holds {E : jm_E} {d : Nat} {μ : jm_M} {Q : Option jm_V → jm_M → Prop} {v0 v1 v2 : Int} (h : (∀ v ∈ ([jm_R v0, jm_R v1, jm_I v2] : List jm_V), jm_ok v) →
  jg E m_X4_holds d 5 [some (jm_R v0), some (jm_R v1), some (jm_I v2), some (jm_I 0), some (jm_I 0), none] [] μ Q) : jc E m_X4_holds (d + 1) [jm_R v0, jm_R v1, jm_I v2] μ Q := by
  refine jm_Cl.of2 (by decide +kernel) (L0 := [some (jm_R v0), some (jm_R v1), some (jm_I v2), none, none, none]) rfl (Nat.le_of_ble_eq_true rfl) (fun hok => ?_)
  have h := h hok
  refine jm_iconst (v := 0) d_X4_holds_0 rfl (jm_okI (by decide) (by decide)) ?_
  refine jm_istoren (L' := [some (jm_R _), some (jm_R _), some (jm_I _), some (jm_I _), none, none]) d_X4_holds_1 (Nat.le_of_ble_eq_true rfl) rfl ?_
  refine jm_iconst (v := 0) d_X4_holds_2 rfl (jm_okI (by decide) (by decide)) ?_
  refine jm_istore (L' := [some (jm_R _), some (jm_R _), some (jm_I _), some (jm_I _), some (jm_I _), none]) d_X4_holds_3 (Nat.le_of_ble_eq_true rfl) rfl ?_
  exact h
set_option maxRecDepth 20000 in
theorem r_X4_holds_5 {E : jm_E} {d : Nat} {μ : jm_M} {Q : Option jm_V → jm_M → Prop} {v0 v1 v2 v3 v4 : Int} (h :
  (jm_is jm_N v0 1 4) ∧
  ((μ v0 1 ≤ v4 →
    ((jm_and v3 1 = 0 →
      Q (some (jm_I 0)) μ) ∧
     (¬ (jm_and v3 1 = 0) →
      Q (some (jm_I 1)) μ))) ∧
   (¬ (μ v0 1 ≤ v4) →
    ((64 ≤ v4 →
      ((jm_and v3 1 = 0 →
        Q (some (jm_I 0)) μ) ∧
       (¬ (jm_and v3 1 = 0) →
        Q (some (jm_I 1)) μ))) ∧
     (¬ (64 ≤ v4) →
      ∀ x6 : Int, x6 = jm_and v3 1 →
      (0 ≤ v4 ∧ v4 < 64) ∧
      (((μ ((v0 + 1)) v4) ≠ 0 →
        (((μ ((v0 + 1)) v4) ≠ 1 →
          (((μ ((v0 + 1)) v4) ≠ 2 →
            jc E m_X4_isSo d [jm_R v0, jm_R v1, jm_I v2, jm_I v4] μ (fun (o : Option jm_V) (m11 : jm_M) => ∀ r12 : Int, o = some (jm_I r12) → (r12 = 0 ∨ r12 = 1) →
            ((r12 = 0 →
              ∀ x15 : Int, x15 = jm_or (jm_shl v3 1) 0 →
              jg E m_X4_holds d 5 [some (jm_R v0), some (jm_R v1), some (jm_I v2), some (jm_I x15), some (jm_I (jm_wr (v4 + 1))), none] [] m11 Q) ∧
             (¬ (r12 = 0) →
              ∀ x16 : Int, x16 = jm_or (jm_shl v3 1) 1 →
              jg E m_X4_holds d 5 [some (jm_R v0), some (jm_R v1), some (jm_I v2), some (jm_I x16), some (jm_I (jm_wr (v4 + 1))), none] [] m11 Q)))) ∧
           (¬ ((μ ((v0 + 1)) v4) ≠ 2) →
            ∀ x17 : Int, x17 = jm_or (jm_ushr v3 1) x6 →
            jg E m_X4_holds d 5 [some (jm_R v0), some (jm_R v1), some (jm_I v2), some (jm_I x17), some (jm_I (jm_wr (v4 + 1))), none] [] μ Q))) ∧
         (¬ ((μ ((v0 + 1)) v4) ≠ 1) →
          ∀ x18 : Int, x18 = jm_and (jm_ushr v3 1) (jm_or ((-2)) x6) →
          jg E m_X4_holds d 5 [some (jm_R v0), some (jm_R v1), some (jm_I v2), some (jm_I x18), some (jm_I (jm_wr (v4 + 1))), none] [] μ Q))) ∧
       (¬ ((μ ((v0 + 1)) v4) ≠ 0) →
        ∀ x19 : Int, x19 = jm_xor v3 1 →
        jg E m_X4_holds d 5 [some (jm_R v0), some (jm_R v1), some (jm_I v2), some (jm_I x19), some (jm_I (jm_wr (v4 + 1))), none] [] μ Q))))))) : jg E m_X4_holds d 5 [some (jm_R v0), some (jm_R v1), some (jm_I v2), some (jm_I v3), some (jm_I v4), none] [] μ Q := by
  refine jm_iload d_X4_holds_5 rfl ?_
  refine jm_aloadn d_X4_holds_7 rfl ?_
  obtain ⟨f1, h⟩ := h
  refine jm_getI (k := 1) (ki := 1) cf_X4 (Nat.le_of_ble_eq_true rfl) f_X4_25 d_X4_holds_8 rfl rfl f1 rfl ?_
  refine jm_icmp_ge (tgt := 115) d_X4_holds_11 (by decide) (fun c2 => ?_) (fun c2 => ?_)
  · have h := h.1 c2
    refine jm_iloadn d_X4_holds_115 rfl ?_
    refine jm_iconst (v := 1) d_X4_holds_116 rfl (jm_okI (by decide) (by decide)) ?_
    refine jm_iand d_X4_holds_117 ?_
    refine jm_if_eq (tgt := 125) d_X4_holds_118 (by decide) (fun c3 => ?_) (fun c3 => ?_)
    · have h := h.1 c3
      refine jm_iconst (v := 0) d_X4_holds_125 rfl (jm_okI (by decide) (by decide)) ?_
      exact jm_ret (o := some (jm_I _)) d_X4_holds_126 rfl ⟨Nat.le_refl _, Nat.le_refl _⟩ (jm_r_Z (by decide)) h rfl
    · have h := h.2 c3
      refine jm_iconst (v := 1) d_X4_holds_121 rfl (jm_okI (by decide) (by decide)) ?_
      refine jm_goto (tgt := 126) d_X4_holds_122 (by decide) ?_
      exact jm_ret (o := some (jm_I _)) d_X4_holds_126 rfl ⟨Nat.le_refl _, Nat.le_refl _⟩ (jm_r_Z (by decide)) h rfl
  · have h := h.2 c2
    refine jm_iload d_X4_holds_14 rfl ?_
    refine jm_bipush (v := 64) d_X4_holds_16 rfl (jm_okI (by decide) (by decide)) ?_
    refine jm_icmp_ge (tgt := 115) d_X4_holds_18 (by decide) (fun c4 => ?_) (fun c4 => ?_)
    · have h := h.1 c4
      refine jm_iloadn d_X4_holds_115 rfl ?_
      refine jm_iconst (v := 1) d_X4_holds_116 rfl (jm_okI (by decide) (by decide)) ?_
      refine jm_iand d_X4_holds_117 ?_
      refine jm_if_eq (tgt := 125) d_X4_holds_118 (by decide) (fun c5 => ?_) (fun c5 => ?_)
      · have h := h.1 c5
        refine jm_iconst (v := 0) d_X4_holds_125 rfl (jm_okI (by decide) (by decide)) ?_
        exact jm_ret (o := some (jm_I _)) d_X4_holds_126 rfl ⟨Nat.le_refl _, Nat.le_refl _⟩ (jm_r_Z (by decide)) h rfl
      · have h := h.2 c5
        refine jm_iconst (v := 1) d_X4_holds_121 rfl (jm_okI (by decide) (by decide)) ?_
        refine jm_goto (tgt := 126) d_X4_holds_122 (by decide) ?_
        exact jm_ret (o := some (jm_I _)) d_X4_holds_126 rfl ⟨Nat.le_refl _, Nat.le_refl _⟩ (jm_r_Z (by decide)) h rfl
    · have h := h.2 c4
      refine jm_iloadn d_X4_holds_21 rfl ?_
      refine jm_iconst (v := 1) d_X4_holds_22 rfl (jm_okI (by decide) (by decide)) ?_
      refine jm_iand d_X4_holds_23 ?_
      have h := h _ rfl
      refine jm_istore (L' := [some (jm_R _), some (jm_R _), some (jm_I _), some (jm_I _), some (jm_I _), some (jm_I _)]) d_X4_holds_24 (Nat.le_of_ble_eq_true rfl) rfl ?_
      refine jm_aloadn d_X4_holds_26 rfl ?_
      refine jm_getF (k := 2) (ki := 2) rfl cf_X4 (Nat.le_of_ble_eq_true rfl) f_X4_11 d_X4_holds_27 rfl rfl f1 (fc_4_2 f1) ?_
      refine jm_iload d_X4_holds_30 rfl ?_
      obtain ⟨f7, h⟩ := h
      refine jm_iaload d_X4_holds_32 (xc_4_2 f1 f7.1 f7.2) ?_
      refine jm_if_ne (tgt := 43) d_X4_holds_33 (by decide) (fun c8 => ?_) (fun c8 => ?_)
      · have h := h.1 c8
        refine jm_aloadn d_X4_holds_43 rfl ?_
        refine jm_getF (k := 2) (ki := 2) rfl cf_X4 (Nat.le_of_ble_eq_true rfl) f_X4_11 d_X4_holds_44 rfl rfl f1 (fc_4_2 f1) ?_
        refine jm_iload d_X4_holds_47 rfl ?_
        refine jm_iaload d_X4_holds_49 (xc_4_2 f1 f7.1 f7.2) ?_
        refine jm_iconst (v := 1) d_X4_holds_50 rfl (jm_okI (by decide) (by decide)) ?_
        refine jm_icmp_ne (tgt := 67) d_X4_holds_51 (by decide) (fun c9 => ?_) (fun c9 => ?_)
        · have h := h.1 c9
          refine jm_aloadn d_X4_holds_67 rfl ?_
          refine jm_getF (k := 2) (ki := 2) rfl cf_X4 (Nat.le_of_ble_eq_true rfl) f_X4_11 d_X4_holds_68 rfl rfl f1 (fc_4_2 f1) ?_
          refine jm_iload d_X4_holds_71 rfl ?_
          refine jm_iaload d_X4_holds_73 (xc_4_2 f1 f7.1 f7.2) ?_
          refine jm_iconst (v := 2) d_X4_holds_74 rfl (jm_okI (by decide) (by decide)) ?_
          refine jm_icmp_ne (tgt := 88) d_X4_holds_75 (by decide) (fun c10 => ?_) (fun c10 => ?_)
          · have h := h.1 c10
            refine jm_iloadn d_X4_holds_88 rfl ?_
            refine jm_iconst (v := 1) d_X4_holds_89 rfl (jm_okI (by decide) (by decide)) ?_
            refine jm_ishl d_X4_holds_90 ?_
            refine jm_aloadn d_X4_holds_91 rfl ?_
            refine jm_aloadn d_X4_holds_92 rfl ?_
            refine jm_iloadn d_X4_holds_93 rfl ?_
            refine jm_iload d_X4_holds_94 rfl ?_
            refine jm_invV (n1 := jm_N) (mc := 0) (ms := 0) (av := [jm_R _, jm_I _, jm_I _]) w_X4_isSo l_X4_34 d_X4_holds_96 rfl f1 ⟨_, _, rfl⟩ ⟨Nat.le_refl _, Nat.le_refl _⟩ (Nat.le_of_ble_eq_true rfl) rfl ?_
            refine jm_Cl.mono h (fun o m11 h hr _ => ?_)
            obtain ⟨r12, rfl, z13⟩ := jm_rokZ hr
            have h := h _ rfl z13
            refine jm_if_eq (tgt := 106) d_X4_holds_99 (by decide) (fun c14 => ?_) (fun c14 => ?_)
            · have h := h.1 c14
              refine jm_iconst (v := 0) d_X4_holds_106 rfl (jm_okI (by decide) (by decide)) ?_
              refine jm_ior d_X4_holds_107 ?_
              have h := h _ rfl
              refine jm_istoren (L' := [some (jm_R _), some (jm_R _), some (jm_I _), some (jm_I _), some (jm_I _), some (jm_I _)]) d_X4_holds_108 (Nat.le_of_ble_eq_true rfl) rfl ?_
              refine jm_iinc (L' := [some (jm_R _), some (jm_R _), some (jm_I _), some (jm_I _), some (jm_I _), some (jm_I _)]) d_X4_holds_109 rfl rfl (Nat.le_of_ble_eq_true rfl) rfl ?_
              refine jm_goto (tgt := 5) d_X4_holds_112 (by decide) ?_
              exact jm_weak2 h (And.intro rfl (And.intro rfl (And.intro rfl (And.intro rfl (And.intro rfl trivial)))))
            · have h := h.2 c14
              refine jm_iconst (v := 1) d_X4_holds_102 rfl (jm_okI (by decide) (by decide)) ?_
              refine jm_goto (tgt := 107) d_X4_holds_103 (by decide) ?_
              refine jm_ior d_X4_holds_107 ?_
              have h := h _ rfl
              refine jm_istoren (L' := [some (jm_R _), some (jm_R _), some (jm_I _), some (jm_I _), some (jm_I _), some (jm_I _)]) d_X4_holds_108 (Nat.le_of_ble_eq_true rfl) rfl ?_
              refine jm_iinc (L' := [some (jm_R _), some (jm_R _), some (jm_I _), some (jm_I _), some (jm_I _), some (jm_I _)]) d_X4_holds_109 rfl rfl (Nat.le_of_ble_eq_true rfl) rfl ?_
              refine jm_goto (tgt := 5) d_X4_holds_112 (by decide) ?_
              exact jm_weak2 h (And.intro rfl (And.intro rfl (And.intro rfl (And.intro rfl (And.intro rfl trivial)))))
          · have h := h.2 c10
            refine jm_iloadn d_X4_holds_78 rfl ?_
            refine jm_iconst (v := 1) d_X4_holds_79 rfl (jm_okI (by decide) (by decide)) ?_
            refine jm_iushr d_X4_holds_80 ?_
            refine jm_iload d_X4_holds_81 rfl ?_
            refine jm_ior d_X4_holds_83 ?_
            have h := h _ rfl
            refine jm_istoren (L' := [some (jm_R _), some (jm_R _), some (jm_I _), some (jm_I _), some (jm_I _), some (jm_I _)]) d_X4_holds_84 (Nat.le_of_ble_eq_true rfl) rfl ?_
            refine jm_goto (tgt := 109) d_X4_holds_85 (by decide) ?_
            refine jm_iinc (L' := [some (jm_R _), some (jm_R _), some (jm_I _), some (jm_I _), some (jm_I _), some (jm_I _)]) d_X4_holds_109 rfl rfl (Nat.le_of_ble_eq_true rfl) rfl ?_
            refine jm_goto (tgt := 5) d_X4_holds_112 (by decide) ?_
            exact jm_weak2 h (And.intro rfl (And.intro rfl (And.intro rfl (And.intro rfl (And.intro rfl trivial)))))
        · have h := h.2 c9
          refine jm_iloadn d_X4_holds_54 rfl ?_
          refine jm_iconst (v := 1) d_X4_holds_55 rfl (jm_okI (by decide) (by decide)) ?_
          refine jm_iushr d_X4_holds_56 ?_
          refine jm_bipush (v := (-2)) d_X4_holds_57 rfl (jm_okI (by decide) (by decide)) ?_
          refine jm_iload d_X4_holds_59 rfl ?_
          refine jm_ior d_X4_holds_61 ?_
          refine jm_iand d_X4_holds_62 ?_
          have h := h _ rfl
          refine jm_istoren (L' := [some (jm_R _), some (jm_R _), some (jm_I _), some (jm_I _), some (jm_I _), some (jm_I _)]) d_X4_holds_63 (Nat.le_of_ble_eq_true rfl) rfl ?_
          refine jm_goto (tgt := 109) d_X4_holds_64 (by decide) ?_
          refine jm_iinc (L' := [some (jm_R _), some (jm_R _), some (jm_I _), some (jm_I _), some (jm_I _), some (jm_I _)]) d_X4_holds_109 rfl rfl (Nat.le_of_ble_eq_true rfl) rfl ?_
          refine jm_goto (tgt := 5) d_X4_holds_112 (by decide) ?_
          exact jm_weak2 h (And.intro rfl (And.intro rfl (And.intro rfl (And.intro rfl (And.intro rfl trivial)))))
      · have h := h.2 c8
        refine jm_iloadn d_X4_holds_36 rfl ?_
        refine jm_iconst (v := 1) d_X4_holds_37 rfl (jm_okI (by decide) (by decide)) ?_
        refine jm_ixor d_X4_holds_38 ?_
        have h := h _ rfl
        refine jm_istoren (L' := [some (jm_R _), some (jm_R _), some (jm_I _), some (jm_I _), some (jm_I _), some (jm_I _)]) d_X4_holds_39 (Nat.le_of_ble_eq_true rfl) rfl ?_
        refine jm_goto (tgt := 109) d_X4_holds_40 (by decide) ?_
        refine jm_iinc (L' := [some (jm_R _), some (jm_R _), some (jm_I _), some (jm_I _), some (jm_I _), some (jm_I _)]) d_X4_holds_109 rfl rfl (Nat.le_of_ble_eq_true rfl) rfl ?_
        refine jm_goto (tgt := 5) d_X4_holds_112 (by decide) ?_
        exact jm_weak2 h (And.intro rfl (And.intro rfl (And.intro rfl (And.intro rfl (And.intro rfl trivial)))))
/-! ('CombTable$Sentence', 'isSo', '(LCombTable$Talk;II)Z') -/
theorem d_X4_isSo_0 : decode m_X4_isSo.2.1 0 = .ok (.iload_n 3, 1) := by decide +kernel
theorem d_X4_isSo_1 : decode m_X4_isSo.2.1 1 = .ok (.ifCond .lt 9, 3) := by decide +kernel
theorem d_X4_isSo_4 : decode m_X4_isSo.2.1 4 = .ok (.iload_n 3, 1) := by decide +kernel
theorem d_X4_isSo_5 : decode m_X4_isSo.2.1 5 = .ok (.bipush 64, 2) := by decide +kernel
theorem d_X4_isSo_7 : decode m_X4_isSo.2.1 7 = .ok (.if_icmp .lt 5, 3) := by decide +kernel
theorem d_X4_isSo_10 : decode m_X4_isSo.2.1 10 = .ok (.iconst 0, 1) := by decide +kernel
theorem d_X4_isSo_11 : decode m_X4_isSo.2.1 11 = .ok (.ireturn, 1) := by decide +kernel
theorem d_X4_isSo_12 : decode m_X4_isSo.2.1 12 = .ok (.aload_n 0, 1) := by decide +kernel
theorem d_X4_isSo_13 : decode m_X4_isSo.2.1 13 = .ok (.getfield 11, 3) := by decide +kernel
theorem d_X4_isSo_16 : decode m_X4_isSo.2.1 16 = .ok (.iload_n 3, 1) := by decide +kernel
theorem d_X4_isSo_17 : decode m_X4_isSo.2.1 17 = .ok (.iaload, 1) := by decide +kernel
theorem d_X4_isSo_18 : decode m_X4_isSo.2.1 18 = .ok (.tableswitch 167 3 8 #[38, 59, 85, 106, 123, 145], 38) := by decide +kernel
theorem d_X4_isSo_56 : decode m_X4_isSo.2.1 56 = .ok (.aload_n 1, 1) := by decide +kernel
theorem d_X4_isSo_57 : decode m_X4_isSo.2.1 57 = .ok (.iload_n 2, 1) := by decide +kernel
theorem d_X4_isSo_58 : decode m_X4_isSo.2.1 58 = .ok (.iconst 0, 1) := by decide +kernel
theorem d_X4_isSo_59 : decode m_X4_isSo.2.1 59 = .ok (.invokevirtual 40, 3) := by decide +kernel
theorem d_X4_isSo_62 : decode m_X4_isSo.2.1 62 = .ok (.aload_n 0, 1) := by decide +kernel
theorem d_X4_isSo_63 : decode m_X4_isSo.2.1 63 = .ok (.getfield 18, 3) := by decide +kernel
theorem d_X4_isSo_66 : decode m_X4_isSo.2.1 66 = .ok (.iload_n 3, 1) := by decide +kernel
theorem d_X4_isSo_67 : decode m_X4_isSo.2.1 67 = .ok (.iaload, 1) := by decide +kernel
theorem d_X4_isSo_68 : decode m_X4_isSo.2.1 68 = .ok (.if_icmp .ne 7, 3) := by decide +kernel
theorem d_X4_isSo_71 : decode m_X4_isSo.2.1 71 = .ok (.iconst 1, 1) := by decide +kernel
theorem d_X4_isSo_72 : decode m_X4_isSo.2.1 72 = .ok (.goto 4, 3) := by decide +kernel
theorem d_X4_isSo_75 : decode m_X4_isSo.2.1 75 = .ok (.iconst 0, 1) := by decide +kernel
theorem d_X4_isSo_76 : decode m_X4_isSo.2.1 76 = .ok (.ireturn, 1) := by decide +kernel
theorem d_X4_isSo_77 : decode m_X4_isSo.2.1 77 = .ok (.aload_n 1, 1) := by decide +kernel
theorem d_X4_isSo_78 : decode m_X4_isSo.2.1 78 = .ok (.aload_n 1, 1) := by decide +kernel
theorem d_X4_isSo_79 : decode m_X4_isSo.2.1 79 = .ok (.iload_n 2, 1) := by decide +kernel
theorem d_X4_isSo_80 : decode m_X4_isSo.2.1 80 = .ok (.iconst 2, 1) := by decide +kernel
theorem d_X4_isSo_81 : decode m_X4_isSo.2.1 81 = .ok (.invokevirtual 40, 3) := by decide +kernel
theorem d_X4_isSo_84 : decode m_X4_isSo.2.1 84 = .ok (.iconst 0, 1) := by decide +kernel
theorem d_X4_isSo_85 : decode m_X4_isSo.2.1 85 = .ok (.invokevirtual 40, 3) := by decide +kernel
theorem d_X4_isSo_88 : decode m_X4_isSo.2.1 88 = .ok (.aload_n 0, 1) := by decide +kernel
theorem d_X4_isSo_89 : decode m_X4_isSo.2.1 89 = .ok (.getfield 18, 3) := by decide +kernel
theorem d_X4_isSo_92 : decode m_X4_isSo.2.1 92 = .ok (.iload_n 3, 1) := by decide +kernel
theorem d_X4_isSo_93 : decode m_X4_isSo.2.1 93 = .ok (.iaload, 1) := by decide +kernel
theorem d_X4_isSo_94 : decode m_X4_isSo.2.1 94 = .ok (.if_icmp .ne 7, 3) := by decide +kernel
theorem d_X4_isSo_97 : decode m_X4_isSo.2.1 97 = .ok (.iconst 1, 1) := by decide +kernel
theorem d_X4_isSo_98 : decode m_X4_isSo.2.1 98 = .ok (.goto 4, 3) := by decide +kernel
theorem d_X4_isSo_101 : decode m_X4_isSo.2.1 101 = .ok (.iconst 0, 1) := by decide +kernel
theorem d_X4_isSo_102 : decode m_X4_isSo.2.1 102 = .ok (.ireturn, 1) := by decide +kernel
theorem d_X4_isSo_103 : decode m_X4_isSo.2.1 103 = .ok (.aload_n 1, 1) := by decide +kernel
theorem d_X4_isSo_104 : decode m_X4_isSo.2.1 104 = .ok (.iload_n 2, 1) := by decide +kernel
theorem d_X4_isSo_105 : decode m_X4_isSo.2.1 105 = .ok (.iconst 1, 1) := by decide +kernel
theorem d_X4_isSo_106 : decode m_X4_isSo.2.1 106 = .ok (.invokevirtual 40, 3) := by decide +kernel
theorem d_X4_isSo_109 : decode m_X4_isSo.2.1 109 = .ok (.aload_n 0, 1) := by decide +kernel
theorem d_X4_isSo_110 : decode m_X4_isSo.2.1 110 = .ok (.getfield 18, 3) := by decide +kernel
theorem d_X4_isSo_113 : decode m_X4_isSo.2.1 113 = .ok (.iload_n 3, 1) := by decide +kernel
theorem d_X4_isSo_114 : decode m_X4_isSo.2.1 114 = .ok (.iaload, 1) := by decide +kernel
theorem d_X4_isSo_115 : decode m_X4_isSo.2.1 115 = .ok (.if_icmp .ne 7, 3) := by decide +kernel
theorem d_X4_isSo_118 : decode m_X4_isSo.2.1 118 = .ok (.iconst 1, 1) := by decide +kernel
theorem d_X4_isSo_119 : decode m_X4_isSo.2.1 119 = .ok (.goto 4, 3) := by decide +kernel
theorem d_X4_isSo_122 : decode m_X4_isSo.2.1 122 = .ok (.iconst 0, 1) := by decide +kernel
theorem d_X4_isSo_123 : decode m_X4_isSo.2.1 123 = .ok (.ireturn, 1) := by decide +kernel
theorem d_X4_isSo_124 : decode m_X4_isSo.2.1 124 = .ok (.iload_n 2, 1) := by decide +kernel
theorem d_X4_isSo_125 : decode m_X4_isSo.2.1 125 = .ok (.aload_n 0, 1) := by decide +kernel
theorem d_X4_isSo_126 : decode m_X4_isSo.2.1 126 = .ok (.getfield 15, 3) := by decide +kernel
theorem d_X4_isSo_129 : decode m_X4_isSo.2.1 129 = .ok (.iload_n 3, 1) := by decide +kernel
theorem d_X4_isSo_130 : decode m_X4_isSo.2.1 130 = .ok (.iaload, 1) := by decide +kernel
theorem d_X4_isSo_131 : decode m_X4_isSo.2.1 131 = .ok (.aload_n 0, 1) := by decide +kernel
theorem d_X4_isSo_132 : decode m_X4_isSo.2.1 132 = .ok (.getfield 18, 3) := by decide +kernel
theorem d_X4_isSo_135 : decode m_X4_isSo.2.1 135 = .ok (.iload_n 3, 1) := by decide +kernel
theorem d_X4_isSo_136 : decode m_X4_isSo.2.1 136 = .ok (.iaload, 1) := by decide +kernel
theorem d_X4_isSo_137 : decode m_X4_isSo.2.1 137 = .ok (.invokestatic 44, 3) := by decide +kernel
theorem d_X4_isSo_140 : decode m_X4_isSo.2.1 140 = .ok (.ireturn, 1) := by decide +kernel
theorem d_X4_isSo_141 : decode m_X4_isSo.2.1 141 = .ok (.aload_n 1, 1) := by decide +kernel
theorem d_X4_isSo_142 : decode m_X4_isSo.2.1 142 = .ok (.iload_n 2, 1) := by decide +kernel
theorem d_X4_isSo_143 : decode m_X4_isSo.2.1 143 = .ok (.iconst 3, 1) := by decide +kernel
theorem d_X4_isSo_144 : decode m_X4_isSo.2.1 144 = .ok (.invokevirtual 40, 3) := by decide +kernel
theorem d_X4_isSo_147 : decode m_X4_isSo.2.1 147 = .ok (.aload_n 0, 1) := by decide +kernel
theorem d_X4_isSo_148 : decode m_X4_isSo.2.1 148 = .ok (.getfield 15, 3) := by decide +kernel
theorem d_X4_isSo_151 : decode m_X4_isSo.2.1 151 = .ok (.iload_n 3, 1) := by decide +kernel
theorem d_X4_isSo_152 : decode m_X4_isSo.2.1 152 = .ok (.iaload, 1) := by decide +kernel
theorem d_X4_isSo_153 : decode m_X4_isSo.2.1 153 = .ok (.aload_n 0, 1) := by decide +kernel
theorem d_X4_isSo_154 : decode m_X4_isSo.2.1 154 = .ok (.getfield 18, 3) := by decide +kernel
theorem d_X4_isSo_157 : decode m_X4_isSo.2.1 157 = .ok (.iload_n 3, 1) := by decide +kernel
theorem d_X4_isSo_158 : decode m_X4_isSo.2.1 158 = .ok (.iaload, 1) := by decide +kernel
theorem d_X4_isSo_159 : decode m_X4_isSo.2.1 159 = .ok (.invokestatic 44, 3) := by decide +kernel
theorem d_X4_isSo_162 : decode m_X4_isSo.2.1 162 = .ok (.ireturn, 1) := by decide +kernel
theorem d_X4_isSo_163 : decode m_X4_isSo.2.1 163 = .ok (.aload_n 1, 1) := by decide +kernel
theorem d_X4_isSo_164 : decode m_X4_isSo.2.1 164 = .ok (.iload_n 2, 1) := by decide +kernel
theorem d_X4_isSo_165 : decode m_X4_isSo.2.1 165 = .ok (.iconst 4, 1) := by decide +kernel
theorem d_X4_isSo_166 : decode m_X4_isSo.2.1 166 = .ok (.invokevirtual 40, 3) := by decide +kernel
theorem d_X4_isSo_169 : decode m_X4_isSo.2.1 169 = .ok (.aload_n 0, 1) := by decide +kernel
theorem d_X4_isSo_170 : decode m_X4_isSo.2.1 170 = .ok (.getfield 15, 3) := by decide +kernel
theorem d_X4_isSo_173 : decode m_X4_isSo.2.1 173 = .ok (.iload_n 3, 1) := by decide +kernel
theorem d_X4_isSo_174 : decode m_X4_isSo.2.1 174 = .ok (.iaload, 1) := by decide +kernel
theorem d_X4_isSo_175 : decode m_X4_isSo.2.1 175 = .ok (.aload_n 0, 1) := by decide +kernel
theorem d_X4_isSo_176 : decode m_X4_isSo.2.1 176 = .ok (.getfield 18, 3) := by decide +kernel
theorem d_X4_isSo_179 : decode m_X4_isSo.2.1 179 = .ok (.iload_n 3, 1) := by decide +kernel
theorem d_X4_isSo_180 : decode m_X4_isSo.2.1 180 = .ok (.iaload, 1) := by decide +kernel
theorem d_X4_isSo_181 : decode m_X4_isSo.2.1 181 = .ok (.invokestatic 44, 3) := by decide +kernel
theorem d_X4_isSo_184 : decode m_X4_isSo.2.1 184 = .ok (.ireturn, 1) := by decide +kernel
theorem d_X4_isSo_185 : decode m_X4_isSo.2.1 185 = .ok (.aload_n 1, 1) := by decide +kernel
theorem d_X4_isSo_186 : decode m_X4_isSo.2.1 186 = .ok (.iload_n 2, 1) := by decide +kernel
theorem d_X4_isSo_187 : decode m_X4_isSo.2.1 187 = .ok (.invokevirtual 48, 3) := by decide +kernel
theorem d_X4_isSo_190 : decode m_X4_isSo.2.1 190 = .ok (.aload_n 0, 1) := by decide +kernel
theorem d_X4_isSo_191 : decode m_X4_isSo.2.1 191 = .ok (.getfield 15, 3) := by decide +kernel
theorem d_X4_isSo_194 : decode m_X4_isSo.2.1 194 = .ok (.iload_n 3, 1) := by decide +kernel
theorem d_X4_isSo_195 : decode m_X4_isSo.2.1 195 = .ok (.iaload, 1) := by decide +kernel
theorem d_X4_isSo_196 : decode m_X4_isSo.2.1 196 = .ok (.aload_n 0, 1) := by decide +kernel
theorem d_X4_isSo_197 : decode m_X4_isSo.2.1 197 = .ok (.getfield 18, 3) := by decide +kernel
theorem d_X4_isSo_200 : decode m_X4_isSo.2.1 200 = .ok (.iload_n 3, 1) := by decide +kernel
theorem d_X4_isSo_201 : decode m_X4_isSo.2.1 201 = .ok (.iaload, 1) := by decide +kernel
theorem d_X4_isSo_202 : decode m_X4_isSo.2.1 202 = .ok (.invokestatic 44, 3) := by decide +kernel
theorem d_X4_isSo_205 : decode m_X4_isSo.2.1 205 = .ok (.ireturn, 1) := by decide +kernel
set_option maxRecDepth 20000 in
theorem e_X4_isSo {E : jm_E} {d : Nat} {μ : jm_M} {Q : Option jm_V → jm_M → Prop} {v0 v1 v2 v3 : Int} (h : (∀ v ∈ ([jm_R v0, jm_R v1, jm_I v2, jm_I v3] : List jm_V), jm_ok v) →
  ((v3 < 0 →
    Q (some (jm_I 0)) μ) ∧
   (¬ (v3 < 0) →
    ((v3 < 64 →
      (jm_is jm_N v0 1 4) ∧
      (0 ≤ v3 ∧ v3 < 64) ∧
      ∀ x5 : Int, x5 = μ ((v0 + 1)) v3 →
      ((x5 = 3 →
        (jm_is jm_N v1 1 6) ∧
        jc E m_X6_tell d [jm_R v1, jm_I v2, jm_I 0] μ (fun (o : Option jm_V) (m7 : jm_M) => ∀ r9 : Int, o = some (jm_I r9) →
        ((r9 ≠ (m7 ((v0 + 3)) v3) →
          Q (some (jm_I 0)) m7) ∧
         (¬ (r9 ≠ (m7 ((v0 + 3)) v3)) →
          Q (some (jm_I 1)) m7)))) ∧
       (¬ (x5 = 3) →
        ((x5 = 4 →
          (jm_is jm_N v1 1 6) ∧
          jc E m_X6_tell d [jm_R v1, jm_I v2, jm_I 2] μ (fun (o : Option jm_V) (m12 : jm_M) => ∀ r14 : Int, o = some (jm_I r14) →
          jc E m_X6_tell d [jm_R v1, jm_I r14, jm_I 0] m12 (fun (o : Option jm_V) (m15 : jm_M) => ∀ r16 : Int, o = some (jm_I r16) →
          ((r16 ≠ (m15 ((v0 + 3)) v3) →
            Q (some (jm_I 0)) m15) ∧
           (¬ (r16 ≠ (m15 ((v0 + 3)) v3)) →
            Q (some (jm_I 1)) m15))))) ∧
         (¬ (x5 = 4) →
          ((x5 = 5 →
            (jm_is jm_N v1 1 6) ∧
            jc E m_X6_tell d [jm_R v1, jm_I v2, jm_I 1] μ (fun (o : Option jm_V) (m19 : jm_M) => ∀ r21 : Int, o = some (jm_I r21) →
            ((r21 ≠ (m19 ((v0 + 3)) v3) →
              Q (some (jm_I 0)) m19) ∧
             (¬ (r21 ≠ (m19 ((v0 + 3)) v3)) →
              Q (some (jm_I 1)) m19)))) ∧
           (¬ (x5 = 5) →
            ((x5 = 6 →
              jc E m_X4_compares d [jm_I v2, jm_I (μ ((v0 + 2)) v3), jm_I (μ ((v0 + 3)) v3)] μ (fun (o : Option jm_V) (m24 : jm_M) => ∀ r25 : Int, o = some (jm_I r25) → (r25 = 0 ∨ r25 = 1) →
              Q (some (jm_I r25)) m24)) ∧
             (¬ (x5 = 6) →
              ((x5 = 7 →
                (jm_is jm_N v1 1 6) ∧
                jc E m_X6_tell d [jm_R v1, jm_I v2, jm_I 3] μ (fun (o : Option jm_V) (m28 : jm_M) => ∀ r30 : Int, o = some (jm_I r30) →
                jc E m_X4_compares d [jm_I r30, jm_I (m28 ((v0 + 2)) v3), jm_I (m28 ((v0 + 3)) v3)] m28 (fun (o : Option jm_V) (m31 : jm_M) => ∀ r32 : Int, o = some (jm_I r32) → (r32 = 0 ∨ r32 = 1) →
                Q (some (jm_I r32)) m31))) ∧
               (¬ (x5 = 7) →
                ((x5 = 8 →
                  (jm_is jm_N v1 1 6) ∧
                  jc E m_X6_tell d [jm_R v1, jm_I v2, jm_I 4] μ (fun (o : Option jm_V) (m35 : jm_M) => ∀ r37 : Int, o = some (jm_I r37) →
                  jc E m_X4_compares d [jm_I r37, jm_I (m35 ((v0 + 2)) v3), jm_I (m35 ((v0 + 3)) v3)] m35 (fun (o : Option jm_V) (m38 : jm_M) => ∀ r39 : Int, o = some (jm_I r39) → (r39 = 0 ∨ r39 = 1) →
                  Q (some (jm_I r39)) m38))) ∧
                 (¬ (x5 = 8) →
                  (jm_is jm_N v1 1 6) ∧
                  jc E m_X6_stateOf d [jm_R v1, jm_I v2] μ (fun (o : Option jm_V) (m41 : jm_M) => ∀ r43 : Int, o = some (jm_I r43) →
                  jc E m_X4_compares d [jm_I r43, jm_I (m41 ((v0 + 2)) v3), jm_I (m41 ((v0 + 3)) v3)] m41 (fun (o : Option jm_V) (m44 : jm_M) => ∀ r45 : Int, o = some (jm_I r45) → (r45 = 0 ∨ r45 = 1) →
                  Q (some (jm_I r45)) m44))))))))))))))) ∧
     (¬ (v3 < 64) →
      Q (some (jm_I 0)) μ))))) : jc E m_X4_isSo (d + 1) [jm_R v0, jm_R v1, jm_I v2, jm_I v3] μ Q := by
  refine jm_Cl.of2 (by decide +kernel) (L0 := [some (jm_R v0), some (jm_R v1), some (jm_I v2), some (jm_I v3)]) rfl (Nat.le_of_ble_eq_true rfl) (fun hok => ?_)
  have h := h hok
  refine jm_iloadn d_X4_isSo_0 rfl ?_
  refine jm_if_lt (tgt := 10) d_X4_isSo_1 (by decide) (fun c1 => ?_) (fun c1 => ?_)
  · have h := h.1 c1
    refine jm_iconst (v := 0) d_X4_isSo_10 rfl (jm_okI (by decide) (by decide)) ?_
    exact jm_ret (o := some (jm_I _)) d_X4_isSo_11 rfl ⟨Nat.le_refl _, Nat.le_refl _⟩ (jm_r_Z (by decide)) h rfl
  · have h := h.2 c1
    refine jm_iloadn d_X4_isSo_4 rfl ?_
    refine jm_bipush (v := 64) d_X4_isSo_5 rfl (jm_okI (by decide) (by decide)) ?_
    refine jm_icmp_lt (tgt := 12) d_X4_isSo_7 (by decide) (fun c2 => ?_) (fun c2 => ?_)
    · have h := h.1 c2
      refine jm_aloadn d_X4_isSo_12 rfl ?_
      obtain ⟨f3, h⟩ := h
      refine jm_getF (k := 2) (ki := 2) rfl cf_X4 (Nat.le_of_ble_eq_true rfl) f_X4_11 d_X4_isSo_13 rfl rfl f3 (fc_4_2 f3) ?_
      refine jm_iloadn d_X4_isSo_16 rfl ?_
      obtain ⟨f4, h⟩ := h
      refine jm_iaload d_X4_isSo_17 (xc_4_2 f3 f4.1 f4.2) ?_
      refine jm_nmI (fun x5 hx5 => ?_)
      have h := h _ hx5
      by_cases c6 : x5 = 3
      · have h := h.1 c6
        refine jm_table (tgt := 56) (off := 38) d_X4_isSo_18 (by rw [c6]; decide) (by rw [c6]; decide) (by rw [c6]; rfl) (by decide) ?_
        refine jm_aloadn d_X4_isSo_56 rfl ?_
        refine jm_iloadn d_X4_isSo_57 rfl ?_
        refine jm_iconst (v := 0) d_X4_isSo_58 rfl (jm_okI (by decide) (by decide)) ?_
        obtain ⟨f8, h⟩ := h
        refine jm_invV (n1 := jm_N) (mc := 0) (ms := 0) (av := [jm_I _, jm_I _]) w_X6_tell l_X4_40 d_X4_isSo_59 rfl f8 ⟨_, _, rfl⟩ ⟨Nat.le_refl _, Nat.le_refl _⟩ (Nat.le_of_ble_eq_true rfl) rfl ?_
        refine jm_Cl.mono h (fun o m7 h hr _ => ?_)
        obtain ⟨r9, rfl⟩ := jm_rokI hr
        have h := h _ rfl
        refine jm_aloadn d_X4_isSo_62 rfl ?_
        refine jm_getF (k := 4) (ki := 4) rfl cf_X4 (Nat.le_of_ble_eq_true rfl) f_X4_18 d_X4_isSo_63 rfl rfl f3 (fc_4_4 f3) ?_
        refine jm_iloadn d_X4_isSo_66 rfl ?_
        refine jm_iaload d_X4_isSo_67 (xc_4_4 f3 f4.1 f4.2) ?_
        refine jm_icmp_ne (tgt := 75) d_X4_isSo_68 (by decide) (fun c10 => ?_) (fun c10 => ?_)
        · have h := h.1 c10
          refine jm_iconst (v := 0) d_X4_isSo_75 rfl (jm_okI (by decide) (by decide)) ?_
          exact jm_ret (o := some (jm_I _)) d_X4_isSo_76 rfl ⟨Nat.le_refl _, Nat.le_refl _⟩ (jm_r_Z (by decide)) h rfl
        · have h := h.2 c10
          refine jm_iconst (v := 1) d_X4_isSo_71 rfl (jm_okI (by decide) (by decide)) ?_
          refine jm_goto (tgt := 76) d_X4_isSo_72 (by decide) ?_
          exact jm_ret (o := some (jm_I _)) d_X4_isSo_76 rfl ⟨Nat.le_refl _, Nat.le_refl _⟩ (jm_r_Z (by decide)) h rfl
      · have h := h.2 c6
        by_cases c11 : x5 = 4
        · have h := h.1 c11
          refine jm_table (tgt := 77) (off := 59) d_X4_isSo_18 (by rw [c11]; decide) (by rw [c11]; decide) (by rw [c11]; rfl) (by decide) ?_
          refine jm_aloadn d_X4_isSo_77 rfl ?_
          refine jm_aloadn d_X4_isSo_78 rfl ?_
          refine jm_iloadn d_X4_isSo_79 rfl ?_
          refine jm_iconst (v := 2) d_X4_isSo_80 rfl (jm_okI (by decide) (by decide)) ?_
          obtain ⟨f13, h⟩ := h
          refine jm_invV (n1 := jm_N) (mc := 0) (ms := 0) (av := [jm_I _, jm_I _]) w_X6_tell l_X4_40 d_X4_isSo_81 rfl f13 ⟨_, _, rfl⟩ ⟨Nat.le_refl _, Nat.le_refl _⟩ (Nat.le_of_ble_eq_true rfl) rfl ?_
          refine jm_Cl.mono h (fun o m12 h hr _ => ?_)
          obtain ⟨r14, rfl⟩ := jm_rokI hr
          have h := h _ rfl
          refine jm_iconst (v := 0) d_X4_isSo_84 rfl (jm_okI (by decide) (by decide)) ?_
          refine jm_invV (n1 := jm_N) (mc := 0) (ms := 0) (av := [jm_I _, jm_I _]) w_X6_tell l_X4_40 d_X4_isSo_85 rfl f13 ⟨_, _, rfl⟩ ⟨Nat.le_refl _, Nat.le_refl _⟩ (Nat.le_of_ble_eq_true rfl) rfl ?_
          refine jm_Cl.mono h (fun o m15 h hr _ => ?_)
          obtain ⟨r16, rfl⟩ := jm_rokI hr
          have h := h _ rfl
          refine jm_aloadn d_X4_isSo_88 rfl ?_
          refine jm_getF (k := 4) (ki := 4) rfl cf_X4 (Nat.le_of_ble_eq_true rfl) f_X4_18 d_X4_isSo_89 rfl rfl f3 (fc_4_4 f3) ?_
          refine jm_iloadn d_X4_isSo_92 rfl ?_
          refine jm_iaload d_X4_isSo_93 (xc_4_4 f3 f4.1 f4.2) ?_
          refine jm_icmp_ne (tgt := 101) d_X4_isSo_94 (by decide) (fun c17 => ?_) (fun c17 => ?_)
          · have h := h.1 c17
            refine jm_iconst (v := 0) d_X4_isSo_101 rfl (jm_okI (by decide) (by decide)) ?_
            exact jm_ret (o := some (jm_I _)) d_X4_isSo_102 rfl ⟨Nat.le_refl _, Nat.le_refl _⟩ (jm_r_Z (by decide)) h rfl
          · have h := h.2 c17
            refine jm_iconst (v := 1) d_X4_isSo_97 rfl (jm_okI (by decide) (by decide)) ?_
            refine jm_goto (tgt := 102) d_X4_isSo_98 (by decide) ?_
            exact jm_ret (o := some (jm_I _)) d_X4_isSo_102 rfl ⟨Nat.le_refl _, Nat.le_refl _⟩ (jm_r_Z (by decide)) h rfl
        · have h := h.2 c11
          by_cases c18 : x5 = 5
          · have h := h.1 c18
            refine jm_table (tgt := 103) (off := 85) d_X4_isSo_18 (by rw [c18]; decide) (by rw [c18]; decide) (by rw [c18]; rfl) (by decide) ?_
            refine jm_aloadn d_X4_isSo_103 rfl ?_
            refine jm_iloadn d_X4_isSo_104 rfl ?_
            refine jm_iconst (v := 1) d_X4_isSo_105 rfl (jm_okI (by decide) (by decide)) ?_
            obtain ⟨f20, h⟩ := h
            refine jm_invV (n1 := jm_N) (mc := 0) (ms := 0) (av := [jm_I _, jm_I _]) w_X6_tell l_X4_40 d_X4_isSo_106 rfl f20 ⟨_, _, rfl⟩ ⟨Nat.le_refl _, Nat.le_refl _⟩ (Nat.le_of_ble_eq_true rfl) rfl ?_
            refine jm_Cl.mono h (fun o m19 h hr _ => ?_)
            obtain ⟨r21, rfl⟩ := jm_rokI hr
            have h := h _ rfl
            refine jm_aloadn d_X4_isSo_109 rfl ?_
            refine jm_getF (k := 4) (ki := 4) rfl cf_X4 (Nat.le_of_ble_eq_true rfl) f_X4_18 d_X4_isSo_110 rfl rfl f3 (fc_4_4 f3) ?_
            refine jm_iloadn d_X4_isSo_113 rfl ?_
            refine jm_iaload d_X4_isSo_114 (xc_4_4 f3 f4.1 f4.2) ?_
            refine jm_icmp_ne (tgt := 122) d_X4_isSo_115 (by decide) (fun c22 => ?_) (fun c22 => ?_)
            · have h := h.1 c22
              refine jm_iconst (v := 0) d_X4_isSo_122 rfl (jm_okI (by decide) (by decide)) ?_
              exact jm_ret (o := some (jm_I _)) d_X4_isSo_123 rfl ⟨Nat.le_refl _, Nat.le_refl _⟩ (jm_r_Z (by decide)) h rfl
            · have h := h.2 c22
              refine jm_iconst (v := 1) d_X4_isSo_118 rfl (jm_okI (by decide) (by decide)) ?_
              refine jm_goto (tgt := 123) d_X4_isSo_119 (by decide) ?_
              exact jm_ret (o := some (jm_I _)) d_X4_isSo_123 rfl ⟨Nat.le_refl _, Nat.le_refl _⟩ (jm_r_Z (by decide)) h rfl
          · have h := h.2 c18
            by_cases c23 : x5 = 6
            · have h := h.1 c23
              refine jm_table (tgt := 124) (off := 106) d_X4_isSo_18 (by rw [c23]; decide) (by rw [c23]; decide) (by rw [c23]; rfl) (by decide) ?_
              refine jm_iloadn d_X4_isSo_124 rfl ?_
              refine jm_aloadn d_X4_isSo_125 rfl ?_
              refine jm_getF (k := 3) (ki := 3) rfl cf_X4 (Nat.le_of_ble_eq_true rfl) f_X4_15 d_X4_isSo_126 rfl rfl f3 (fc_4_3 f3) ?_
              refine jm_iloadn d_X4_isSo_129 rfl ?_
              refine jm_iaload d_X4_isSo_130 (xc_4_3 f3 f4.1 f4.2) ?_
              refine jm_aloadn d_X4_isSo_131 rfl ?_
              refine jm_getF (k := 4) (ki := 4) rfl cf_X4 (Nat.le_of_ble_eq_true rfl) f_X4_18 d_X4_isSo_132 rfl rfl f3 (fc_4_4 f3) ?_
              refine jm_iloadn d_X4_isSo_135 rfl ?_
              refine jm_iaload d_X4_isSo_136 (xc_4_4 f3 f4.1 f4.2) ?_
              refine jm_invS (n1 := jm_N) (mc := 0) (ms := 0) (av := [jm_I _, jm_I _, jm_I _]) w_X4_compares l_X4_44 d_X4_isSo_137 rfl ⟨Nat.le_refl _, Nat.le_refl _⟩ (Nat.le_of_ble_eq_true rfl) rfl ?_
              refine jm_Cl.mono h (fun o m24 h hr _ => ?_)
              obtain ⟨r25, rfl, z26⟩ := jm_rokZ hr
              have h := h _ rfl z26
              exact jm_ret (o := some (jm_I _)) d_X4_isSo_140 rfl ⟨Nat.le_refl _, Nat.le_refl _⟩ (jm_r_Z z26) h rfl
            · have h := h.2 c23
              by_cases c27 : x5 = 7
              · have h := h.1 c27
                refine jm_table (tgt := 141) (off := 123) d_X4_isSo_18 (by rw [c27]; decide) (by rw [c27]; decide) (by rw [c27]; rfl) (by decide) ?_
                refine jm_aloadn d_X4_isSo_141 rfl ?_
                refine jm_iloadn d_X4_isSo_142 rfl ?_
                refine jm_iconst (v := 3) d_X4_isSo_143 rfl (jm_okI (by decide) (by decide)) ?_
                obtain ⟨f29, h⟩ := h
                refine jm_invV (n1 := jm_N) (mc := 0) (ms := 0) (av := [jm_I _, jm_I _]) w_X6_tell l_X4_40 d_X4_isSo_144 rfl f29 ⟨_, _, rfl⟩ ⟨Nat.le_refl _, Nat.le_refl _⟩ (Nat.le_of_ble_eq_true rfl) rfl ?_
                refine jm_Cl.mono h (fun o m28 h hr _ => ?_)
                obtain ⟨r30, rfl⟩ := jm_rokI hr
                have h := h _ rfl
                refine jm_aloadn d_X4_isSo_147 rfl ?_
                refine jm_getF (k := 3) (ki := 3) rfl cf_X4 (Nat.le_of_ble_eq_true rfl) f_X4_15 d_X4_isSo_148 rfl rfl f3 (fc_4_3 f3) ?_
                refine jm_iloadn d_X4_isSo_151 rfl ?_
                refine jm_iaload d_X4_isSo_152 (xc_4_3 f3 f4.1 f4.2) ?_
                refine jm_aloadn d_X4_isSo_153 rfl ?_
                refine jm_getF (k := 4) (ki := 4) rfl cf_X4 (Nat.le_of_ble_eq_true rfl) f_X4_18 d_X4_isSo_154 rfl rfl f3 (fc_4_4 f3) ?_
                refine jm_iloadn d_X4_isSo_157 rfl ?_
                refine jm_iaload d_X4_isSo_158 (xc_4_4 f3 f4.1 f4.2) ?_
                refine jm_invS (n1 := jm_N) (mc := 0) (ms := 0) (av := [jm_I _, jm_I _, jm_I _]) w_X4_compares l_X4_44 d_X4_isSo_159 rfl ⟨Nat.le_refl _, Nat.le_refl _⟩ (Nat.le_of_ble_eq_true rfl) rfl ?_
                refine jm_Cl.mono h (fun o m31 h hr _ => ?_)
                obtain ⟨r32, rfl, z33⟩ := jm_rokZ hr
                have h := h _ rfl z33
                exact jm_ret (o := some (jm_I _)) d_X4_isSo_162 rfl ⟨Nat.le_refl _, Nat.le_refl _⟩ (jm_r_Z z33) h rfl
              · have h := h.2 c27
                by_cases c34 : x5 = 8
                · have h := h.1 c34
                  refine jm_table (tgt := 163) (off := 145) d_X4_isSo_18 (by rw [c34]; decide) (by rw [c34]; decide) (by rw [c34]; rfl) (by decide) ?_
                  refine jm_aloadn d_X4_isSo_163 rfl ?_
                  refine jm_iloadn d_X4_isSo_164 rfl ?_
                  refine jm_iconst (v := 4) d_X4_isSo_165 rfl (jm_okI (by decide) (by decide)) ?_
                  obtain ⟨f36, h⟩ := h
                  refine jm_invV (n1 := jm_N) (mc := 0) (ms := 0) (av := [jm_I _, jm_I _]) w_X6_tell l_X4_40 d_X4_isSo_166 rfl f36 ⟨_, _, rfl⟩ ⟨Nat.le_refl _, Nat.le_refl _⟩ (Nat.le_of_ble_eq_true rfl) rfl ?_
                  refine jm_Cl.mono h (fun o m35 h hr _ => ?_)
                  obtain ⟨r37, rfl⟩ := jm_rokI hr
                  have h := h _ rfl
                  refine jm_aloadn d_X4_isSo_169 rfl ?_
                  refine jm_getF (k := 3) (ki := 3) rfl cf_X4 (Nat.le_of_ble_eq_true rfl) f_X4_15 d_X4_isSo_170 rfl rfl f3 (fc_4_3 f3) ?_
                  refine jm_iloadn d_X4_isSo_173 rfl ?_
                  refine jm_iaload d_X4_isSo_174 (xc_4_3 f3 f4.1 f4.2) ?_
                  refine jm_aloadn d_X4_isSo_175 rfl ?_
                  refine jm_getF (k := 4) (ki := 4) rfl cf_X4 (Nat.le_of_ble_eq_true rfl) f_X4_18 d_X4_isSo_176 rfl rfl f3 (fc_4_4 f3) ?_
                  refine jm_iloadn d_X4_isSo_179 rfl ?_
                  refine jm_iaload d_X4_isSo_180 (xc_4_4 f3 f4.1 f4.2) ?_
                  refine jm_invS (n1 := jm_N) (mc := 0) (ms := 0) (av := [jm_I _, jm_I _, jm_I _]) w_X4_compares l_X4_44 d_X4_isSo_181 rfl ⟨Nat.le_refl _, Nat.le_refl _⟩ (Nat.le_of_ble_eq_true rfl) rfl ?_
                  refine jm_Cl.mono h (fun o m38 h hr _ => ?_)
                  obtain ⟨r39, rfl, z40⟩ := jm_rokZ hr
                  have h := h _ rfl z40
                  exact jm_ret (o := some (jm_I _)) d_X4_isSo_184 rfl ⟨Nat.le_refl _, Nat.le_refl _⟩ (jm_r_Z z40) h rfl
                · have h := h.2 c34
                  refine jm_tableD (tgt := 185) d_X4_isSo_18 (jm_tb2 (jm_tb1 (jm_tb1 (jm_tb1 (jm_tb1 (jm_tb1 (jm_tb1 (jm_tb0 3) c6) c11) c18) c23) c27) c34) rfl) (by decide) ?_
                  refine jm_aloadn d_X4_isSo_185 rfl ?_
                  refine jm_iloadn d_X4_isSo_186 rfl ?_
                  obtain ⟨f42, h⟩ := h
                  refine jm_invV (n1 := jm_N) (mc := 0) (ms := 0) (av := [jm_I _]) w_X6_stateOf l_X4_48 d_X4_isSo_187 rfl f42 ⟨_, _, rfl⟩ ⟨Nat.le_refl _, Nat.le_refl _⟩ (Nat.le_of_ble_eq_true rfl) rfl ?_
                  refine jm_Cl.mono h (fun o m41 h hr _ => ?_)
                  obtain ⟨r43, rfl⟩ := jm_rokI hr
                  have h := h _ rfl
                  refine jm_aloadn d_X4_isSo_190 rfl ?_
                  refine jm_getF (k := 3) (ki := 3) rfl cf_X4 (Nat.le_of_ble_eq_true rfl) f_X4_15 d_X4_isSo_191 rfl rfl f3 (fc_4_3 f3) ?_
                  refine jm_iloadn d_X4_isSo_194 rfl ?_
                  refine jm_iaload d_X4_isSo_195 (xc_4_3 f3 f4.1 f4.2) ?_
                  refine jm_aloadn d_X4_isSo_196 rfl ?_
                  refine jm_getF (k := 4) (ki := 4) rfl cf_X4 (Nat.le_of_ble_eq_true rfl) f_X4_18 d_X4_isSo_197 rfl rfl f3 (fc_4_4 f3) ?_
                  refine jm_iloadn d_X4_isSo_200 rfl ?_
                  refine jm_iaload d_X4_isSo_201 (xc_4_4 f3 f4.1 f4.2) ?_
                  refine jm_invS (n1 := jm_N) (mc := 0) (ms := 0) (av := [jm_I _, jm_I _, jm_I _]) w_X4_compares l_X4_44 d_X4_isSo_202 rfl ⟨Nat.le_refl _, Nat.le_refl _⟩ (Nat.le_of_ble_eq_true rfl) rfl ?_
                  refine jm_Cl.mono h (fun o m44 h hr _ => ?_)
                  obtain ⟨r45, rfl, z46⟩ := jm_rokZ hr
                  have h := h _ rfl z46
                  exact jm_ret (o := some (jm_I _)) d_X4_isSo_205 rfl ⟨Nat.le_refl _, Nat.le_refl _⟩ (jm_r_Z z46) h rfl
    · have h := h.2 c2
      refine jm_iconst (v := 0) d_X4_isSo_10 rfl (jm_okI (by decide) (by decide)) ?_
      exact jm_ret (o := some (jm_I _)) d_X4_isSo_11 rfl ⟨Nat.le_refl _, Nat.le_refl _⟩ (jm_r_Z (by decide)) h rfl
/-! ('CombTable$Sentence', 'compares', '(III)Z') -/
theorem d_X4_compares_0 : decode m_X4_compares.2.1 0 = .ok (.iload_n 1, 1) := by decide +kernel
theorem d_X4_compares_1 : decode m_X4_compares.2.1 1 = .ok (.bipush 60, 2) := by decide +kernel
theorem d_X4_compares_3 : decode m_X4_compares.2.1 3 = .ok (.if_icmp .ne 14, 3) := by decide +kernel
theorem d_X4_compares_6 : decode m_X4_compares.2.1 6 = .ok (.iload_n 0, 1) := by decide +kernel
theorem d_X4_compares_7 : decode m_X4_compares.2.1 7 = .ok (.iload_n 2, 1) := by decide +kernel
theorem d_X4_compares_8 : decode m_X4_compares.2.1 8 = .ok (.if_icmp .ge 7, 3) := by decide +kernel
theorem d_X4_compares_11 : decode m_X4_compares.2.1 11 = .ok (.iconst 1, 1) := by decide +kernel
theorem d_X4_compares_12 : decode m_X4_compares.2.1 12 = .ok (.goto 4, 3) := by decide +kernel
theorem d_X4_compares_15 : decode m_X4_compares.2.1 15 = .ok (.iconst 0, 1) := by decide +kernel
theorem d_X4_compares_16 : decode m_X4_compares.2.1 16 = .ok (.ireturn, 1) := by decide +kernel
theorem d_X4_compares_17 : decode m_X4_compares.2.1 17 = .ok (.iload_n 1, 1) := by decide +kernel
theorem d_X4_compares_18 : decode m_X4_compares.2.1 18 = .ok (.bipush 61, 2) := by decide +kernel
theorem d_X4_compares_20 : decode m_X4_compares.2.1 20 = .ok (.if_icmp .ne 16, 3) := by decide +kernel
theorem d_X4_compares_23 : decode m_X4_compares.2.1 23 = .ok (.iload_n 0, 1) := by decide +kernel
theorem d_X4_compares_24 : decode m_X4_compares.2.1 24 = .ok (.iload_n 2, 1) := by decide +kernel
theorem d_X4_compares_25 : decode m_X4_compares.2.1 25 = .ok (.if_icmp .ne 7, 3) := by decide +kernel
theorem d_X4_compares_28 : decode m_X4_compares.2.1 28 = .ok (.iconst 1, 1) := by decide +kernel
theorem d_X4_compares_29 : decode m_X4_compares.2.1 29 = .ok (.goto 17, 3) := by decide +kernel
theorem d_X4_compares_32 : decode m_X4_compares.2.1 32 = .ok (.iconst 0, 1) := by decide +kernel
theorem d_X4_compares_33 : decode m_X4_compares.2.1 33 = .ok (.goto 13, 3) := by decide +kernel
theorem d_X4_compares_36 : decode m_X4_compares.2.1 36 = .ok (.iload_n 0, 1) := by decide +kernel
theorem d_X4_compares_37 : decode m_X4_compares.2.1 37 = .ok (.iload_n 2, 1) := by decide +kernel
theorem d_X4_compares_38 : decode m_X4_compares.2.1 38 = .ok (.if_icmp .le 7, 3) := by decide +kernel
theorem d_X4_compares_41 : decode m_X4_compares.2.1 41 = .ok (.iconst 1, 1) := by decide +kernel
theorem d_X4_compares_42 : decode m_X4_compares.2.1 42 = .ok (.goto 4, 3) := by decide +kernel
theorem d_X4_compares_45 : decode m_X4_compares.2.1 45 = .ok (.iconst 0, 1) := by decide +kernel
theorem d_X4_compares_46 : decode m_X4_compares.2.1 46 = .ok (.ireturn, 1) := by decide +kernel
set_option maxRecDepth 20000 in
theorem e_X4_compares {E : jm_E} {d : Nat} {μ : jm_M} {Q : Option jm_V → jm_M → Prop} {v0 v1 v2 : Int} (h : (∀ v ∈ ([jm_I v0, jm_I v1, jm_I v2] : List jm_V), jm_ok v) →
  ((v1 ≠ 60 →
    ((v1 ≠ 61 →
      ((v0 ≤ v2 →
        Q (some (jm_I 0)) μ) ∧
       (¬ (v0 ≤ v2) →
        Q (some (jm_I 1)) μ))) ∧
     (¬ (v1 ≠ 61) →
      ((v0 ≠ v2 →
        Q (some (jm_I 0)) μ) ∧
       (¬ (v0 ≠ v2) →
        Q (some (jm_I 1)) μ))))) ∧
   (¬ (v1 ≠ 60) →
    ((v2 ≤ v0 →
      Q (some (jm_I 0)) μ) ∧
     (¬ (v2 ≤ v0) →
      Q (some (jm_I 1)) μ))))) : jc E m_X4_compares (d + 1) [jm_I v0, jm_I v1, jm_I v2] μ Q := by
  refine jm_Cl.of2 (by decide +kernel) (L0 := [some (jm_I v0), some (jm_I v1), some (jm_I v2)]) rfl (Nat.le_of_ble_eq_true rfl) (fun hok => ?_)
  have h := h hok
  refine jm_iloadn d_X4_compares_0 rfl ?_
  refine jm_bipush (v := 60) d_X4_compares_1 rfl (jm_okI (by decide) (by decide)) ?_
  refine jm_icmp_ne (tgt := 17) d_X4_compares_3 (by decide) (fun c1 => ?_) (fun c1 => ?_)
  · have h := h.1 c1
    refine jm_iloadn d_X4_compares_17 rfl ?_
    refine jm_bipush (v := 61) d_X4_compares_18 rfl (jm_okI (by decide) (by decide)) ?_
    refine jm_icmp_ne (tgt := 36) d_X4_compares_20 (by decide) (fun c2 => ?_) (fun c2 => ?_)
    · have h := h.1 c2
      refine jm_iloadn d_X4_compares_36 rfl ?_
      refine jm_iloadn d_X4_compares_37 rfl ?_
      refine jm_icmp_le (tgt := 45) d_X4_compares_38 (by decide) (fun c3 => ?_) (fun c3 => ?_)
      · have h := h.1 c3
        refine jm_iconst (v := 0) d_X4_compares_45 rfl (jm_okI (by decide) (by decide)) ?_
        exact jm_ret (o := some (jm_I _)) d_X4_compares_46 rfl ⟨Nat.le_refl _, Nat.le_refl _⟩ (jm_r_Z (by decide)) h rfl
      · have h := h.2 c3
        refine jm_iconst (v := 1) d_X4_compares_41 rfl (jm_okI (by decide) (by decide)) ?_
        refine jm_goto (tgt := 46) d_X4_compares_42 (by decide) ?_
        exact jm_ret (o := some (jm_I _)) d_X4_compares_46 rfl ⟨Nat.le_refl _, Nat.le_refl _⟩ (jm_r_Z (by decide)) h rfl
    · have h := h.2 c2
      refine jm_iloadn d_X4_compares_23 rfl ?_
      refine jm_iloadn d_X4_compares_24 rfl ?_
      refine jm_icmp_ne (tgt := 32) d_X4_compares_25 (by decide) (fun c4 => ?_) (fun c4 => ?_)
      · have h := h.1 c4
        refine jm_iconst (v := 0) d_X4_compares_32 rfl (jm_okI (by decide) (by decide)) ?_
        refine jm_goto (tgt := 46) d_X4_compares_33 (by decide) ?_
        exact jm_ret (o := some (jm_I _)) d_X4_compares_46 rfl ⟨Nat.le_refl _, Nat.le_refl _⟩ (jm_r_Z (by decide)) h rfl
      · have h := h.2 c4
        refine jm_iconst (v := 1) d_X4_compares_28 rfl (jm_okI (by decide) (by decide)) ?_
        refine jm_goto (tgt := 46) d_X4_compares_29 (by decide) ?_
        exact jm_ret (o := some (jm_I _)) d_X4_compares_46 rfl ⟨Nat.le_refl _, Nat.le_refl _⟩ (jm_r_Z (by decide)) h rfl
  · have h := h.2 c1
    refine jm_iloadn d_X4_compares_6 rfl ?_
    refine jm_iloadn d_X4_compares_7 rfl ?_
    refine jm_icmp_ge (tgt := 15) d_X4_compares_8 (by decide) (fun c5 => ?_) (fun c5 => ?_)
    · have h := h.1 c5
      refine jm_iconst (v := 0) d_X4_compares_15 rfl (jm_okI (by decide) (by decide)) ?_
      exact jm_ret (o := some (jm_I _)) d_X4_compares_16 rfl ⟨Nat.le_refl _, Nat.le_refl _⟩ (jm_r_Z (by decide)) h rfl
    · have h := h.2 c5
      refine jm_iconst (v := 1) d_X4_compares_11 rfl (jm_okI (by decide) (by decide)) ?_
      refine jm_goto (tgt := 16) d_X4_compares_12 (by decide) ?_
      exact jm_ret (o := some (jm_I _)) d_X4_compares_16 rfl ⟨Nat.le_refl _, Nat.le_refl _⟩ (jm_r_Z (by decide)) h rfl
/-! ('CombTable$Sentence', 'read', '(LCombTable$Tape;LCombTable$Table;)Z') -/
theorem d_X4_read_0 : decode m_X4_read.2.1 0 = .ok (.aload_n 0, 1) := by decide +kernel
theorem d_X4_read_1 : decode m_X4_read.2.1 1 = .ok (.invokevirtual 52, 3) := by decide +kernel
theorem d_X4_read_4 : decode m_X4_read.2.1 4 = .ok (.aload_n 1, 1) := by decide +kernel
theorem d_X4_read_5 : decode m_X4_read.2.1 5 = .ok (.sipush 200, 3) := by decide +kernel
theorem d_X4_read_8 : decode m_X4_read.2.1 8 = .ok (.invokevirtual 55, 3) := by decide +kernel
theorem d_X4_read_11 : decode m_X4_read.2.1 11 = .ok (.aload_n 0, 1) := by decide +kernel
theorem d_X4_read_12 : decode m_X4_read.2.1 12 = .ok (.aload_n 1, 1) := by decide +kernel
theorem d_X4_read_13 : decode m_X4_read.2.1 13 = .ok (.aload_n 2, 1) := by decide +kernel
theorem d_X4_read_14 : decode m_X4_read.2.1 14 = .ok (.iconst 1, 1) := by decide +kernel
theorem d_X4_read_15 : decode m_X4_read.2.1 15 = .ok (.invokevirtual 61, 3) := by decide +kernel
theorem d_X4_read_18 : decode m_X4_read.2.1 18 = .ok (.ifCond .eq 14, 3) := by decide +kernel
theorem d_X4_read_21 : decode m_X4_read.2.1 21 = .ok (.aload_n 1, 1) := by decide +kernel
theorem d_X4_read_22 : decode m_X4_read.2.1 22 = .ok (.invokevirtual 65, 3) := by decide +kernel
theorem d_X4_read_25 : decode m_X4_read.2.1 25 = .ok (.ifCond .eq 7, 3) := by decide +kernel
theorem d_X4_read_28 : decode m_X4_read.2.1 28 = .ok (.iconst 1, 1) := by decide +kernel
theorem d_X4_read_29 : decode m_X4_read.2.1 29 = .ok (.goto 4, 3) := by decide +kernel
theorem d_X4_read_32 : decode m_X4_read.2.1 32 = .ok (.iconst 0, 1) := by decide +kernel
theorem d_X4_read_33 : decode m_X4_read.2.1 33 = .ok (.ireturn, 1) := by decide +kernel
set_option maxRecDepth 20000 in
theorem e_X4_read {E : jm_E} {d : Nat} {μ : jm_M} {Q : Option jm_V → jm_M → Prop} {v0 v2 : Int} (h : (∀ v ∈ ([jm_R v0, jm_R 1, jm_R v2] : List jm_V), jm_ok v) →
  (jm_is jm_N v0 1 4) ∧
  jc E m_X4_clear d [jm_R v0] μ (fun (o : Option jm_V) (m1 : jm_M) => o = none →
  jc E m_X7_open d [jm_R 1, jm_I 200] m1 (fun (o : Option jm_V) (m3 : jm_M) => o = none →
  jc E m_X4_readCond d [jm_R v0, jm_R 1, jm_R v2, jm_I 1] m3 (fun (o : Option jm_V) (m4 : jm_M) => ∀ r5 : Int, o = some (jm_I r5) → (r5 = 0 ∨ r5 = 1) →
  ((r5 = 0 →
    Q (some (jm_I 0)) m4) ∧
   (¬ (r5 = 0) →
    jc E m_X7_closes d [jm_R 1] m4 (fun (o : Option jm_V) (m8 : jm_M) => ∀ r9 : Int, o = some (jm_I r9) → (r9 = 0 ∨ r9 = 1) →
    ((r9 = 0 →
      Q (some (jm_I 0)) m8) ∧
     (¬ (r9 = 0) →
      Q (some (jm_I 1)) m8))))))))) : jc E m_X4_read (d + 1) [jm_R v0, jm_R 1, jm_R v2] μ Q := by
  refine jm_Cl.of2 (by decide +kernel) (L0 := [some (jm_R v0), some (jm_R 1), some (jm_R v2)]) rfl (Nat.le_of_ble_eq_true rfl) (fun hok => ?_)
  have h := h hok
  refine jm_aloadn d_X4_read_0 rfl ?_
  obtain ⟨f2, h⟩ := h
  refine jm_invV (n1 := jm_N) (mc := 0) (ms := 0) (av := []) w_X4_clear l_X4_52 d_X4_read_1 rfl f2 ⟨_, _, rfl⟩ ⟨Nat.le_refl _, Nat.le_refl _⟩ (Nat.le_of_ble_eq_true rfl) rfl ?_
  refine jm_Cl.mono h (fun o m1 h hr _ => ?_)
  obtain rfl := jm_rokV hr
  have h := h rfl
  refine jm_aloadn d_X4_read_4 rfl ?_
  refine jm_sipush (v := 200) d_X4_read_5 rfl (jm_okI (by decide) (by decide)) ?_
  refine jm_invV (n1 := jm_N) (mc := 0) (ms := 0) (av := [jm_I _]) w_X7_open l_X4_55 d_X4_read_8 rfl is_1 ⟨_, _, rfl⟩ ⟨Nat.le_refl _, Nat.le_refl _⟩ (Nat.le_of_ble_eq_true rfl) rfl ?_
  refine jm_Cl.mono h (fun o m3 h hr _ => ?_)
  obtain rfl := jm_rokV hr
  have h := h rfl
  refine jm_aloadn d_X4_read_11 rfl ?_
  refine jm_aloadn d_X4_read_12 rfl ?_
  refine jm_aloadn d_X4_read_13 rfl ?_
  refine jm_iconst (v := 1) d_X4_read_14 rfl (jm_okI (by decide) (by decide)) ?_
  refine jm_invV (n1 := jm_N) (mc := 0) (ms := 0) (av := [jm_R _, jm_R _, jm_I _]) w_X4_readCond l_X4_61 d_X4_read_15 rfl f2 ⟨_, _, rfl⟩ ⟨Nat.le_refl _, Nat.le_refl _⟩ (Nat.le_of_ble_eq_true rfl) rfl ?_
  refine jm_Cl.mono h (fun o m4 h hr _ => ?_)
  obtain ⟨r5, rfl, z6⟩ := jm_rokZ hr
  have h := h _ rfl z6
  refine jm_if_eq (tgt := 32) d_X4_read_18 (by decide) (fun c7 => ?_) (fun c7 => ?_)
  · have h := h.1 c7
    refine jm_iconst (v := 0) d_X4_read_32 rfl (jm_okI (by decide) (by decide)) ?_
    exact jm_ret (o := some (jm_I _)) d_X4_read_33 rfl ⟨Nat.le_refl _, Nat.le_refl _⟩ (jm_r_Z (by decide)) h rfl
  · have h := h.2 c7
    refine jm_aloadn d_X4_read_21 rfl ?_
    refine jm_invV (n1 := jm_N) (mc := 0) (ms := 0) (av := []) w_X7_closes l_X4_65 d_X4_read_22 rfl is_1 ⟨_, _, rfl⟩ ⟨Nat.le_refl _, Nat.le_refl _⟩ (Nat.le_of_ble_eq_true rfl) rfl ?_
    refine jm_Cl.mono h (fun o m8 h hr _ => ?_)
    obtain ⟨r9, rfl, z10⟩ := jm_rokZ hr
    have h := h _ rfl z10
    refine jm_if_eq (tgt := 32) d_X4_read_25 (by decide) (fun c11 => ?_) (fun c11 => ?_)
    · have h := h.1 c11
      refine jm_iconst (v := 0) d_X4_read_32 rfl (jm_okI (by decide) (by decide)) ?_
      exact jm_ret (o := some (jm_I _)) d_X4_read_33 rfl ⟨Nat.le_refl _, Nat.le_refl _⟩ (jm_r_Z (by decide)) h rfl
    · have h := h.2 c11
      refine jm_iconst (v := 1) d_X4_read_28 rfl (jm_okI (by decide) (by decide)) ?_
      refine jm_goto (tgt := 33) d_X4_read_29 (by decide) ?_
      exact jm_ret (o := some (jm_I _)) d_X4_read_33 rfl ⟨Nat.le_refl _, Nat.le_refl _⟩ (jm_r_Z (by decide)) h rfl
/-! ('CombTable$Sentence', 'readCond', '(LCombTable$Tape;LCombTable$Table;I)Z') -/
theorem d_X4_readCond_0 : decode m_X4_readCond.2.1 0 = .ok (.iconst 0, 1) := by decide +kernel
theorem d_X4_readCond_1 : decode m_X4_readCond.2.1 1 = .ok (.istore 4, 2) := by decide +kernel
theorem d_X4_readCond_3 : decode m_X4_readCond.2.1 3 = .ok (.aload_n 0, 1) := by decide +kernel
theorem d_X4_readCond_4 : decode m_X4_readCond.2.1 4 = .ok (.aload_n 1, 1) := by decide +kernel
theorem d_X4_readCond_5 : decode m_X4_readCond.2.1 5 = .ok (.aload_n 2, 1) := by decide +kernel
theorem d_X4_readCond_6 : decode m_X4_readCond.2.1 6 = .ok (.iload_n 3, 1) := by decide +kernel
theorem d_X4_readCond_7 : decode m_X4_readCond.2.1 7 = .ok (.invokevirtual 69, 3) := by decide +kernel
theorem d_X4_readCond_10 : decode m_X4_readCond.2.1 10 = .ok (.ifCond .ne 5, 3) := by decide +kernel
theorem d_X4_readCond_13 : decode m_X4_readCond.2.1 13 = .ok (.iconst 0, 1) := by decide +kernel
theorem d_X4_readCond_14 : decode m_X4_readCond.2.1 14 = .ok (.ireturn, 1) := by decide +kernel
theorem d_X4_readCond_15 : decode m_X4_readCond.2.1 15 = .ok (.iconst 0, 1) := by decide +kernel
theorem d_X4_readCond_16 : decode m_X4_readCond.2.1 16 = .ok (.istore 5, 2) := by decide +kernel
theorem d_X4_readCond_18 : decode m_X4_readCond.2.1 18 = .ok (.iload 5, 2) := by decide +kernel
theorem d_X4_readCond_20 : decode m_X4_readCond.2.1 20 = .ok (.bipush 20, 2) := by decide +kernel
theorem d_X4_readCond_22 : decode m_X4_readCond.2.1 22 = .ok (.if_icmp .ge 100, 3) := by decide +kernel
theorem d_X4_readCond_25 : decode m_X4_readCond.2.1 25 = .ok (.aload_n 1, 1) := by decide +kernel
theorem d_X4_readCond_26 : decode m_X4_readCond.2.1 26 = .ok (.getstatic 72, 3) := by decide +kernel
theorem d_X4_readCond_29 : decode m_X4_readCond.2.1 29 = .ok (.invokevirtual 78, 3) := by decide +kernel
theorem d_X4_readCond_32 : decode m_X4_readCond.2.1 32 = .ok (.ifCond .ne 13, 3) := by decide +kernel
theorem d_X4_readCond_35 : decode m_X4_readCond.2.1 35 = .ok (.aload_n 1, 1) := by decide +kernel
theorem d_X4_readCond_36 : decode m_X4_readCond.2.1 36 = .ok (.getstatic 82, 3) := by decide +kernel
theorem d_X4_readCond_39 : decode m_X4_readCond.2.1 39 = .ok (.invokevirtual 78, 3) := by decide +kernel
theorem d_X4_readCond_42 : decode m_X4_readCond.2.1 42 = .ok (.ifCond .eq 80, 3) := by decide +kernel
theorem d_X4_readCond_45 : decode m_X4_readCond.2.1 45 = .ok (.aload_n 1, 1) := by decide +kernel
theorem d_X4_readCond_46 : decode m_X4_readCond.2.1 46 = .ok (.getstatic 72, 3) := by decide +kernel
theorem d_X4_readCond_49 : decode m_X4_readCond.2.1 49 = .ok (.invokevirtual 78, 3) := by decide +kernel
theorem d_X4_readCond_52 : decode m_X4_readCond.2.1 52 = .ok (.istore 6, 2) := by decide +kernel
theorem d_X4_readCond_54 : decode m_X4_readCond.2.1 54 = .ok (.iload 6, 2) := by decide +kernel
theorem d_X4_readCond_56 : decode m_X4_readCond.2.1 56 = .ok (.ifCond .ne 15, 3) := by decide +kernel
theorem d_X4_readCond_59 : decode m_X4_readCond.2.1 59 = .ok (.iload 4, 2) := by decide +kernel
theorem d_X4_readCond_61 : decode m_X4_readCond.2.1 61 = .ok (.ifCond .eq 10, 3) := by decide +kernel
theorem d_X4_readCond_64 : decode m_X4_readCond.2.1 64 = .ok (.aload_n 0, 1) := by decide +kernel
theorem d_X4_readCond_65 : decode m_X4_readCond.2.1 65 = .ok (.iconst 2, 1) := by decide +kernel
theorem d_X4_readCond_66 : decode m_X4_readCond.2.1 66 = .ok (.iconst 0, 1) := by decide +kernel
theorem d_X4_readCond_67 : decode m_X4_readCond.2.1 67 = .ok (.iconst 0, 1) := by decide +kernel
theorem d_X4_readCond_68 : decode m_X4_readCond.2.1 68 = .ok (.invokevirtual 85, 3) := by decide +kernel
theorem d_X4_readCond_71 : decode m_X4_readCond.2.1 71 = .ok (.iload 4, 2) := by decide +kernel
theorem d_X4_readCond_73 : decode m_X4_readCond.2.1 73 = .ok (.ifCond .ne 8, 3) := by decide +kernel
theorem d_X4_readCond_76 : decode m_X4_readCond.2.1 76 = .ok (.iload 6, 2) := by decide +kernel
theorem d_X4_readCond_78 : decode m_X4_readCond.2.1 78 = .ok (.ifCond .ne 7, 3) := by decide +kernel
theorem d_X4_readCond_81 : decode m_X4_readCond.2.1 81 = .ok (.iconst 1, 1) := by decide +kernel
theorem d_X4_readCond_82 : decode m_X4_readCond.2.1 82 = .ok (.goto 4, 3) := by decide +kernel
theorem d_X4_readCond_85 : decode m_X4_readCond.2.1 85 = .ok (.iconst 0, 1) := by decide +kernel
theorem d_X4_readCond_86 : decode m_X4_readCond.2.1 86 = .ok (.istore 4, 2) := by decide +kernel
theorem d_X4_readCond_88 : decode m_X4_readCond.2.1 88 = .ok (.aload_n 1, 1) := by decide +kernel
theorem d_X4_readCond_89 : decode m_X4_readCond.2.1 89 = .ok (.invokevirtual 89, 3) := by decide +kernel
theorem d_X4_readCond_92 : decode m_X4_readCond.2.1 92 = .ok (.aload_n 0, 1) := by decide +kernel
theorem d_X4_readCond_93 : decode m_X4_readCond.2.1 93 = .ok (.aload_n 1, 1) := by decide +kernel
theorem d_X4_readCond_94 : decode m_X4_readCond.2.1 94 = .ok (.aload_n 2, 1) := by decide +kernel
theorem d_X4_readCond_95 : decode m_X4_readCond.2.1 95 = .ok (.iload_n 3, 1) := by decide +kernel
theorem d_X4_readCond_96 : decode m_X4_readCond.2.1 96 = .ok (.invokevirtual 69, 3) := by decide +kernel
theorem d_X4_readCond_99 : decode m_X4_readCond.2.1 99 = .ok (.ifCond .ne 5, 3) := by decide +kernel
theorem d_X4_readCond_102 : decode m_X4_readCond.2.1 102 = .ok (.iconst 0, 1) := by decide +kernel
theorem d_X4_readCond_103 : decode m_X4_readCond.2.1 103 = .ok (.ireturn, 1) := by decide +kernel
theorem d_X4_readCond_104 : decode m_X4_readCond.2.1 104 = .ok (.iload 6, 2) := by decide +kernel
theorem d_X4_readCond_106 : decode m_X4_readCond.2.1 106 = .ok (.ifCond .eq 10, 3) := by decide +kernel
theorem d_X4_readCond_109 : decode m_X4_readCond.2.1 109 = .ok (.aload_n 0, 1) := by decide +kernel
theorem d_X4_readCond_110 : decode m_X4_readCond.2.1 110 = .ok (.iconst 1, 1) := by decide +kernel
theorem d_X4_readCond_111 : decode m_X4_readCond.2.1 111 = .ok (.iconst 0, 1) := by decide +kernel
theorem d_X4_readCond_112 : decode m_X4_readCond.2.1 112 = .ok (.iconst 0, 1) := by decide +kernel
theorem d_X4_readCond_113 : decode m_X4_readCond.2.1 113 = .ok (.invokevirtual 85, 3) := by decide +kernel
theorem d_X4_readCond_116 : decode m_X4_readCond.2.1 116 = .ok (.iinc 5 1, 3) := by decide +kernel
theorem d_X4_readCond_119 : decode m_X4_readCond.2.1 119 = .ok (.goto (-101), 3) := by decide +kernel
theorem d_X4_readCond_122 : decode m_X4_readCond.2.1 122 = .ok (.iload 4, 2) := by decide +kernel
theorem d_X4_readCond_124 : decode m_X4_readCond.2.1 124 = .ok (.ifCond .eq 10, 3) := by decide +kernel
theorem d_X4_readCond_127 : decode m_X4_readCond.2.1 127 = .ok (.aload_n 0, 1) := by decide +kernel
theorem d_X4_readCond_128 : decode m_X4_readCond.2.1 128 = .ok (.iconst 2, 1) := by decide +kernel
theorem d_X4_readCond_129 : decode m_X4_readCond.2.1 129 = .ok (.iconst 0, 1) := by decide +kernel
theorem d_X4_readCond_130 : decode m_X4_readCond.2.1 130 = .ok (.iconst 0, 1) := by decide +kernel
theorem d_X4_readCond_131 : decode m_X4_readCond.2.1 131 = .ok (.invokevirtual 85, 3) := by decide +kernel
theorem d_X4_readCond_134 : decode m_X4_readCond.2.1 134 = .ok (.iconst 1, 1) := by decide +kernel
theorem d_X4_readCond_135 : decode m_X4_readCond.2.1 135 = .ok (.ireturn, 1) := by decide +kernel
set_option maxRecDepth 20000 in
theorem e_X4_readCond {E : jm_E} {d : Nat} {μ : jm_M} {Q : Option jm_V → jm_M → Prop} {v0 v2 v3 : Int} (h : (∀ v ∈ ([jm_R v0, jm_R 1, jm_R v2, jm_I v3] : List jm_V), jm_ok v) →
  (jm_is jm_N v0 1 4) ∧
  jc E m_X4_readOne d [jm_R v0, jm_R 1, jm_R v2, jm_I v3] μ (fun (o : Option jm_V) (m1 : jm_M) => ∀ r3 : Int, o = some (jm_I r3) → (r3 = 0 ∨ r3 = 1) →
  ((r3 ≠ 0 →
    jg E m_X4_readCond d 18 [some (jm_R v0), some (jm_R 1), some (jm_R v2), some (jm_I v3), some (jm_I 0), some (jm_I 0), none] [] m1 Q) ∧
   (¬ (r3 ≠ 0) →
    Q (some (jm_I 0)) m1)))) : jc E m_X4_readCond (d + 1) [jm_R v0, jm_R 1, jm_R v2, jm_I v3] μ Q := by
  refine jm_Cl.of2 (by decide +kernel) (L0 := [some (jm_R v0), some (jm_R 1), some (jm_R v2), some (jm_I v3), none, none, none]) rfl (Nat.le_of_ble_eq_true rfl) (fun hok => ?_)
  have h := h hok
  refine jm_iconst (v := 0) d_X4_readCond_0 rfl (jm_okI (by decide) (by decide)) ?_
  refine jm_istore (L' := [some (jm_R _), some (jm_R _), some (jm_R _), some (jm_I _), some (jm_I _), none, none]) d_X4_readCond_1 (Nat.le_of_ble_eq_true rfl) rfl ?_
  refine jm_aloadn d_X4_readCond_3 rfl ?_
  refine jm_aloadn d_X4_readCond_4 rfl ?_
  refine jm_aloadn d_X4_readCond_5 rfl ?_
  refine jm_iloadn d_X4_readCond_6 rfl ?_
  obtain ⟨f2, h⟩ := h
  refine jm_invV (n1 := jm_N) (mc := 0) (ms := 0) (av := [jm_R _, jm_R _, jm_I _]) w_X4_readOne l_X4_69 d_X4_readCond_7 rfl f2 ⟨_, _, rfl⟩ ⟨Nat.le_refl _, Nat.le_refl _⟩ (Nat.le_of_ble_eq_true rfl) rfl ?_
  refine jm_Cl.mono h (fun o m1 h hr _ => ?_)
  obtain ⟨r3, rfl, z4⟩ := jm_rokZ hr
  have h := h _ rfl z4
  refine jm_if_ne (tgt := 15) d_X4_readCond_10 (by decide) (fun c5 => ?_) (fun c5 => ?_)
  · have h := h.1 c5
    refine jm_iconst (v := 0) d_X4_readCond_15 rfl (jm_okI (by decide) (by decide)) ?_
    refine jm_istore (L' := [some (jm_R _), some (jm_R _), some (jm_R _), some (jm_I _), some (jm_I _), some (jm_I _), none]) d_X4_readCond_16 (Nat.le_of_ble_eq_true rfl) rfl ?_
    exact h
  · have h := h.2 c5
    refine jm_iconst (v := 0) d_X4_readCond_13 rfl (jm_okI (by decide) (by decide)) ?_
    exact jm_ret (o := some (jm_I _)) d_X4_readCond_14 rfl ⟨Nat.le_refl _, Nat.le_refl _⟩ (jm_r_Z (by decide)) h rfl
set_option maxRecDepth 20000 in
theorem r_X4_readCond_18 {E : jm_E} {d : Nat} {μ : jm_M} {Q : Option jm_V → jm_M → Prop} {v0 v2 v3 v4 v5 : Int} (h :
  ((20 ≤ v5 →
    ((v4 = 0 →
      Q (some (jm_I 1)) μ) ∧
     (¬ (v4 = 0) →
      (jm_is jm_N v0 1 4) ∧
      jc E m_X4_put d [jm_R v0, jm_I 2, jm_I 0, jm_I 0] μ (fun (o : Option jm_V) (m3 : jm_M) => o = none →
      Q (some (jm_I 1)) m3)))) ∧
   (¬ (20 ≤ v5) →
    jc E m_X7_isTerm d [jm_R 1, jm_R ((-28))] μ (fun (o : Option jm_V) (m5 : jm_M) => ∀ r6 : Int, o = some (jm_I r6) → (r6 = 0 ∨ r6 = 1) →
    ((r6 ≠ 0 →
      jc E m_X7_isTerm d [jm_R 1, jm_R ((-28))] m5 (fun (o : Option jm_V) (m9 : jm_M) => ∀ r10 : Int, o = some (jm_I r10) → (r10 = 0 ∨ r10 = 1) →
      ((r10 ≠ 0 →
        jg E m_X4_readCond d 71 [some (jm_R v0), some (jm_R 1), some (jm_R v2), some (jm_I v3), some (jm_I v4), some (jm_I v5), some (jm_I r10)] [] m9 Q) ∧
       (¬ (r10 ≠ 0) →
        ((v4 = 0 →
          jg E m_X4_readCond d 71 [some (jm_R v0), some (jm_R 1), some (jm_R v2), some (jm_I v3), some (jm_I v4), some (jm_I v5), some (jm_I r10)] [] m9 Q) ∧
         (¬ (v4 = 0) →
          (jm_is jm_N v0 1 4) ∧
          jc E m_X4_put d [jm_R v0, jm_I 2, jm_I 0, jm_I 0] m9 (fun (o : Option jm_V) (m14 : jm_M) => o = none →
          jg E m_X4_readCond d 71 [some (jm_R v0), some (jm_R 1), some (jm_R v2), some (jm_I v3), some (jm_I v4), some (jm_I v5), some (jm_I r10)] [] m14 Q))))))) ∧
     (¬ (r6 ≠ 0) →
      jc E m_X7_isTerm d [jm_R 1, jm_R ((-27))] m5 (fun (o : Option jm_V) (m16 : jm_M) => ∀ r17 : Int, o = some (jm_I r17) → (r17 = 0 ∨ r17 = 1) →
      ((r17 = 0 →
        ((v4 = 0 →
          Q (some (jm_I 1)) m16) ∧
         (¬ (v4 = 0) →
          (jm_is jm_N v0 1 4) ∧
          jc E m_X4_put d [jm_R v0, jm_I 2, jm_I 0, jm_I 0] m16 (fun (o : Option jm_V) (m21 : jm_M) => o = none →
          Q (some (jm_I 1)) m21)))) ∧
       (¬ (r17 = 0) →
        jc E m_X7_isTerm d [jm_R 1, jm_R ((-28))] m16 (fun (o : Option jm_V) (m23 : jm_M) => ∀ r24 : Int, o = some (jm_I r24) → (r24 = 0 ∨ r24 = 1) →
        ((r24 ≠ 0 →
          jg E m_X4_readCond d 71 [some (jm_R v0), some (jm_R 1), some (jm_R v2), some (jm_I v3), some (jm_I v4), some (jm_I v5), some (jm_I r24)] [] m23 Q) ∧
         (¬ (r24 ≠ 0) →
          ((v4 = 0 →
            jg E m_X4_readCond d 71 [some (jm_R v0), some (jm_R 1), some (jm_R v2), some (jm_I v3), some (jm_I v4), some (jm_I v5), some (jm_I r24)] [] m23 Q) ∧
           (¬ (v4 = 0) →
            (jm_is jm_N v0 1 4) ∧
            jc E m_X4_put d [jm_R v0, jm_I 2, jm_I 0, jm_I 0] m23 (fun (o : Option jm_V) (m28 : jm_M) => o = none →
            jg E m_X4_readCond d 71 [some (jm_R v0), some (jm_R 1), some (jm_R v2), some (jm_I v3), some (jm_I v4), some (jm_I v5), some (jm_I r24)] [] m28 Q))))))))))))))) : jg E m_X4_readCond d 18 [some (jm_R v0), some (jm_R 1), some (jm_R v2), some (jm_I v3), some (jm_I v4), some (jm_I v5), none] [] μ Q := by
  refine jm_iload d_X4_readCond_18 rfl ?_
  refine jm_bipush (v := 20) d_X4_readCond_20 rfl (jm_okI (by decide) (by decide)) ?_
  refine jm_icmp_ge (tgt := 122) d_X4_readCond_22 (by decide) (fun c1 => ?_) (fun c1 => ?_)
  · have h := h.1 c1
    refine jm_iload d_X4_readCond_122 rfl ?_
    refine jm_if_eq (tgt := 134) d_X4_readCond_124 (by decide) (fun c2 => ?_) (fun c2 => ?_)
    · have h := h.1 c2
      refine jm_iconst (v := 1) d_X4_readCond_134 rfl (jm_okI (by decide) (by decide)) ?_
      exact jm_ret (o := some (jm_I _)) d_X4_readCond_135 rfl ⟨Nat.le_refl _, Nat.le_refl _⟩ (jm_r_Z (by decide)) h rfl
    · have h := h.2 c2
      refine jm_aloadn d_X4_readCond_127 rfl ?_
      refine jm_iconst (v := 2) d_X4_readCond_128 rfl (jm_okI (by decide) (by decide)) ?_
      refine jm_iconst (v := 0) d_X4_readCond_129 rfl (jm_okI (by decide) (by decide)) ?_
      refine jm_iconst (v := 0) d_X4_readCond_130 rfl (jm_okI (by decide) (by decide)) ?_
      obtain ⟨f4, h⟩ := h
      refine jm_invV (n1 := jm_N) (mc := 0) (ms := 0) (av := [jm_I _, jm_I _, jm_I _]) w_X4_put l_X4_85 d_X4_readCond_131 rfl f4 ⟨_, _, rfl⟩ ⟨Nat.le_refl _, Nat.le_refl _⟩ (Nat.le_of_ble_eq_true rfl) rfl ?_
      refine jm_Cl.mono h (fun o m3 h hr _ => ?_)
      obtain rfl := jm_rokV hr
      have h := h rfl
      refine jm_iconst (v := 1) d_X4_readCond_134 rfl (jm_okI (by decide) (by decide)) ?_
      exact jm_ret (o := some (jm_I _)) d_X4_readCond_135 rfl ⟨Nat.le_refl _, Nat.le_refl _⟩ (jm_r_Z (by decide)) h rfl
  · have h := h.2 c1
    refine jm_aloadn d_X4_readCond_25 rfl ?_
    refine jm_getT (i := 17) (a := -28) (Nat.le_of_ble_eq_true rfl) (by decide) rfl f_X4_72 d_X4_readCond_26 ?_
    refine jm_invV (n1 := jm_N) (mc := 0) (ms := 0) (av := [jm_R _]) w_X7_isTerm l_X4_78 d_X4_readCond_29 rfl is_1 ⟨_, _, rfl⟩ ⟨Nat.le_refl _, Nat.le_refl _⟩ (Nat.le_of_ble_eq_true rfl) rfl ?_
    refine jm_Cl.mono h (fun o m5 h hr _ => ?_)
    obtain ⟨r6, rfl, z7⟩ := jm_rokZ hr
    have h := h _ rfl z7
    refine jm_if_ne (tgt := 45) d_X4_readCond_32 (by decide) (fun c8 => ?_) (fun c8 => ?_)
    · have h := h.1 c8
      refine jm_aloadn d_X4_readCond_45 rfl ?_
      refine jm_getT (i := 17) (a := -28) (Nat.le_of_ble_eq_true rfl) (by decide) rfl f_X4_72 d_X4_readCond_46 ?_
      refine jm_invV (n1 := jm_N) (mc := 0) (ms := 0) (av := [jm_R _]) w_X7_isTerm l_X4_78 d_X4_readCond_49 rfl is_1 ⟨_, _, rfl⟩ ⟨Nat.le_refl _, Nat.le_refl _⟩ (Nat.le_of_ble_eq_true rfl) rfl ?_
      refine jm_Cl.mono h (fun o m9 h hr _ => ?_)
      obtain ⟨r10, rfl, z11⟩ := jm_rokZ hr
      have h := h _ rfl z11
      refine jm_istore (L' := [some (jm_R _), some (jm_R _), some (jm_R _), some (jm_I _), some (jm_I _), some (jm_I _), some (jm_I _)]) d_X4_readCond_52 (Nat.le_of_ble_eq_true rfl) rfl ?_
      refine jm_iload d_X4_readCond_54 rfl ?_
      refine jm_if_ne (tgt := 71) d_X4_readCond_56 (by decide) (fun c12 => ?_) (fun c12 => ?_)
      · have h := h.1 c12
        exact h
      · have h := h.2 c12
        refine jm_iload d_X4_readCond_59 rfl ?_
        refine jm_if_eq (tgt := 71) d_X4_readCond_61 (by decide) (fun c13 => ?_) (fun c13 => ?_)
        · have h := h.1 c13
          exact h
        · have h := h.2 c13
          refine jm_aloadn d_X4_readCond_64 rfl ?_
          refine jm_iconst (v := 2) d_X4_readCond_65 rfl (jm_okI (by decide) (by decide)) ?_
          refine jm_iconst (v := 0) d_X4_readCond_66 rfl (jm_okI (by decide) (by decide)) ?_
          refine jm_iconst (v := 0) d_X4_readCond_67 rfl (jm_okI (by decide) (by decide)) ?_
          obtain ⟨f15, h⟩ := h
          refine jm_invV (n1 := jm_N) (mc := 0) (ms := 0) (av := [jm_I _, jm_I _, jm_I _]) w_X4_put l_X4_85 d_X4_readCond_68 rfl f15 ⟨_, _, rfl⟩ ⟨Nat.le_refl _, Nat.le_refl _⟩ (Nat.le_of_ble_eq_true rfl) rfl ?_
          refine jm_Cl.mono h (fun o m14 h hr _ => ?_)
          obtain rfl := jm_rokV hr
          have h := h rfl
          exact h
    · have h := h.2 c8
      refine jm_aloadn d_X4_readCond_35 rfl ?_
      refine jm_getT (i := 16) (a := -27) (Nat.le_of_ble_eq_true rfl) (by decide) rfl f_X4_82 d_X4_readCond_36 ?_
      refine jm_invV (n1 := jm_N) (mc := 0) (ms := 0) (av := [jm_R _]) w_X7_isTerm l_X4_78 d_X4_readCond_39 rfl is_1 ⟨_, _, rfl⟩ ⟨Nat.le_refl _, Nat.le_refl _⟩ (Nat.le_of_ble_eq_true rfl) rfl ?_
      refine jm_Cl.mono h (fun o m16 h hr _ => ?_)
      obtain ⟨r17, rfl, z18⟩ := jm_rokZ hr
      have h := h _ rfl z18
      refine jm_if_eq (tgt := 122) d_X4_readCond_42 (by decide) (fun c19 => ?_) (fun c19 => ?_)
      · have h := h.1 c19
        refine jm_iload d_X4_readCond_122 rfl ?_
        refine jm_if_eq (tgt := 134) d_X4_readCond_124 (by decide) (fun c20 => ?_) (fun c20 => ?_)
        · have h := h.1 c20
          refine jm_iconst (v := 1) d_X4_readCond_134 rfl (jm_okI (by decide) (by decide)) ?_
          exact jm_ret (o := some (jm_I _)) d_X4_readCond_135 rfl ⟨Nat.le_refl _, Nat.le_refl _⟩ (jm_r_Z (by decide)) h rfl
        · have h := h.2 c20
          refine jm_aloadn d_X4_readCond_127 rfl ?_
          refine jm_iconst (v := 2) d_X4_readCond_128 rfl (jm_okI (by decide) (by decide)) ?_
          refine jm_iconst (v := 0) d_X4_readCond_129 rfl (jm_okI (by decide) (by decide)) ?_
          refine jm_iconst (v := 0) d_X4_readCond_130 rfl (jm_okI (by decide) (by decide)) ?_
          obtain ⟨f22, h⟩ := h
          refine jm_invV (n1 := jm_N) (mc := 0) (ms := 0) (av := [jm_I _, jm_I _, jm_I _]) w_X4_put l_X4_85 d_X4_readCond_131 rfl f22 ⟨_, _, rfl⟩ ⟨Nat.le_refl _, Nat.le_refl _⟩ (Nat.le_of_ble_eq_true rfl) rfl ?_
          refine jm_Cl.mono h (fun o m21 h hr _ => ?_)
          obtain rfl := jm_rokV hr
          have h := h rfl
          refine jm_iconst (v := 1) d_X4_readCond_134 rfl (jm_okI (by decide) (by decide)) ?_
          exact jm_ret (o := some (jm_I _)) d_X4_readCond_135 rfl ⟨Nat.le_refl _, Nat.le_refl _⟩ (jm_r_Z (by decide)) h rfl
      · have h := h.2 c19
        refine jm_aloadn d_X4_readCond_45 rfl ?_
        refine jm_getT (i := 17) (a := -28) (Nat.le_of_ble_eq_true rfl) (by decide) rfl f_X4_72 d_X4_readCond_46 ?_
        refine jm_invV (n1 := jm_N) (mc := 0) (ms := 0) (av := [jm_R _]) w_X7_isTerm l_X4_78 d_X4_readCond_49 rfl is_1 ⟨_, _, rfl⟩ ⟨Nat.le_refl _, Nat.le_refl _⟩ (Nat.le_of_ble_eq_true rfl) rfl ?_
        refine jm_Cl.mono h (fun o m23 h hr _ => ?_)
        obtain ⟨r24, rfl, z25⟩ := jm_rokZ hr
        have h := h _ rfl z25
        refine jm_istore (L' := [some (jm_R _), some (jm_R _), some (jm_R _), some (jm_I _), some (jm_I _), some (jm_I _), some (jm_I _)]) d_X4_readCond_52 (Nat.le_of_ble_eq_true rfl) rfl ?_
        refine jm_iload d_X4_readCond_54 rfl ?_
        refine jm_if_ne (tgt := 71) d_X4_readCond_56 (by decide) (fun c26 => ?_) (fun c26 => ?_)
        · have h := h.1 c26
          exact h
        · have h := h.2 c26
          refine jm_iload d_X4_readCond_59 rfl ?_
          refine jm_if_eq (tgt := 71) d_X4_readCond_61 (by decide) (fun c27 => ?_) (fun c27 => ?_)
          · have h := h.1 c27
            exact h
          · have h := h.2 c27
            refine jm_aloadn d_X4_readCond_64 rfl ?_
            refine jm_iconst (v := 2) d_X4_readCond_65 rfl (jm_okI (by decide) (by decide)) ?_
            refine jm_iconst (v := 0) d_X4_readCond_66 rfl (jm_okI (by decide) (by decide)) ?_
            refine jm_iconst (v := 0) d_X4_readCond_67 rfl (jm_okI (by decide) (by decide)) ?_
            obtain ⟨f29, h⟩ := h
            refine jm_invV (n1 := jm_N) (mc := 0) (ms := 0) (av := [jm_I _, jm_I _, jm_I _]) w_X4_put l_X4_85 d_X4_readCond_68 rfl f29 ⟨_, _, rfl⟩ ⟨Nat.le_refl _, Nat.le_refl _⟩ (Nat.le_of_ble_eq_true rfl) rfl ?_
            refine jm_Cl.mono h (fun o m28 h hr _ => ?_)
            obtain rfl := jm_rokV hr
            have h := h rfl
            exact h
set_option maxRecDepth 20000 in
theorem r_X4_readCond_71 {E : jm_E} {d : Nat} {μ : jm_M} {Q : Option jm_V → jm_M → Prop} {v0 v2 v3 v4 v5 v6 : Int} (h :
  ((v4 ≠ 0 →
    jg E m_X4_readCond d 81 [some (jm_R v0), some (jm_R 1), some (jm_R v2), some (jm_I v3), none, some (jm_I v5), some (jm_I v6)] [] μ Q) ∧
   (¬ (v4 ≠ 0) →
    ((v6 ≠ 0 →
      jc E m_X7_advance d [jm_R 1] μ (fun (o : Option jm_V) (m3 : jm_M) => o = none →
      (jm_is jm_N v0 1 4) ∧
      jc E m_X4_readOne d [jm_R v0, jm_R 1, jm_R v2, jm_I v3] m3 (fun (o : Option jm_V) (m4 : jm_M) => ∀ r6 : Int, o = some (jm_I r6) → (r6 = 0 ∨ r6 = 1) →
      ((r6 ≠ 0 →
        ((v6 = 0 →
          jg E m_X4_readCond d 18 [some (jm_R v0), some (jm_R 1), some (jm_R v2), some (jm_I v3), some (jm_I 0), some (jm_I (jm_wr (v5 + 1))), none] [] m4 Q) ∧
         (¬ (v6 = 0) →
          jc E m_X4_put d [jm_R v0, jm_I 1, jm_I 0, jm_I 0] m4 (fun (o : Option jm_V) (m10 : jm_M) => o = none →
          jg E m_X4_readCond d 18 [some (jm_R v0), some (jm_R 1), some (jm_R v2), some (jm_I v3), some (jm_I 0), some (jm_I (jm_wr (v5 + 1))), none] [] m10 Q)))) ∧
       (¬ (r6 ≠ 0) →
        Q (some (jm_I 0)) m4))))) ∧
     (¬ (v6 ≠ 0) →
      jg E m_X4_readCond d 81 [some (jm_R v0), some (jm_R 1), some (jm_R v2), some (jm_I v3), none, some (jm_I v5), some (jm_I v6)] [] μ Q))))) : jg E m_X4_readCond d 71 [some (jm_R v0), some (jm_R 1), some (jm_R v2), some (jm_I v3), some (jm_I v4), some (jm_I v5), some (jm_I v6)] [] μ Q := by
  refine jm_iload d_X4_readCond_71 rfl ?_
  refine jm_if_ne (tgt := 81) d_X4_readCond_73 (by decide) (fun c1 => ?_) (fun c1 => ?_)
  · have h := h.1 c1
    exact jm_weak2 h (And.intro rfl (And.intro rfl (And.intro rfl (And.intro rfl (And.intro rfl (And.intro rfl trivial))))))
  · have h := h.2 c1
    refine jm_iload d_X4_readCond_76 rfl ?_
    refine jm_if_ne (tgt := 85) d_X4_readCond_78 (by decide) (fun c2 => ?_) (fun c2 => ?_)
    · have h := h.1 c2
      refine jm_iconst (v := 0) d_X4_readCond_85 rfl (jm_okI (by decide) (by decide)) ?_
      refine jm_istore (L' := [some (jm_R _), some (jm_R _), some (jm_R _), some (jm_I _), some (jm_I _), some (jm_I _), some (jm_I _)]) d_X4_readCond_86 (Nat.le_of_ble_eq_true rfl) rfl ?_
      refine jm_aloadn d_X4_readCond_88 rfl ?_
      refine jm_invV (n1 := jm_N) (mc := 0) (ms := 0) (av := []) w_X7_advance l_X4_89 d_X4_readCond_89 rfl is_1 ⟨_, _, rfl⟩ ⟨Nat.le_refl _, Nat.le_refl _⟩ (Nat.le_of_ble_eq_true rfl) rfl ?_
      refine jm_Cl.mono h (fun o m3 h hr _ => ?_)
      obtain rfl := jm_rokV hr
      have h := h rfl
      refine jm_aloadn d_X4_readCond_92 rfl ?_
      refine jm_aloadn d_X4_readCond_93 rfl ?_
      refine jm_aloadn d_X4_readCond_94 rfl ?_
      refine jm_iloadn d_X4_readCond_95 rfl ?_
      obtain ⟨f5, h⟩ := h
      refine jm_invV (n1 := jm_N) (mc := 0) (ms := 0) (av := [jm_R _, jm_R _, jm_I _]) w_X4_readOne l_X4_69 d_X4_readCond_96 rfl f5 ⟨_, _, rfl⟩ ⟨Nat.le_refl _, Nat.le_refl _⟩ (Nat.le_of_ble_eq_true rfl) rfl ?_
      refine jm_Cl.mono h (fun o m4 h hr _ => ?_)
      obtain ⟨r6, rfl, z7⟩ := jm_rokZ hr
      have h := h _ rfl z7
      refine jm_if_ne (tgt := 104) d_X4_readCond_99 (by decide) (fun c8 => ?_) (fun c8 => ?_)
      · have h := h.1 c8
        refine jm_iload d_X4_readCond_104 rfl ?_
        refine jm_if_eq (tgt := 116) d_X4_readCond_106 (by decide) (fun c9 => ?_) (fun c9 => ?_)
        · have h := h.1 c9
          refine jm_iinc (L' := [some (jm_R _), some (jm_R _), some (jm_R _), some (jm_I _), some (jm_I _), some (jm_I _), some (jm_I _)]) d_X4_readCond_116 rfl rfl (Nat.le_of_ble_eq_true rfl) rfl ?_
          refine jm_goto (tgt := 18) d_X4_readCond_119 (by decide) ?_
          exact jm_weak2 h (And.intro rfl (And.intro rfl (And.intro rfl (And.intro rfl (And.intro rfl (And.intro rfl trivial))))))
        · have h := h.2 c9
          refine jm_aloadn d_X4_readCond_109 rfl ?_
          refine jm_iconst (v := 1) d_X4_readCond_110 rfl (jm_okI (by decide) (by decide)) ?_
          refine jm_iconst (v := 0) d_X4_readCond_111 rfl (jm_okI (by decide) (by decide)) ?_
          refine jm_iconst (v := 0) d_X4_readCond_112 rfl (jm_okI (by decide) (by decide)) ?_
          refine jm_invV (n1 := jm_N) (mc := 0) (ms := 0) (av := [jm_I _, jm_I _, jm_I _]) w_X4_put l_X4_85 d_X4_readCond_113 rfl f5 ⟨_, _, rfl⟩ ⟨Nat.le_refl _, Nat.le_refl _⟩ (Nat.le_of_ble_eq_true rfl) rfl ?_
          refine jm_Cl.mono h (fun o m10 h hr _ => ?_)
          obtain rfl := jm_rokV hr
          have h := h rfl
          refine jm_iinc (L' := [some (jm_R _), some (jm_R _), some (jm_R _), some (jm_I _), some (jm_I _), some (jm_I _), some (jm_I _)]) d_X4_readCond_116 rfl rfl (Nat.le_of_ble_eq_true rfl) rfl ?_
          refine jm_goto (tgt := 18) d_X4_readCond_119 (by decide) ?_
          exact jm_weak2 h (And.intro rfl (And.intro rfl (And.intro rfl (And.intro rfl (And.intro rfl (And.intro rfl trivial))))))
      · have h := h.2 c8
        refine jm_iconst (v := 0) d_X4_readCond_102 rfl (jm_okI (by decide) (by decide)) ?_
        exact jm_ret (o := some (jm_I _)) d_X4_readCond_103 rfl ⟨Nat.le_refl _, Nat.le_refl _⟩ (jm_r_Z (by decide)) h rfl
    · have h := h.2 c2
      exact jm_weak2 h (And.intro rfl (And.intro rfl (And.intro rfl (And.intro rfl (And.intro rfl (And.intro rfl trivial))))))
set_option maxRecDepth 20000 in
theorem r_X4_readCond_81 {E : jm_E} {d : Nat} {μ : jm_M} {Q : Option jm_V → jm_M → Prop} {v0 v2 v3 v5 v6 : Int} (h :
  jc E m_X7_advance d [jm_R 1] μ (fun (o : Option jm_V) (m1 : jm_M) => o = none →
  (jm_is jm_N v0 1 4) ∧
  jc E m_X4_readOne d [jm_R v0, jm_R 1, jm_R v2, jm_I v3] m1 (fun (o : Option jm_V) (m2 : jm_M) => ∀ r4 : Int, o = some (jm_I r4) → (r4 = 0 ∨ r4 = 1) →
  ((r4 ≠ 0 →
    ((v6 = 0 →
      jg E m_X4_readCond d 18 [some (jm_R v0), some (jm_R 1), some (jm_R v2), some (jm_I v3), some (jm_I 1), some (jm_I (jm_wr (v5 + 1))), none] [] m2 Q) ∧
     (¬ (v6 = 0) →
      jc E m_X4_put d [jm_R v0, jm_I 1, jm_I 0, jm_I 0] m2 (fun (o : Option jm_V) (m8 : jm_M) => o = none →
      jg E m_X4_readCond d 18 [some (jm_R v0), some (jm_R 1), some (jm_R v2), some (jm_I v3), some (jm_I 1), some (jm_I (jm_wr (v5 + 1))), none] [] m8 Q)))) ∧
   (¬ (r4 ≠ 0) →
    Q (some (jm_I 0)) m2))))) : jg E m_X4_readCond d 81 [some (jm_R v0), some (jm_R 1), some (jm_R v2), some (jm_I v3), none, some (jm_I v5), some (jm_I v6)] [] μ Q := by
  refine jm_iconst (v := 1) d_X4_readCond_81 rfl (jm_okI (by decide) (by decide)) ?_
  refine jm_goto (tgt := 86) d_X4_readCond_82 (by decide) ?_
  refine jm_istore (L' := [some (jm_R _), some (jm_R _), some (jm_R _), some (jm_I _), some (jm_I _), some (jm_I _), some (jm_I _)]) d_X4_readCond_86 (Nat.le_of_ble_eq_true rfl) rfl ?_
  refine jm_aloadn d_X4_readCond_88 rfl ?_
  refine jm_invV (n1 := jm_N) (mc := 0) (ms := 0) (av := []) w_X7_advance l_X4_89 d_X4_readCond_89 rfl is_1 ⟨_, _, rfl⟩ ⟨Nat.le_refl _, Nat.le_refl _⟩ (Nat.le_of_ble_eq_true rfl) rfl ?_
  refine jm_Cl.mono h (fun o m1 h hr _ => ?_)
  obtain rfl := jm_rokV hr
  have h := h rfl
  refine jm_aloadn d_X4_readCond_92 rfl ?_
  refine jm_aloadn d_X4_readCond_93 rfl ?_
  refine jm_aloadn d_X4_readCond_94 rfl ?_
  refine jm_iloadn d_X4_readCond_95 rfl ?_
  obtain ⟨f3, h⟩ := h
  refine jm_invV (n1 := jm_N) (mc := 0) (ms := 0) (av := [jm_R _, jm_R _, jm_I _]) w_X4_readOne l_X4_69 d_X4_readCond_96 rfl f3 ⟨_, _, rfl⟩ ⟨Nat.le_refl _, Nat.le_refl _⟩ (Nat.le_of_ble_eq_true rfl) rfl ?_
  refine jm_Cl.mono h (fun o m2 h hr _ => ?_)
  obtain ⟨r4, rfl, z5⟩ := jm_rokZ hr
  have h := h _ rfl z5
  refine jm_if_ne (tgt := 104) d_X4_readCond_99 (by decide) (fun c6 => ?_) (fun c6 => ?_)
  · have h := h.1 c6
    refine jm_iload d_X4_readCond_104 rfl ?_
    refine jm_if_eq (tgt := 116) d_X4_readCond_106 (by decide) (fun c7 => ?_) (fun c7 => ?_)
    · have h := h.1 c7
      refine jm_iinc (L' := [some (jm_R _), some (jm_R _), some (jm_R _), some (jm_I _), some (jm_I _), some (jm_I _), some (jm_I _)]) d_X4_readCond_116 rfl rfl (Nat.le_of_ble_eq_true rfl) rfl ?_
      refine jm_goto (tgt := 18) d_X4_readCond_119 (by decide) ?_
      exact jm_weak2 h (And.intro rfl (And.intro rfl (And.intro rfl (And.intro rfl (And.intro rfl (And.intro rfl trivial))))))
    · have h := h.2 c7
      refine jm_aloadn d_X4_readCond_109 rfl ?_
      refine jm_iconst (v := 1) d_X4_readCond_110 rfl (jm_okI (by decide) (by decide)) ?_
      refine jm_iconst (v := 0) d_X4_readCond_111 rfl (jm_okI (by decide) (by decide)) ?_
      refine jm_iconst (v := 0) d_X4_readCond_112 rfl (jm_okI (by decide) (by decide)) ?_
      refine jm_invV (n1 := jm_N) (mc := 0) (ms := 0) (av := [jm_I _, jm_I _, jm_I _]) w_X4_put l_X4_85 d_X4_readCond_113 rfl f3 ⟨_, _, rfl⟩ ⟨Nat.le_refl _, Nat.le_refl _⟩ (Nat.le_of_ble_eq_true rfl) rfl ?_
      refine jm_Cl.mono h (fun o m8 h hr _ => ?_)
      obtain rfl := jm_rokV hr
      have h := h rfl
      refine jm_iinc (L' := [some (jm_R _), some (jm_R _), some (jm_R _), some (jm_I _), some (jm_I _), some (jm_I _), some (jm_I _)]) d_X4_readCond_116 rfl rfl (Nat.le_of_ble_eq_true rfl) rfl ?_
      refine jm_goto (tgt := 18) d_X4_readCond_119 (by decide) ?_
      exact jm_weak2 h (And.intro rfl (And.intro rfl (And.intro rfl (And.intro rfl (And.intro rfl (And.intro rfl trivial))))))
  · have h := h.2 c6
    refine jm_iconst (v := 0) d_X4_readCond_102 rfl (jm_okI (by decide) (by decide)) ?_
    exact jm_ret (o := some (jm_I _)) d_X4_readCond_103 rfl ⟨Nat.le_refl _, Nat.le_refl _⟩ (jm_r_Z (by decide)) h rfl
/-! ('CombTable$Sentence', 'readOne', '(LCombTable$Tape;LCombTable$Table;I)Z') -/
theorem d_X4_readOne_0 : decode m_X4_readOne.2.1 0 = .ok (.aload_n 1, 1) := by decide +kernel
theorem d_X4_readOne_1 : decode m_X4_readOne.2.1 1 = .ok (.bipush 40, 2) := by decide +kernel
theorem d_X4_readOne_3 : decode m_X4_readOne.2.1 3 = .ok (.invokevirtual 92, 3) := by decide +kernel
theorem d_X4_readOne_6 : decode m_X4_readOne.2.1 6 = .ok (.istore 4, 2) := by decide +kernel
theorem d_X4_readOne_8 : decode m_X4_readOne.2.1 8 = .ok (.iload 4, 2) := by decide +kernel
theorem d_X4_readOne_10 : decode m_X4_readOne.2.1 10 = .ok (.ifCond .eq 7, 3) := by decide +kernel
theorem d_X4_readOne_13 : decode m_X4_readOne.2.1 13 = .ok (.iconst 0, 1) := by decide +kernel
theorem d_X4_readOne_14 : decode m_X4_readOne.2.1 14 = .ok (.goto 7, 3) := by decide +kernel
theorem d_X4_readOne_17 : decode m_X4_readOne.2.1 17 = .ok (.aload_n 1, 1) := by decide +kernel
theorem d_X4_readOne_18 : decode m_X4_readOne.2.1 18 = .ok (.invokestatic 96, 3) := by decide +kernel
theorem d_X4_readOne_21 : decode m_X4_readOne.2.1 21 = .ok (.istore 5, 2) := by decide +kernel
theorem d_X4_readOne_23 : decode m_X4_readOne.2.1 23 = .ok (.iload 5, 2) := by decide +kernel
theorem d_X4_readOne_25 : decode m_X4_readOne.2.1 25 = .ok (.iconst (-1), 1) := by decide +kernel
theorem d_X4_readOne_26 : decode m_X4_readOne.2.1 26 = .ok (.if_icmp .ne 13, 3) := by decide +kernel
theorem d_X4_readOne_29 : decode m_X4_readOne.2.1 29 = .ok (.aload_n 1, 1) := by decide +kernel
theorem d_X4_readOne_30 : decode m_X4_readOne.2.1 30 = .ok (.iconst 1, 1) := by decide +kernel
theorem d_X4_readOne_31 : decode m_X4_readOne.2.1 31 = .ok (.aload_n 1, 1) := by decide +kernel
theorem d_X4_readOne_32 : decode m_X4_readOne.2.1 32 = .ok (.getfield 100, 3) := by decide +kernel
theorem d_X4_readOne_35 : decode m_X4_readOne.2.1 35 = .ok (.invokevirtual 103, 3) := by decide +kernel
theorem d_X4_readOne_38 : decode m_X4_readOne.2.1 38 = .ok (.ireturn, 1) := by decide +kernel
theorem d_X4_readOne_39 : decode m_X4_readOne.2.1 39 = .ok (.aload_n 0, 1) := by decide +kernel
theorem d_X4_readOne_40 : decode m_X4_readOne.2.1 40 = .ok (.getfield 21, 3) := by decide +kernel
theorem d_X4_readOne_43 : decode m_X4_readOne.2.1 43 = .ok (.bipush 20, 2) := by decide +kernel
theorem d_X4_readOne_45 : decode m_X4_readOne.2.1 45 = .ok (.if_icmp .ge 9, 3) := by decide +kernel
theorem d_X4_readOne_48 : decode m_X4_readOne.2.1 48 = .ok (.iload_n 3, 1) := by decide +kernel
theorem d_X4_readOne_49 : decode m_X4_readOne.2.1 49 = .ok (.bipush 8, 2) := by decide +kernel
theorem d_X4_readOne_51 : decode m_X4_readOne.2.1 51 = .ok (.if_icmp .le 13, 3) := by decide +kernel
theorem d_X4_readOne_54 : decode m_X4_readOne.2.1 54 = .ok (.aload_n 1, 1) := by decide +kernel
theorem d_X4_readOne_55 : decode m_X4_readOne.2.1 55 = .ok (.iconst 4, 1) := by decide +kernel
theorem d_X4_readOne_56 : decode m_X4_readOne.2.1 56 = .ok (.aload_n 1, 1) := by decide +kernel
theorem d_X4_readOne_57 : decode m_X4_readOne.2.1 57 = .ok (.getfield 100, 3) := by decide +kernel
theorem d_X4_readOne_60 : decode m_X4_readOne.2.1 60 = .ok (.invokevirtual 103, 3) := by decide +kernel
theorem d_X4_readOne_63 : decode m_X4_readOne.2.1 63 = .ok (.ireturn, 1) := by decide +kernel
theorem d_X4_readOne_64 : decode m_X4_readOne.2.1 64 = .ok (.aload_n 0, 1) := by decide +kernel
theorem d_X4_readOne_65 : decode m_X4_readOne.2.1 65 = .ok (.dup, 1) := by decide +kernel
theorem d_X4_readOne_66 : decode m_X4_readOne.2.1 66 = .ok (.getfield 21, 3) := by decide +kernel
theorem d_X4_readOne_69 : decode m_X4_readOne.2.1 69 = .ok (.iconst 1, 1) := by decide +kernel
theorem d_X4_readOne_70 : decode m_X4_readOne.2.1 70 = .ok (.iadd, 1) := by decide +kernel
theorem d_X4_readOne_71 : decode m_X4_readOne.2.1 71 = .ok (.putfield 21, 3) := by decide +kernel
theorem d_X4_readOne_74 : decode m_X4_readOne.2.1 74 = .ok (.aload_n 1, 1) := by decide +kernel
theorem d_X4_readOne_75 : decode m_X4_readOne.2.1 75 = .ok (.invokevirtual 89, 3) := by decide +kernel
theorem d_X4_readOne_78 : decode m_X4_readOne.2.1 78 = .ok (.iload 4, 2) := by decide +kernel
theorem d_X4_readOne_80 : decode m_X4_readOne.2.1 80 = .ok (.ifCond .eq 30, 3) := by decide +kernel
theorem d_X4_readOne_83 : decode m_X4_readOne.2.1 83 = .ok (.aload_n 0, 1) := by decide +kernel
theorem d_X4_readOne_84 : decode m_X4_readOne.2.1 84 = .ok (.aload_n 1, 1) := by decide +kernel
theorem d_X4_readOne_85 : decode m_X4_readOne.2.1 85 = .ok (.aload_n 2, 1) := by decide +kernel
theorem d_X4_readOne_86 : decode m_X4_readOne.2.1 86 = .ok (.iload_n 3, 1) := by decide +kernel
theorem d_X4_readOne_87 : decode m_X4_readOne.2.1 87 = .ok (.iconst 1, 1) := by decide +kernel
theorem d_X4_readOne_88 : decode m_X4_readOne.2.1 88 = .ok (.iadd, 1) := by decide +kernel
theorem d_X4_readOne_89 : decode m_X4_readOne.2.1 89 = .ok (.invokevirtual 61, 3) := by decide +kernel
theorem d_X4_readOne_92 : decode m_X4_readOne.2.1 92 = .ok (.ifCond .eq 16, 3) := by decide +kernel
theorem d_X4_readOne_95 : decode m_X4_readOne.2.1 95 = .ok (.aload_n 1, 1) := by decide +kernel
theorem d_X4_readOne_96 : decode m_X4_readOne.2.1 96 = .ok (.bipush 41, 2) := by decide +kernel
theorem d_X4_readOne_98 : decode m_X4_readOne.2.1 98 = .ok (.invokevirtual 107, 3) := by decide +kernel
theorem d_X4_readOne_101 : decode m_X4_readOne.2.1 101 = .ok (.ifCond .eq 7, 3) := by decide +kernel
theorem d_X4_readOne_104 : decode m_X4_readOne.2.1 104 = .ok (.iconst 1, 1) := by decide +kernel
theorem d_X4_readOne_105 : decode m_X4_readOne.2.1 105 = .ok (.goto 4, 3) := by decide +kernel
theorem d_X4_readOne_108 : decode m_X4_readOne.2.1 108 = .ok (.iconst 0, 1) := by decide +kernel
theorem d_X4_readOne_109 : decode m_X4_readOne.2.1 109 = .ok (.ireturn, 1) := by decide +kernel
theorem d_X4_readOne_110 : decode m_X4_readOne.2.1 110 = .ok (.iload 5, 2) := by decide +kernel
theorem d_X4_readOne_112 : decode m_X4_readOne.2.1 112 = .ok (.ifCond .ne 24, 3) := by decide +kernel
theorem d_X4_readOne_115 : decode m_X4_readOne.2.1 115 = .ok (.aload_n 0, 1) := by decide +kernel
theorem d_X4_readOne_116 : decode m_X4_readOne.2.1 116 = .ok (.aload_n 1, 1) := by decide +kernel
theorem d_X4_readOne_117 : decode m_X4_readOne.2.1 117 = .ok (.aload_n 2, 1) := by decide +kernel
theorem d_X4_readOne_118 : decode m_X4_readOne.2.1 118 = .ok (.iload_n 3, 1) := by decide +kernel
theorem d_X4_readOne_119 : decode m_X4_readOne.2.1 119 = .ok (.iconst 1, 1) := by decide +kernel
theorem d_X4_readOne_120 : decode m_X4_readOne.2.1 120 = .ok (.iadd, 1) := by decide +kernel
theorem d_X4_readOne_121 : decode m_X4_readOne.2.1 121 = .ok (.invokevirtual 69, 3) := by decide +kernel
theorem d_X4_readOne_124 : decode m_X4_readOne.2.1 124 = .ok (.istore 6, 2) := by decide +kernel
theorem d_X4_readOne_126 : decode m_X4_readOne.2.1 126 = .ok (.aload_n 0, 1) := by decide +kernel
theorem d_X4_readOne_127 : decode m_X4_readOne.2.1 127 = .ok (.iconst 0, 1) := by decide +kernel
theorem d_X4_readOne_128 : decode m_X4_readOne.2.1 128 = .ok (.iconst 0, 1) := by decide +kernel
theorem d_X4_readOne_129 : decode m_X4_readOne.2.1 129 = .ok (.iconst 0, 1) := by decide +kernel
theorem d_X4_readOne_130 : decode m_X4_readOne.2.1 130 = .ok (.invokevirtual 85, 3) := by decide +kernel
theorem d_X4_readOne_133 : decode m_X4_readOne.2.1 133 = .ok (.iload 6, 2) := by decide +kernel
theorem d_X4_readOne_135 : decode m_X4_readOne.2.1 135 = .ok (.ireturn, 1) := by decide +kernel
theorem d_X4_readOne_136 : decode m_X4_readOne.2.1 136 = .ok (.iload 5, 2) := by decide +kernel
theorem d_X4_readOne_138 : decode m_X4_readOne.2.1 138 = .ok (.iconst 5, 1) := by decide +kernel
theorem d_X4_readOne_139 : decode m_X4_readOne.2.1 139 = .ok (.if_icmp .gt 14, 3) := by decide +kernel
theorem d_X4_readOne_142 : decode m_X4_readOne.2.1 142 = .ok (.aload_n 0, 1) := by decide +kernel
theorem d_X4_readOne_143 : decode m_X4_readOne.2.1 143 = .ok (.aload_n 1, 1) := by decide +kernel
theorem d_X4_readOne_144 : decode m_X4_readOne.2.1 144 = .ok (.aload_n 2, 1) := by decide +kernel
theorem d_X4_readOne_145 : decode m_X4_readOne.2.1 145 = .ok (.iload 5, 2) := by decide +kernel
theorem d_X4_readOne_147 : decode m_X4_readOne.2.1 147 = .ok (.invokevirtual 110, 3) := by decide +kernel
theorem d_X4_readOne_150 : decode m_X4_readOne.2.1 150 = .ok (.goto 10, 3) := by decide +kernel
theorem d_X4_readOne_153 : decode m_X4_readOne.2.1 153 = .ok (.aload_n 0, 1) := by decide +kernel
theorem d_X4_readOne_154 : decode m_X4_readOne.2.1 154 = .ok (.aload_n 1, 1) := by decide +kernel
theorem d_X4_readOne_155 : decode m_X4_readOne.2.1 155 = .ok (.iload 5, 2) := by decide +kernel
theorem d_X4_readOne_157 : decode m_X4_readOne.2.1 157 = .ok (.invokevirtual 113, 3) := by decide +kernel
theorem d_X4_readOne_160 : decode m_X4_readOne.2.1 160 = .ok (.ireturn, 1) := by decide +kernel
set_option maxRecDepth 20000 in
theorem e_X4_readOne {E : jm_E} {d : Nat} {μ : jm_M} {Q : Option jm_V → jm_M → Prop} {v0 v2 v3 : Int} (h : (∀ v ∈ ([jm_R v0, jm_R 1, jm_R v2, jm_I v3] : List jm_V), jm_ok v) →
  jc E m_X7_isSign d [jm_R 1, jm_I 40] μ (fun (o : Option jm_V) (m1 : jm_M) => ∀ r2 : Int, o = some (jm_I r2) → (r2 = 0 ∨ r2 = 1) →
  ((r2 = 0 →
    jc E m_X4_stepHere d [jm_R 1] m1 (fun (o : Option jm_V) (m5 : jm_M) => ∀ r6 : Int, o = some (jm_I r6) →
    ((r6 ≠ ((-1)) →
      (jm_is jm_N v0 1 4) ∧
      ((20 ≤ m5 v0 0 →
        jc E m_X7_fails d [jm_R 1, jm_I 4, jm_I (m5 1 5)] m5 (fun (o : Option jm_V) (m10 : jm_M) => ∀ r11 : Int, o = some (jm_I r11) → (r11 = 0 ∨ r11 = 1) →
        Q (some (jm_I r11)) m10)) ∧
       (¬ (20 ≤ m5 v0 0) →
        ((v3 ≤ 8 →
          jc E m_X7_advance d [jm_R 1] (jm_up m5 v0 0 (jm_wr ((m5 v0 0) + 1))) (fun (o : Option jm_V) (m14 : jm_M) => o = none →
          ((r6 ≠ 0 →
            ((5 < r6 →
              jc E m_X4_readMeasured d [jm_R v0, jm_R 1, jm_I r6] m14 (fun (o : Option jm_V) (m18 : jm_M) => ∀ r19 : Int, o = some (jm_I r19) → (r19 = 0 ∨ r19 = 1) →
              Q (some (jm_I r19)) m18)) ∧
             (¬ (5 < r6) →
              jc E m_X4_readNamed d [jm_R v0, jm_R 1, jm_R v2, jm_I r6] m14 (fun (o : Option jm_V) (m21 : jm_M) => ∀ r22 : Int, o = some (jm_I r22) → (r22 = 0 ∨ r22 = 1) →
              Q (some (jm_I r22)) m21)))) ∧
           (¬ (r6 ≠ 0) →
            jc E m_X4_readOne d [jm_R v0, jm_R 1, jm_R v2, jm_I (jm_wr (v3 + 1))] m14 (fun (o : Option jm_V) (m24 : jm_M) => ∀ r25 : Int, o = some (jm_I r25) → (r25 = 0 ∨ r25 = 1) →
            jc E m_X4_put d [jm_R v0, jm_I 0, jm_I 0, jm_I 0] m24 (fun (o : Option jm_V) (m27 : jm_M) => o = none →
            Q (some (jm_I r25)) m27)))))) ∧
         (¬ (v3 ≤ 8) →
          jc E m_X7_fails d [jm_R 1, jm_I 4, jm_I (m5 1 5)] m5 (fun (o : Option jm_V) (m28 : jm_M) => ∀ r29 : Int, o = some (jm_I r29) → (r29 = 0 ∨ r29 = 1) →
          Q (some (jm_I r29)) m28)))))) ∧
     (¬ (r6 ≠ ((-1))) →
      jc E m_X7_fails d [jm_R 1, jm_I 1, jm_I (m5 1 5)] m5 (fun (o : Option jm_V) (m31 : jm_M) => ∀ r32 : Int, o = some (jm_I r32) → (r32 = 0 ∨ r32 = 1) →
      Q (some (jm_I r32)) m31))))) ∧
   (¬ (r2 = 0) →
    (jm_is jm_N v0 1 4) ∧
    ((20 ≤ m1 v0 0 →
      jc E m_X7_fails d [jm_R 1, jm_I 4, jm_I (m1 1 5)] m1 (fun (o : Option jm_V) (m37 : jm_M) => ∀ r38 : Int, o = some (jm_I r38) → (r38 = 0 ∨ r38 = 1) →
      Q (some (jm_I r38)) m37)) ∧
     (¬ (20 ≤ m1 v0 0) →
      ((v3 ≤ 8 →
        jc E m_X7_advance d [jm_R 1] (jm_up m1 v0 0 (jm_wr ((m1 v0 0) + 1))) (fun (o : Option jm_V) (m41 : jm_M) => o = none →
        jc E m_X4_readCond d [jm_R v0, jm_R 1, jm_R v2, jm_I (jm_wr (v3 + 1))] m41 (fun (o : Option jm_V) (m43 : jm_M) => ∀ r44 : Int, o = some (jm_I r44) → (r44 = 0 ∨ r44 = 1) →
        ((r44 = 0 →
          Q (some (jm_I 0)) m43) ∧
         (¬ (r44 = 0) →
          jc E m_X7_takes d [jm_R 1, jm_I 41] m43 (fun (o : Option jm_V) (m47 : jm_M) => ∀ r48 : Int, o = some (jm_I r48) → (r48 = 0 ∨ r48 = 1) →
          ((r48 = 0 →
            Q (some (jm_I 0)) m47) ∧
           (¬ (r48 = 0) →
            Q (some (jm_I 1)) m47)))))))) ∧
       (¬ (v3 ≤ 8) →
        jc E m_X7_fails d [jm_R 1, jm_I 4, jm_I (m1 1 5)] m1 (fun (o : Option jm_V) (m51 : jm_M) => ∀ r52 : Int, o = some (jm_I r52) → (r52 = 0 ∨ r52 = 1) →
        Q (some (jm_I r52)) m51))))))))) : jc E m_X4_readOne (d + 1) [jm_R v0, jm_R 1, jm_R v2, jm_I v3] μ Q := by
  refine jm_Cl.of2 (by decide +kernel) (L0 := [some (jm_R v0), some (jm_R 1), some (jm_R v2), some (jm_I v3), none, none, none]) rfl (Nat.le_of_ble_eq_true rfl) (fun hok => ?_)
  have h := h hok
  refine jm_aloadn d_X4_readOne_0 rfl ?_
  refine jm_bipush (v := 40) d_X4_readOne_1 rfl (jm_okI (by decide) (by decide)) ?_
  refine jm_invV (n1 := jm_N) (mc := 0) (ms := 0) (av := [jm_I _]) w_X7_isSign l_X4_92 d_X4_readOne_3 rfl is_1 ⟨_, _, rfl⟩ ⟨Nat.le_refl _, Nat.le_refl _⟩ (Nat.le_of_ble_eq_true rfl) rfl ?_
  refine jm_Cl.mono h (fun o m1 h hr _ => ?_)
  obtain ⟨r2, rfl, z3⟩ := jm_rokZ hr
  have h := h _ rfl z3
  refine jm_istore (L' := [some (jm_R _), some (jm_R _), some (jm_R _), some (jm_I _), some (jm_I _), none, none]) d_X4_readOne_6 (Nat.le_of_ble_eq_true rfl) rfl ?_
  refine jm_iload d_X4_readOne_8 rfl ?_
  refine jm_if_eq (tgt := 17) d_X4_readOne_10 (by decide) (fun c4 => ?_) (fun c4 => ?_)
  · have h := h.1 c4
    refine jm_aloadn d_X4_readOne_17 rfl ?_
    refine jm_invS (n1 := jm_N) (mc := 0) (ms := 0) (av := [jm_R _]) w_X4_stepHere l_X4_96 d_X4_readOne_18 rfl ⟨Nat.le_refl _, Nat.le_refl _⟩ (Nat.le_of_ble_eq_true rfl) rfl ?_
    refine jm_Cl.mono h (fun o m5 h hr _ => ?_)
    obtain ⟨r6, rfl⟩ := jm_rokI hr
    have h := h _ rfl
    refine jm_istore (L' := [some (jm_R _), some (jm_R _), some (jm_R _), some (jm_I _), some (jm_I _), some (jm_I _), none]) d_X4_readOne_21 (Nat.le_of_ble_eq_true rfl) rfl ?_
    refine jm_iload d_X4_readOne_23 rfl ?_
    refine jm_iconst (v := (-1)) d_X4_readOne_25 rfl (jm_okI (by decide) (by decide)) ?_
    refine jm_icmp_ne (tgt := 39) d_X4_readOne_26 (by decide) (fun c7 => ?_) (fun c7 => ?_)
    · have h := h.1 c7
      refine jm_aloadn d_X4_readOne_39 rfl ?_
      obtain ⟨f8, h⟩ := h
      refine jm_getI (k := 0) (ki := 0) cf_X4 (Nat.le_of_ble_eq_true rfl) f_X4_21 d_X4_readOne_40 rfl rfl f8 rfl ?_
      refine jm_bipush (v := 20) d_X4_readOne_43 rfl (jm_okI (by decide) (by decide)) ?_
      refine jm_icmp_ge (tgt := 54) d_X4_readOne_45 (by decide) (fun c9 => ?_) (fun c9 => ?_)
      · have h := h.1 c9
        refine jm_aloadn d_X4_readOne_54 rfl ?_
        refine jm_iconst (v := 4) d_X4_readOne_55 rfl (jm_okI (by decide) (by decide)) ?_
        refine jm_aloadn d_X4_readOne_56 rfl ?_
        refine jm_getI (k := 5) (ki := 5) cf_X7 (Nat.le_of_ble_eq_true rfl) f_X4_100 d_X4_readOne_57 rfl rfl is_1 rfl ?_
        refine jm_invV (n1 := jm_N) (mc := 0) (ms := 0) (av := [jm_I _, jm_I _]) w_X7_fails l_X4_103 d_X4_readOne_60 rfl is_1 ⟨_, _, rfl⟩ ⟨Nat.le_refl _, Nat.le_refl _⟩ (Nat.le_of_ble_eq_true rfl) rfl ?_
        refine jm_Cl.mono h (fun o m10 h hr _ => ?_)
        obtain ⟨r11, rfl, z12⟩ := jm_rokZ hr
        have h := h _ rfl z12
        exact jm_ret (o := some (jm_I _)) d_X4_readOne_63 rfl ⟨Nat.le_refl _, Nat.le_refl _⟩ (jm_r_Z z12) h rfl
      · have h := h.2 c9
        refine jm_iloadn d_X4_readOne_48 rfl ?_
        refine jm_bipush (v := 8) d_X4_readOne_49 rfl (jm_okI (by decide) (by decide)) ?_
        refine jm_icmp_le (tgt := 64) d_X4_readOne_51 (by decide) (fun c13 => ?_) (fun c13 => ?_)
        · have h := h.1 c13
          refine jm_aloadn d_X4_readOne_64 rfl ?_
          refine jm_dup rfl d_X4_readOne_65 ?_
          refine jm_getI (k := 0) (ki := 0) cf_X4 (Nat.le_of_ble_eq_true rfl) f_X4_21 d_X4_readOne_66 rfl rfl f8 rfl ?_
          refine jm_iconst (v := 1) d_X4_readOne_69 rfl (jm_okI (by decide) (by decide)) ?_
          refine jm_iadd d_X4_readOne_70 ?_
          refine jm_putI (k := 0) (ki := 0) cf_X4 (Nat.le_of_ble_eq_true rfl) f_X4_21 d_X4_readOne_71 (fun z => absurd z (by decide)) rfl rfl rfl (fun _ => rfl) f8 ?_
          refine jm_aloadn d_X4_readOne_74 rfl ?_
          refine jm_invV (n1 := jm_N) (mc := 0) (ms := 0) (av := []) w_X7_advance l_X4_89 d_X4_readOne_75 rfl is_1 ⟨_, _, rfl⟩ ⟨Nat.le_refl _, Nat.le_refl _⟩ (Nat.le_of_ble_eq_true rfl) rfl ?_
          refine jm_Cl.mono h (fun o m14 h hr _ => ?_)
          obtain rfl := jm_rokV hr
          have h := h rfl
          refine jm_iload d_X4_readOne_78 rfl ?_
          refine jm_if_eq (tgt := 110) d_X4_readOne_80 (by decide) (fun _ => ?_) (fun c15 => absurd c4 c15)
          refine jm_iload d_X4_readOne_110 rfl ?_
          refine jm_if_ne (tgt := 136) d_X4_readOne_112 (by decide) (fun c16 => ?_) (fun c16 => ?_)
          · have h := h.1 c16
            refine jm_iload d_X4_readOne_136 rfl ?_
            refine jm_iconst (v := 5) d_X4_readOne_138 rfl (jm_okI (by decide) (by decide)) ?_
            refine jm_icmp_gt (tgt := 153) d_X4_readOne_139 (by decide) (fun c17 => ?_) (fun c17 => ?_)
            · have h := h.1 c17
              refine jm_aloadn d_X4_readOne_153 rfl ?_
              refine jm_aloadn d_X4_readOne_154 rfl ?_
              refine jm_iload d_X4_readOne_155 rfl ?_
              refine jm_invV (n1 := jm_N) (mc := 0) (ms := 0) (av := [jm_R _, jm_I _]) w_X4_readMeasured l_X4_113 d_X4_readOne_157 rfl f8 ⟨_, _, rfl⟩ ⟨Nat.le_refl _, Nat.le_refl _⟩ (Nat.le_of_ble_eq_true rfl) rfl ?_
              refine jm_Cl.mono h (fun o m18 h hr _ => ?_)
              obtain ⟨r19, rfl, z20⟩ := jm_rokZ hr
              have h := h _ rfl z20
              exact jm_ret (o := some (jm_I _)) d_X4_readOne_160 rfl ⟨Nat.le_refl _, Nat.le_refl _⟩ (jm_r_Z z20) h rfl
            · have h := h.2 c17
              refine jm_aloadn d_X4_readOne_142 rfl ?_
              refine jm_aloadn d_X4_readOne_143 rfl ?_
              refine jm_aloadn d_X4_readOne_144 rfl ?_
              refine jm_iload d_X4_readOne_145 rfl ?_
              refine jm_invV (n1 := jm_N) (mc := 0) (ms := 0) (av := [jm_R _, jm_R _, jm_I _]) w_X4_readNamed l_X4_110 d_X4_readOne_147 rfl f8 ⟨_, _, rfl⟩ ⟨Nat.le_refl _, Nat.le_refl _⟩ (Nat.le_of_ble_eq_true rfl) rfl ?_
              refine jm_Cl.mono h (fun o m21 h hr _ => ?_)
              obtain ⟨r22, rfl, z23⟩ := jm_rokZ hr
              have h := h _ rfl z23
              refine jm_goto (tgt := 160) d_X4_readOne_150 (by decide) ?_
              exact jm_ret (o := some (jm_I _)) d_X4_readOne_160 rfl ⟨Nat.le_refl _, Nat.le_refl _⟩ (jm_r_Z z23) h rfl
          · have h := h.2 c16
            refine jm_aloadn d_X4_readOne_115 rfl ?_
            refine jm_aloadn d_X4_readOne_116 rfl ?_
            refine jm_aloadn d_X4_readOne_117 rfl ?_
            refine jm_iloadn d_X4_readOne_118 rfl ?_
            refine jm_iconst (v := 1) d_X4_readOne_119 rfl (jm_okI (by decide) (by decide)) ?_
            refine jm_iadd d_X4_readOne_120 ?_
            refine jm_invV (n1 := jm_N) (mc := 0) (ms := 0) (av := [jm_R _, jm_R _, jm_I _]) w_X4_readOne l_X4_69 d_X4_readOne_121 rfl f8 ⟨_, _, rfl⟩ ⟨Nat.le_refl _, Nat.le_refl _⟩ (Nat.le_of_ble_eq_true rfl) rfl ?_
            refine jm_Cl.mono h (fun o m24 h hr _ => ?_)
            obtain ⟨r25, rfl, z26⟩ := jm_rokZ hr
            have h := h _ rfl z26
            refine jm_istore (L' := [some (jm_R _), some (jm_R _), some (jm_R _), some (jm_I _), some (jm_I _), some (jm_I _), some (jm_I _)]) d_X4_readOne_124 (Nat.le_of_ble_eq_true rfl) rfl ?_
            refine jm_aloadn d_X4_readOne_126 rfl ?_
            refine jm_iconst (v := 0) d_X4_readOne_127 rfl (jm_okI (by decide) (by decide)) ?_
            refine jm_iconst (v := 0) d_X4_readOne_128 rfl (jm_okI (by decide) (by decide)) ?_
            refine jm_iconst (v := 0) d_X4_readOne_129 rfl (jm_okI (by decide) (by decide)) ?_
            refine jm_invV (n1 := jm_N) (mc := 0) (ms := 0) (av := [jm_I _, jm_I _, jm_I _]) w_X4_put l_X4_85 d_X4_readOne_130 rfl f8 ⟨_, _, rfl⟩ ⟨Nat.le_refl _, Nat.le_refl _⟩ (Nat.le_of_ble_eq_true rfl) rfl ?_
            refine jm_Cl.mono h (fun o m27 h hr _ => ?_)
            obtain rfl := jm_rokV hr
            have h := h rfl
            refine jm_iload d_X4_readOne_133 rfl ?_
            exact jm_ret (o := some (jm_I _)) d_X4_readOne_135 rfl ⟨Nat.le_refl _, Nat.le_refl _⟩ (jm_r_Z z26) h rfl
        · have h := h.2 c13
          refine jm_aloadn d_X4_readOne_54 rfl ?_
          refine jm_iconst (v := 4) d_X4_readOne_55 rfl (jm_okI (by decide) (by decide)) ?_
          refine jm_aloadn d_X4_readOne_56 rfl ?_
          refine jm_getI (k := 5) (ki := 5) cf_X7 (Nat.le_of_ble_eq_true rfl) f_X4_100 d_X4_readOne_57 rfl rfl is_1 rfl ?_
          refine jm_invV (n1 := jm_N) (mc := 0) (ms := 0) (av := [jm_I _, jm_I _]) w_X7_fails l_X4_103 d_X4_readOne_60 rfl is_1 ⟨_, _, rfl⟩ ⟨Nat.le_refl _, Nat.le_refl _⟩ (Nat.le_of_ble_eq_true rfl) rfl ?_
          refine jm_Cl.mono h (fun o m28 h hr _ => ?_)
          obtain ⟨r29, rfl, z30⟩ := jm_rokZ hr
          have h := h _ rfl z30
          exact jm_ret (o := some (jm_I _)) d_X4_readOne_63 rfl ⟨Nat.le_refl _, Nat.le_refl _⟩ (jm_r_Z z30) h rfl
    · have h := h.2 c7
      refine jm_aloadn d_X4_readOne_29 rfl ?_
      refine jm_iconst (v := 1) d_X4_readOne_30 rfl (jm_okI (by decide) (by decide)) ?_
      refine jm_aloadn d_X4_readOne_31 rfl ?_
      refine jm_getI (k := 5) (ki := 5) cf_X7 (Nat.le_of_ble_eq_true rfl) f_X4_100 d_X4_readOne_32 rfl rfl is_1 rfl ?_
      refine jm_invV (n1 := jm_N) (mc := 0) (ms := 0) (av := [jm_I _, jm_I _]) w_X7_fails l_X4_103 d_X4_readOne_35 rfl is_1 ⟨_, _, rfl⟩ ⟨Nat.le_refl _, Nat.le_refl _⟩ (Nat.le_of_ble_eq_true rfl) rfl ?_
      refine jm_Cl.mono h (fun o m31 h hr _ => ?_)
      obtain ⟨r32, rfl, z33⟩ := jm_rokZ hr
      have h := h _ rfl z33
      exact jm_ret (o := some (jm_I _)) d_X4_readOne_38 rfl ⟨Nat.le_refl _, Nat.le_refl _⟩ (jm_r_Z z33) h rfl
  · have h := h.2 c4
    refine jm_iconst (v := 0) d_X4_readOne_13 rfl (jm_okI (by decide) (by decide)) ?_
    refine jm_goto (tgt := 21) d_X4_readOne_14 (by decide) ?_
    refine jm_istore (L' := [some (jm_R _), some (jm_R _), some (jm_R _), some (jm_I _), some (jm_I _), some (jm_I _), none]) d_X4_readOne_21 (Nat.le_of_ble_eq_true rfl) rfl ?_
    refine jm_iload d_X4_readOne_23 rfl ?_
    refine jm_iconst (v := (-1)) d_X4_readOne_25 rfl (jm_okI (by decide) (by decide)) ?_
    refine jm_icmp_ne (tgt := 39) d_X4_readOne_26 (by decide) (fun _ => ?_) (fun c34 => absurd (by decide) c34)
    refine jm_aloadn d_X4_readOne_39 rfl ?_
    obtain ⟨f35, h⟩ := h
    refine jm_getI (k := 0) (ki := 0) cf_X4 (Nat.le_of_ble_eq_true rfl) f_X4_21 d_X4_readOne_40 rfl rfl f35 rfl ?_
    refine jm_bipush (v := 20) d_X4_readOne_43 rfl (jm_okI (by decide) (by decide)) ?_
    refine jm_icmp_ge (tgt := 54) d_X4_readOne_45 (by decide) (fun c36 => ?_) (fun c36 => ?_)
    · have h := h.1 c36
      refine jm_aloadn d_X4_readOne_54 rfl ?_
      refine jm_iconst (v := 4) d_X4_readOne_55 rfl (jm_okI (by decide) (by decide)) ?_
      refine jm_aloadn d_X4_readOne_56 rfl ?_
      refine jm_getI (k := 5) (ki := 5) cf_X7 (Nat.le_of_ble_eq_true rfl) f_X4_100 d_X4_readOne_57 rfl rfl is_1 rfl ?_
      refine jm_invV (n1 := jm_N) (mc := 0) (ms := 0) (av := [jm_I _, jm_I _]) w_X7_fails l_X4_103 d_X4_readOne_60 rfl is_1 ⟨_, _, rfl⟩ ⟨Nat.le_refl _, Nat.le_refl _⟩ (Nat.le_of_ble_eq_true rfl) rfl ?_
      refine jm_Cl.mono h (fun o m37 h hr _ => ?_)
      obtain ⟨r38, rfl, z39⟩ := jm_rokZ hr
      have h := h _ rfl z39
      exact jm_ret (o := some (jm_I _)) d_X4_readOne_63 rfl ⟨Nat.le_refl _, Nat.le_refl _⟩ (jm_r_Z z39) h rfl
    · have h := h.2 c36
      refine jm_iloadn d_X4_readOne_48 rfl ?_
      refine jm_bipush (v := 8) d_X4_readOne_49 rfl (jm_okI (by decide) (by decide)) ?_
      refine jm_icmp_le (tgt := 64) d_X4_readOne_51 (by decide) (fun c40 => ?_) (fun c40 => ?_)
      · have h := h.1 c40
        refine jm_aloadn d_X4_readOne_64 rfl ?_
        refine jm_dup rfl d_X4_readOne_65 ?_
        refine jm_getI (k := 0) (ki := 0) cf_X4 (Nat.le_of_ble_eq_true rfl) f_X4_21 d_X4_readOne_66 rfl rfl f35 rfl ?_
        refine jm_iconst (v := 1) d_X4_readOne_69 rfl (jm_okI (by decide) (by decide)) ?_
        refine jm_iadd d_X4_readOne_70 ?_
        refine jm_putI (k := 0) (ki := 0) cf_X4 (Nat.le_of_ble_eq_true rfl) f_X4_21 d_X4_readOne_71 (fun z => absurd z (by decide)) rfl rfl rfl (fun _ => rfl) f35 ?_
        refine jm_aloadn d_X4_readOne_74 rfl ?_
        refine jm_invV (n1 := jm_N) (mc := 0) (ms := 0) (av := []) w_X7_advance l_X4_89 d_X4_readOne_75 rfl is_1 ⟨_, _, rfl⟩ ⟨Nat.le_refl _, Nat.le_refl _⟩ (Nat.le_of_ble_eq_true rfl) rfl ?_
        refine jm_Cl.mono h (fun o m41 h hr _ => ?_)
        obtain rfl := jm_rokV hr
        have h := h rfl
        refine jm_iload d_X4_readOne_78 rfl ?_
        refine jm_if_eq (tgt := 110) d_X4_readOne_80 (by decide) (fun c42 => absurd c42 c4) (fun _ => ?_)
        refine jm_aloadn d_X4_readOne_83 rfl ?_
        refine jm_aloadn d_X4_readOne_84 rfl ?_
        refine jm_aloadn d_X4_readOne_85 rfl ?_
        refine jm_iloadn d_X4_readOne_86 rfl ?_
        refine jm_iconst (v := 1) d_X4_readOne_87 rfl (jm_okI (by decide) (by decide)) ?_
        refine jm_iadd d_X4_readOne_88 ?_
        refine jm_invV (n1 := jm_N) (mc := 0) (ms := 0) (av := [jm_R _, jm_R _, jm_I _]) w_X4_readCond l_X4_61 d_X4_readOne_89 rfl f35 ⟨_, _, rfl⟩ ⟨Nat.le_refl _, Nat.le_refl _⟩ (Nat.le_of_ble_eq_true rfl) rfl ?_
        refine jm_Cl.mono h (fun o m43 h hr _ => ?_)
        obtain ⟨r44, rfl, z45⟩ := jm_rokZ hr
        have h := h _ rfl z45
        refine jm_if_eq (tgt := 108) d_X4_readOne_92 (by decide) (fun c46 => ?_) (fun c46 => ?_)
        · have h := h.1 c46
          refine jm_iconst (v := 0) d_X4_readOne_108 rfl (jm_okI (by decide) (by decide)) ?_
          exact jm_ret (o := some (jm_I _)) d_X4_readOne_109 rfl ⟨Nat.le_refl _, Nat.le_refl _⟩ (jm_r_Z (by decide)) h rfl
        · have h := h.2 c46
          refine jm_aloadn d_X4_readOne_95 rfl ?_
          refine jm_bipush (v := 41) d_X4_readOne_96 rfl (jm_okI (by decide) (by decide)) ?_
          refine jm_invV (n1 := jm_N) (mc := 0) (ms := 0) (av := [jm_I _]) w_X7_takes l_X4_107 d_X4_readOne_98 rfl is_1 ⟨_, _, rfl⟩ ⟨Nat.le_refl _, Nat.le_refl _⟩ (Nat.le_of_ble_eq_true rfl) rfl ?_
          refine jm_Cl.mono h (fun o m47 h hr _ => ?_)
          obtain ⟨r48, rfl, z49⟩ := jm_rokZ hr
          have h := h _ rfl z49
          refine jm_if_eq (tgt := 108) d_X4_readOne_101 (by decide) (fun c50 => ?_) (fun c50 => ?_)
          · have h := h.1 c50
            refine jm_iconst (v := 0) d_X4_readOne_108 rfl (jm_okI (by decide) (by decide)) ?_
            exact jm_ret (o := some (jm_I _)) d_X4_readOne_109 rfl ⟨Nat.le_refl _, Nat.le_refl _⟩ (jm_r_Z (by decide)) h rfl
          · have h := h.2 c50
            refine jm_iconst (v := 1) d_X4_readOne_104 rfl (jm_okI (by decide) (by decide)) ?_
            refine jm_goto (tgt := 109) d_X4_readOne_105 (by decide) ?_
            exact jm_ret (o := some (jm_I _)) d_X4_readOne_109 rfl ⟨Nat.le_refl _, Nat.le_refl _⟩ (jm_r_Z (by decide)) h rfl
      · have h := h.2 c40
        refine jm_aloadn d_X4_readOne_54 rfl ?_
        refine jm_iconst (v := 4) d_X4_readOne_55 rfl (jm_okI (by decide) (by decide)) ?_
        refine jm_aloadn d_X4_readOne_56 rfl ?_
        refine jm_getI (k := 5) (ki := 5) cf_X7 (Nat.le_of_ble_eq_true rfl) f_X4_100 d_X4_readOne_57 rfl rfl is_1 rfl ?_
        refine jm_invV (n1 := jm_N) (mc := 0) (ms := 0) (av := [jm_I _, jm_I _]) w_X7_fails l_X4_103 d_X4_readOne_60 rfl is_1 ⟨_, _, rfl⟩ ⟨Nat.le_refl _, Nat.le_refl _⟩ (Nat.le_of_ble_eq_true rfl) rfl ?_
        refine jm_Cl.mono h (fun o m51 h hr _ => ?_)
        obtain ⟨r52, rfl, z53⟩ := jm_rokZ hr
        have h := h _ rfl z53
        exact jm_ret (o := some (jm_I _)) d_X4_readOne_63 rfl ⟨Nat.le_refl _, Nat.le_refl _⟩ (jm_r_Z z53) h rfl
/-! ('CombTable$Sentence', 'stepHere', '(LCombTable$Tape;)I') -/
theorem d_X4_stepHere_0 : decode m_X4_stepHere.2.1 0 = .ok (.aload_n 0, 1) := by decide +kernel
theorem d_X4_stepHere_1 : decode m_X4_stepHere.2.1 1 = .ok (.getstatic 117, 3) := by decide +kernel
theorem d_X4_stepHere_4 : decode m_X4_stepHere.2.1 4 = .ok (.invokevirtual 78, 3) := by decide +kernel
theorem d_X4_stepHere_7 : decode m_X4_stepHere.2.1 7 = .ok (.ifCond .eq 5, 3) := by decide +kernel
theorem d_X4_stepHere_10 : decode m_X4_stepHere.2.1 10 = .ok (.iconst 0, 1) := by decide +kernel
theorem d_X4_stepHere_11 : decode m_X4_stepHere.2.1 11 = .ok (.ireturn, 1) := by decide +kernel
theorem d_X4_stepHere_12 : decode m_X4_stepHere.2.1 12 = .ok (.aload_n 0, 1) := by decide +kernel
theorem d_X4_stepHere_13 : decode m_X4_stepHere.2.1 13 = .ok (.getstatic 120, 3) := by decide +kernel
theorem d_X4_stepHere_16 : decode m_X4_stepHere.2.1 16 = .ok (.invokevirtual 78, 3) := by decide +kernel
theorem d_X4_stepHere_19 : decode m_X4_stepHere.2.1 19 = .ok (.ifCond .eq 5, 3) := by decide +kernel
theorem d_X4_stepHere_22 : decode m_X4_stepHere.2.1 22 = .ok (.iconst 3, 1) := by decide +kernel
theorem d_X4_stepHere_23 : decode m_X4_stepHere.2.1 23 = .ok (.ireturn, 1) := by decide +kernel
theorem d_X4_stepHere_24 : decode m_X4_stepHere.2.1 24 = .ok (.aload_n 0, 1) := by decide +kernel
theorem d_X4_stepHere_25 : decode m_X4_stepHere.2.1 25 = .ok (.getstatic 123, 3) := by decide +kernel
theorem d_X4_stepHere_28 : decode m_X4_stepHere.2.1 28 = .ok (.invokevirtual 78, 3) := by decide +kernel
theorem d_X4_stepHere_31 : decode m_X4_stepHere.2.1 31 = .ok (.ifCond .eq 5, 3) := by decide +kernel
theorem d_X4_stepHere_34 : decode m_X4_stepHere.2.1 34 = .ok (.iconst 4, 1) := by decide +kernel
theorem d_X4_stepHere_35 : decode m_X4_stepHere.2.1 35 = .ok (.ireturn, 1) := by decide +kernel
theorem d_X4_stepHere_36 : decode m_X4_stepHere.2.1 36 = .ok (.aload_n 0, 1) := by decide +kernel
theorem d_X4_stepHere_37 : decode m_X4_stepHere.2.1 37 = .ok (.getstatic 126, 3) := by decide +kernel
theorem d_X4_stepHere_40 : decode m_X4_stepHere.2.1 40 = .ok (.invokevirtual 78, 3) := by decide +kernel
theorem d_X4_stepHere_43 : decode m_X4_stepHere.2.1 43 = .ok (.ifCond .eq 5, 3) := by decide +kernel
theorem d_X4_stepHere_46 : decode m_X4_stepHere.2.1 46 = .ok (.iconst 5, 1) := by decide +kernel
theorem d_X4_stepHere_47 : decode m_X4_stepHere.2.1 47 = .ok (.ireturn, 1) := by decide +kernel
theorem d_X4_stepHere_48 : decode m_X4_stepHere.2.1 48 = .ok (.aload_n 0, 1) := by decide +kernel
theorem d_X4_stepHere_49 : decode m_X4_stepHere.2.1 49 = .ok (.getstatic 129, 3) := by decide +kernel
theorem d_X4_stepHere_52 : decode m_X4_stepHere.2.1 52 = .ok (.invokevirtual 78, 3) := by decide +kernel
theorem d_X4_stepHere_55 : decode m_X4_stepHere.2.1 55 = .ok (.ifCond .eq 6, 3) := by decide +kernel
theorem d_X4_stepHere_58 : decode m_X4_stepHere.2.1 58 = .ok (.bipush 6, 2) := by decide +kernel
theorem d_X4_stepHere_60 : decode m_X4_stepHere.2.1 60 = .ok (.ireturn, 1) := by decide +kernel
theorem d_X4_stepHere_61 : decode m_X4_stepHere.2.1 61 = .ok (.aload_n 0, 1) := by decide +kernel
theorem d_X4_stepHere_62 : decode m_X4_stepHere.2.1 62 = .ok (.getstatic 132, 3) := by decide +kernel
theorem d_X4_stepHere_65 : decode m_X4_stepHere.2.1 65 = .ok (.invokevirtual 78, 3) := by decide +kernel
theorem d_X4_stepHere_68 : decode m_X4_stepHere.2.1 68 = .ok (.ifCond .eq 6, 3) := by decide +kernel
theorem d_X4_stepHere_71 : decode m_X4_stepHere.2.1 71 = .ok (.bipush 7, 2) := by decide +kernel
theorem d_X4_stepHere_73 : decode m_X4_stepHere.2.1 73 = .ok (.ireturn, 1) := by decide +kernel
theorem d_X4_stepHere_74 : decode m_X4_stepHere.2.1 74 = .ok (.aload_n 0, 1) := by decide +kernel
theorem d_X4_stepHere_75 : decode m_X4_stepHere.2.1 75 = .ok (.getstatic 135, 3) := by decide +kernel
theorem d_X4_stepHere_78 : decode m_X4_stepHere.2.1 78 = .ok (.invokevirtual 78, 3) := by decide +kernel
theorem d_X4_stepHere_81 : decode m_X4_stepHere.2.1 81 = .ok (.ifCond .eq 6, 3) := by decide +kernel
theorem d_X4_stepHere_84 : decode m_X4_stepHere.2.1 84 = .ok (.bipush 8, 2) := by decide +kernel
theorem d_X4_stepHere_86 : decode m_X4_stepHere.2.1 86 = .ok (.ireturn, 1) := by decide +kernel
theorem d_X4_stepHere_87 : decode m_X4_stepHere.2.1 87 = .ok (.aload_n 0, 1) := by decide +kernel
theorem d_X4_stepHere_88 : decode m_X4_stepHere.2.1 88 = .ok (.getstatic 138, 3) := by decide +kernel
theorem d_X4_stepHere_91 : decode m_X4_stepHere.2.1 91 = .ok (.invokevirtual 78, 3) := by decide +kernel
theorem d_X4_stepHere_94 : decode m_X4_stepHere.2.1 94 = .ok (.ifCond .eq 8, 3) := by decide +kernel
theorem d_X4_stepHere_97 : decode m_X4_stepHere.2.1 97 = .ok (.bipush 9, 2) := by decide +kernel
theorem d_X4_stepHere_99 : decode m_X4_stepHere.2.1 99 = .ok (.goto 4, 3) := by decide +kernel
theorem d_X4_stepHere_102 : decode m_X4_stepHere.2.1 102 = .ok (.iconst (-1), 1) := by decide +kernel
theorem d_X4_stepHere_103 : decode m_X4_stepHere.2.1 103 = .ok (.ireturn, 1) := by decide +kernel
set_option maxRecDepth 20000 in
theorem e_X4_stepHere {E : jm_E} {d : Nat} {μ : jm_M} {Q : Option jm_V → jm_M → Prop}  (h : (∀ v ∈ ([jm_R 1] : List jm_V), jm_ok v) →
  jc E m_X7_isTerm d [jm_R 1, jm_R ((-29))] μ (fun (o : Option jm_V) (m1 : jm_M) => ∀ r2 : Int, o = some (jm_I r2) → (r2 = 0 ∨ r2 = 1) →
  ((r2 = 0 →
    jc E m_X7_isTerm d [jm_R 1, jm_R ((-30))] m1 (fun (o : Option jm_V) (m5 : jm_M) => ∀ r6 : Int, o = some (jm_I r6) → (r6 = 0 ∨ r6 = 1) →
    ((r6 = 0 →
      jc E m_X7_isTerm d [jm_R 1, jm_R ((-31))] m5 (fun (o : Option jm_V) (m9 : jm_M) => ∀ r10 : Int, o = some (jm_I r10) → (r10 = 0 ∨ r10 = 1) →
      ((r10 = 0 →
        jc E m_X7_isTerm d [jm_R 1, jm_R ((-32))] m9 (fun (o : Option jm_V) (m13 : jm_M) => ∀ r14 : Int, o = some (jm_I r14) → (r14 = 0 ∨ r14 = 1) →
        ((r14 = 0 →
          jc E m_X7_isTerm d [jm_R 1, jm_R ((-33))] m13 (fun (o : Option jm_V) (m17 : jm_M) => ∀ r18 : Int, o = some (jm_I r18) → (r18 = 0 ∨ r18 = 1) →
          ((r18 = 0 →
            jc E m_X7_isTerm d [jm_R 1, jm_R ((-34))] m17 (fun (o : Option jm_V) (m21 : jm_M) => ∀ r22 : Int, o = some (jm_I r22) → (r22 = 0 ∨ r22 = 1) →
            ((r22 = 0 →
              jc E m_X7_isTerm d [jm_R 1, jm_R ((-35))] m21 (fun (o : Option jm_V) (m25 : jm_M) => ∀ r26 : Int, o = some (jm_I r26) → (r26 = 0 ∨ r26 = 1) →
              ((r26 = 0 →
                jc E m_X7_isTerm d [jm_R 1, jm_R ((-36))] m25 (fun (o : Option jm_V) (m29 : jm_M) => ∀ r30 : Int, o = some (jm_I r30) → (r30 = 0 ∨ r30 = 1) →
                ((r30 = 0 →
                  Q (some (jm_I ((-1)))) m29) ∧
                 (¬ (r30 = 0) →
                  Q (some (jm_I 9)) m29)))) ∧
               (¬ (r26 = 0) →
                Q (some (jm_I 8)) m25)))) ∧
             (¬ (r22 = 0) →
              Q (some (jm_I 7)) m21)))) ∧
           (¬ (r18 = 0) →
            Q (some (jm_I 6)) m17)))) ∧
         (¬ (r14 = 0) →
          Q (some (jm_I 5)) m13)))) ∧
       (¬ (r10 = 0) →
        Q (some (jm_I 4)) m9)))) ∧
     (¬ (r6 = 0) →
      Q (some (jm_I 3)) m5)))) ∧
   (¬ (r2 = 0) →
    Q (some (jm_I 0)) m1)))) : jc E m_X4_stepHere (d + 1) [jm_R 1] μ Q := by
  refine jm_Cl.of2 (by decide +kernel) (L0 := [some (jm_R 1)]) rfl (Nat.le_of_ble_eq_true rfl) (fun hok => ?_)
  have h := h hok
  refine jm_aloadn d_X4_stepHere_0 rfl ?_
  refine jm_getT (i := 18) (a := -29) (Nat.le_of_ble_eq_true rfl) (by decide) rfl f_X4_117 d_X4_stepHere_1 ?_
  refine jm_invV (n1 := jm_N) (mc := 0) (ms := 0) (av := [jm_R _]) w_X7_isTerm l_X4_78 d_X4_stepHere_4 rfl is_1 ⟨_, _, rfl⟩ ⟨Nat.le_refl _, Nat.le_refl _⟩ (Nat.le_of_ble_eq_true rfl) rfl ?_
  refine jm_Cl.mono h (fun o m1 h hr _ => ?_)
  obtain ⟨r2, rfl, z3⟩ := jm_rokZ hr
  have h := h _ rfl z3
  refine jm_if_eq (tgt := 12) d_X4_stepHere_7 (by decide) (fun c4 => ?_) (fun c4 => ?_)
  · have h := h.1 c4
    refine jm_aloadn d_X4_stepHere_12 rfl ?_
    refine jm_getT (i := 19) (a := -30) (Nat.le_of_ble_eq_true rfl) (by decide) rfl f_X4_120 d_X4_stepHere_13 ?_
    refine jm_invV (n1 := jm_N) (mc := 0) (ms := 0) (av := [jm_R _]) w_X7_isTerm l_X4_78 d_X4_stepHere_16 rfl is_1 ⟨_, _, rfl⟩ ⟨Nat.le_refl _, Nat.le_refl _⟩ (Nat.le_of_ble_eq_true rfl) rfl ?_
    refine jm_Cl.mono h (fun o m5 h hr _ => ?_)
    obtain ⟨r6, rfl, z7⟩ := jm_rokZ hr
    have h := h _ rfl z7
    refine jm_if_eq (tgt := 24) d_X4_stepHere_19 (by decide) (fun c8 => ?_) (fun c8 => ?_)
    · have h := h.1 c8
      refine jm_aloadn d_X4_stepHere_24 rfl ?_
      refine jm_getT (i := 20) (a := -31) (Nat.le_of_ble_eq_true rfl) (by decide) rfl f_X4_123 d_X4_stepHere_25 ?_
      refine jm_invV (n1 := jm_N) (mc := 0) (ms := 0) (av := [jm_R _]) w_X7_isTerm l_X4_78 d_X4_stepHere_28 rfl is_1 ⟨_, _, rfl⟩ ⟨Nat.le_refl _, Nat.le_refl _⟩ (Nat.le_of_ble_eq_true rfl) rfl ?_
      refine jm_Cl.mono h (fun o m9 h hr _ => ?_)
      obtain ⟨r10, rfl, z11⟩ := jm_rokZ hr
      have h := h _ rfl z11
      refine jm_if_eq (tgt := 36) d_X4_stepHere_31 (by decide) (fun c12 => ?_) (fun c12 => ?_)
      · have h := h.1 c12
        refine jm_aloadn d_X4_stepHere_36 rfl ?_
        refine jm_getT (i := 21) (a := -32) (Nat.le_of_ble_eq_true rfl) (by decide) rfl f_X4_126 d_X4_stepHere_37 ?_
        refine jm_invV (n1 := jm_N) (mc := 0) (ms := 0) (av := [jm_R _]) w_X7_isTerm l_X4_78 d_X4_stepHere_40 rfl is_1 ⟨_, _, rfl⟩ ⟨Nat.le_refl _, Nat.le_refl _⟩ (Nat.le_of_ble_eq_true rfl) rfl ?_
        refine jm_Cl.mono h (fun o m13 h hr _ => ?_)
        obtain ⟨r14, rfl, z15⟩ := jm_rokZ hr
        have h := h _ rfl z15
        refine jm_if_eq (tgt := 48) d_X4_stepHere_43 (by decide) (fun c16 => ?_) (fun c16 => ?_)
        · have h := h.1 c16
          refine jm_aloadn d_X4_stepHere_48 rfl ?_
          refine jm_getT (i := 22) (a := -33) (Nat.le_of_ble_eq_true rfl) (by decide) rfl f_X4_129 d_X4_stepHere_49 ?_
          refine jm_invV (n1 := jm_N) (mc := 0) (ms := 0) (av := [jm_R _]) w_X7_isTerm l_X4_78 d_X4_stepHere_52 rfl is_1 ⟨_, _, rfl⟩ ⟨Nat.le_refl _, Nat.le_refl _⟩ (Nat.le_of_ble_eq_true rfl) rfl ?_
          refine jm_Cl.mono h (fun o m17 h hr _ => ?_)
          obtain ⟨r18, rfl, z19⟩ := jm_rokZ hr
          have h := h _ rfl z19
          refine jm_if_eq (tgt := 61) d_X4_stepHere_55 (by decide) (fun c20 => ?_) (fun c20 => ?_)
          · have h := h.1 c20
            refine jm_aloadn d_X4_stepHere_61 rfl ?_
            refine jm_getT (i := 23) (a := -34) (Nat.le_of_ble_eq_true rfl) (by decide) rfl f_X4_132 d_X4_stepHere_62 ?_
            refine jm_invV (n1 := jm_N) (mc := 0) (ms := 0) (av := [jm_R _]) w_X7_isTerm l_X4_78 d_X4_stepHere_65 rfl is_1 ⟨_, _, rfl⟩ ⟨Nat.le_refl _, Nat.le_refl _⟩ (Nat.le_of_ble_eq_true rfl) rfl ?_
            refine jm_Cl.mono h (fun o m21 h hr _ => ?_)
            obtain ⟨r22, rfl, z23⟩ := jm_rokZ hr
            have h := h _ rfl z23
            refine jm_if_eq (tgt := 74) d_X4_stepHere_68 (by decide) (fun c24 => ?_) (fun c24 => ?_)
            · have h := h.1 c24
              refine jm_aloadn d_X4_stepHere_74 rfl ?_
              refine jm_getT (i := 24) (a := -35) (Nat.le_of_ble_eq_true rfl) (by decide) rfl f_X4_135 d_X4_stepHere_75 ?_
              refine jm_invV (n1 := jm_N) (mc := 0) (ms := 0) (av := [jm_R _]) w_X7_isTerm l_X4_78 d_X4_stepHere_78 rfl is_1 ⟨_, _, rfl⟩ ⟨Nat.le_refl _, Nat.le_refl _⟩ (Nat.le_of_ble_eq_true rfl) rfl ?_
              refine jm_Cl.mono h (fun o m25 h hr _ => ?_)
              obtain ⟨r26, rfl, z27⟩ := jm_rokZ hr
              have h := h _ rfl z27
              refine jm_if_eq (tgt := 87) d_X4_stepHere_81 (by decide) (fun c28 => ?_) (fun c28 => ?_)
              · have h := h.1 c28
                refine jm_aloadn d_X4_stepHere_87 rfl ?_
                refine jm_getT (i := 25) (a := -36) (Nat.le_of_ble_eq_true rfl) (by decide) rfl f_X4_138 d_X4_stepHere_88 ?_
                refine jm_invV (n1 := jm_N) (mc := 0) (ms := 0) (av := [jm_R _]) w_X7_isTerm l_X4_78 d_X4_stepHere_91 rfl is_1 ⟨_, _, rfl⟩ ⟨Nat.le_refl _, Nat.le_refl _⟩ (Nat.le_of_ble_eq_true rfl) rfl ?_
                refine jm_Cl.mono h (fun o m29 h hr _ => ?_)
                obtain ⟨r30, rfl, z31⟩ := jm_rokZ hr
                have h := h _ rfl z31
                refine jm_if_eq (tgt := 102) d_X4_stepHere_94 (by decide) (fun c32 => ?_) (fun c32 => ?_)
                · have h := h.1 c32
                  refine jm_iconst (v := (-1)) d_X4_stepHere_102 rfl (jm_okI (by decide) (by decide)) ?_
                  exact jm_ret (o := some (jm_I _)) d_X4_stepHere_103 rfl ⟨Nat.le_refl _, Nat.le_refl _⟩ jm_r_I h rfl
                · have h := h.2 c32
                  refine jm_bipush (v := 9) d_X4_stepHere_97 rfl (jm_okI (by decide) (by decide)) ?_
                  refine jm_goto (tgt := 103) d_X4_stepHere_99 (by decide) ?_
                  exact jm_ret (o := some (jm_I _)) d_X4_stepHere_103 rfl ⟨Nat.le_refl _, Nat.le_refl _⟩ jm_r_I h rfl
              · have h := h.2 c28
                refine jm_bipush (v := 8) d_X4_stepHere_84 rfl (jm_okI (by decide) (by decide)) ?_
                exact jm_ret (o := some (jm_I _)) d_X4_stepHere_86 rfl ⟨Nat.le_refl _, Nat.le_refl _⟩ jm_r_I h rfl
            · have h := h.2 c24
              refine jm_bipush (v := 7) d_X4_stepHere_71 rfl (jm_okI (by decide) (by decide)) ?_
              exact jm_ret (o := some (jm_I _)) d_X4_stepHere_73 rfl ⟨Nat.le_refl _, Nat.le_refl _⟩ jm_r_I h rfl
          · have h := h.2 c20
            refine jm_bipush (v := 6) d_X4_stepHere_58 rfl (jm_okI (by decide) (by decide)) ?_
            exact jm_ret (o := some (jm_I _)) d_X4_stepHere_60 rfl ⟨Nat.le_refl _, Nat.le_refl _⟩ jm_r_I h rfl
        · have h := h.2 c16
          refine jm_iconst (v := 5) d_X4_stepHere_46 rfl (jm_okI (by decide) (by decide)) ?_
          exact jm_ret (o := some (jm_I _)) d_X4_stepHere_47 rfl ⟨Nat.le_refl _, Nat.le_refl _⟩ jm_r_I h rfl
      · have h := h.2 c12
        refine jm_iconst (v := 4) d_X4_stepHere_34 rfl (jm_okI (by decide) (by decide)) ?_
        exact jm_ret (o := some (jm_I _)) d_X4_stepHere_35 rfl ⟨Nat.le_refl _, Nat.le_refl _⟩ jm_r_I h rfl
    · have h := h.2 c8
      refine jm_iconst (v := 3) d_X4_stepHere_22 rfl (jm_okI (by decide) (by decide)) ?_
      exact jm_ret (o := some (jm_I _)) d_X4_stepHere_23 rfl ⟨Nat.le_refl _, Nat.le_refl _⟩ jm_r_I h rfl
  · have h := h.2 c4
    refine jm_iconst (v := 0) d_X4_stepHere_10 rfl (jm_okI (by decide) (by decide)) ?_
    exact jm_ret (o := some (jm_I _)) d_X4_stepHere_11 rfl ⟨Nat.le_refl _, Nat.le_refl _⟩ jm_r_I h rfl
/-! ('CombTable$Sentence', 'readNamed', '(LCombTable$Tape;LCombTable$Table;I)Z') -/
theorem d_X4_readNamed_0 : decode m_X4_readNamed.2.1 0 = .ok (.iload_n 3, 1) := by decide +kernel
theorem d_X4_readNamed_1 : decode m_X4_readNamed.2.1 1 = .ok (.iconst 5, 1) := by decide +kernel
theorem d_X4_readNamed_2 : decode m_X4_readNamed.2.1 2 = .ok (.if_icmp .ne 11, 3) := by decide +kernel
theorem d_X4_readNamed_5 : decode m_X4_readNamed.2.1 5 = .ok (.aload_n 1, 1) := by decide +kernel
theorem d_X4_readNamed_6 : decode m_X4_readNamed.2.1 6 = .ok (.aload_n 2, 1) := by decide +kernel
theorem d_X4_readNamed_7 : decode m_X4_readNamed.2.1 7 = .ok (.invokevirtual 141, 3) := by decide +kernel
theorem d_X4_readNamed_10 : decode m_X4_readNamed.2.1 10 = .ok (.goto 8, 3) := by decide +kernel
theorem d_X4_readNamed_13 : decode m_X4_readNamed.2.1 13 = .ok (.aload_n 1, 1) := by decide +kernel
theorem d_X4_readNamed_14 : decode m_X4_readNamed.2.1 14 = .ok (.aload_n 2, 1) := by decide +kernel
theorem d_X4_readNamed_15 : decode m_X4_readNamed.2.1 15 = .ok (.invokevirtual 145, 3) := by decide +kernel
theorem d_X4_readNamed_18 : decode m_X4_readNamed.2.1 18 = .ok (.istore 4, 2) := by decide +kernel
theorem d_X4_readNamed_20 : decode m_X4_readNamed.2.1 20 = .ok (.iload 4, 2) := by decide +kernel
theorem d_X4_readNamed_22 : decode m_X4_readNamed.2.1 22 = .ok (.iconst (-1), 1) := by decide +kernel
theorem d_X4_readNamed_23 : decode m_X4_readNamed.2.1 23 = .ok (.if_icmp .ne 5, 3) := by decide +kernel
theorem d_X4_readNamed_26 : decode m_X4_readNamed.2.1 26 = .ok (.iconst 0, 1) := by decide +kernel
theorem d_X4_readNamed_27 : decode m_X4_readNamed.2.1 27 = .ok (.ireturn, 1) := by decide +kernel
theorem d_X4_readNamed_28 : decode m_X4_readNamed.2.1 28 = .ok (.aload_n 0, 1) := by decide +kernel
theorem d_X4_readNamed_29 : decode m_X4_readNamed.2.1 29 = .ok (.iload_n 3, 1) := by decide +kernel
theorem d_X4_readNamed_30 : decode m_X4_readNamed.2.1 30 = .ok (.iconst 0, 1) := by decide +kernel
theorem d_X4_readNamed_31 : decode m_X4_readNamed.2.1 31 = .ok (.iload 4, 2) := by decide +kernel
theorem d_X4_readNamed_33 : decode m_X4_readNamed.2.1 33 = .ok (.invokevirtual 85, 3) := by decide +kernel
theorem d_X4_readNamed_36 : decode m_X4_readNamed.2.1 36 = .ok (.aload_n 1, 1) := by decide +kernel
theorem d_X4_readNamed_37 : decode m_X4_readNamed.2.1 37 = .ok (.invokevirtual 89, 3) := by decide +kernel
theorem d_X4_readNamed_40 : decode m_X4_readNamed.2.1 40 = .ok (.iconst 1, 1) := by decide +kernel
theorem d_X4_readNamed_41 : decode m_X4_readNamed.2.1 41 = .ok (.ireturn, 1) := by decide +kernel
set_option maxRecDepth 20000 in
theorem e_X4_readNamed {E : jm_E} {d : Nat} {μ : jm_M} {Q : Option jm_V → jm_M → Prop} {v0 v2 v3 : Int} (h : (∀ v ∈ ([jm_R v0, jm_R 1, jm_R v2, jm_I v3] : List jm_V), jm_ok v) →
  ((v3 ≠ 5 →
    jc E m_X7_whoHere d [jm_R 1, jm_R v2] μ (fun (o : Option jm_V) (m2 : jm_M) => ∀ r3 : Int, o = some (jm_I r3) →
    ((r3 ≠ ((-1)) →
      (jm_is jm_N v0 1 4) ∧
      jc E m_X4_put d [jm_R v0, jm_I v3, jm_I 0, jm_I r3] m2 (fun (o : Option jm_V) (m5 : jm_M) => o = none →
      jc E m_X7_advance d [jm_R 1] m5 (fun (o : Option jm_V) (m7 : jm_M) => o = none →
      Q (some (jm_I 1)) m7))) ∧
     (¬ (r3 ≠ ((-1))) →
      Q (some (jm_I 0)) m2)))) ∧
   (¬ (v3 ≠ 5) →
    jc E m_X7_kindHere d [jm_R 1, jm_R v2] μ (fun (o : Option jm_V) (m8 : jm_M) => ∀ r9 : Int, o = some (jm_I r9) →
    ((r9 ≠ ((-1)) →
      (jm_is jm_N v0 1 4) ∧
      jc E m_X4_put d [jm_R v0, jm_I v3, jm_I 0, jm_I r9] m8 (fun (o : Option jm_V) (m11 : jm_M) => o = none →
      jc E m_X7_advance d [jm_R 1] m11 (fun (o : Option jm_V) (m13 : jm_M) => o = none →
      Q (some (jm_I 1)) m13))) ∧
     (¬ (r9 ≠ ((-1))) →
      Q (some (jm_I 0)) m8)))))) : jc E m_X4_readNamed (d + 1) [jm_R v0, jm_R 1, jm_R v2, jm_I v3] μ Q := by
  refine jm_Cl.of2 (by decide +kernel) (L0 := [some (jm_R v0), some (jm_R 1), some (jm_R v2), some (jm_I v3), none]) rfl (Nat.le_of_ble_eq_true rfl) (fun hok => ?_)
  have h := h hok
  refine jm_iloadn d_X4_readNamed_0 rfl ?_
  refine jm_iconst (v := 5) d_X4_readNamed_1 rfl (jm_okI (by decide) (by decide)) ?_
  refine jm_icmp_ne (tgt := 13) d_X4_readNamed_2 (by decide) (fun c1 => ?_) (fun c1 => ?_)
  · have h := h.1 c1
    refine jm_aloadn d_X4_readNamed_13 rfl ?_
    refine jm_aloadn d_X4_readNamed_14 rfl ?_
    refine jm_invV (n1 := jm_N) (mc := 0) (ms := 0) (av := [jm_R _]) w_X7_whoHere l_X4_145 d_X4_readNamed_15 rfl is_1 ⟨_, _, rfl⟩ ⟨Nat.le_refl _, Nat.le_refl _⟩ (Nat.le_of_ble_eq_true rfl) rfl ?_
    refine jm_Cl.mono h (fun o m2 h hr _ => ?_)
    obtain ⟨r3, rfl⟩ := jm_rokI hr
    have h := h _ rfl
    refine jm_istore (L' := [some (jm_R _), some (jm_R _), some (jm_R _), some (jm_I _), some (jm_I _)]) d_X4_readNamed_18 (Nat.le_of_ble_eq_true rfl) rfl ?_
    refine jm_iload d_X4_readNamed_20 rfl ?_
    refine jm_iconst (v := (-1)) d_X4_readNamed_22 rfl (jm_okI (by decide) (by decide)) ?_
    refine jm_icmp_ne (tgt := 28) d_X4_readNamed_23 (by decide) (fun c4 => ?_) (fun c4 => ?_)
    · have h := h.1 c4
      refine jm_aloadn d_X4_readNamed_28 rfl ?_
      refine jm_iloadn d_X4_readNamed_29 rfl ?_
      refine jm_iconst (v := 0) d_X4_readNamed_30 rfl (jm_okI (by decide) (by decide)) ?_
      refine jm_iload d_X4_readNamed_31 rfl ?_
      obtain ⟨f6, h⟩ := h
      refine jm_invV (n1 := jm_N) (mc := 0) (ms := 0) (av := [jm_I _, jm_I _, jm_I _]) w_X4_put l_X4_85 d_X4_readNamed_33 rfl f6 ⟨_, _, rfl⟩ ⟨Nat.le_refl _, Nat.le_refl _⟩ (Nat.le_of_ble_eq_true rfl) rfl ?_
      refine jm_Cl.mono h (fun o m5 h hr _ => ?_)
      obtain rfl := jm_rokV hr
      have h := h rfl
      refine jm_aloadn d_X4_readNamed_36 rfl ?_
      refine jm_invV (n1 := jm_N) (mc := 0) (ms := 0) (av := []) w_X7_advance l_X4_89 d_X4_readNamed_37 rfl is_1 ⟨_, _, rfl⟩ ⟨Nat.le_refl _, Nat.le_refl _⟩ (Nat.le_of_ble_eq_true rfl) rfl ?_
      refine jm_Cl.mono h (fun o m7 h hr _ => ?_)
      obtain rfl := jm_rokV hr
      have h := h rfl
      refine jm_iconst (v := 1) d_X4_readNamed_40 rfl (jm_okI (by decide) (by decide)) ?_
      exact jm_ret (o := some (jm_I _)) d_X4_readNamed_41 rfl ⟨Nat.le_refl _, Nat.le_refl _⟩ (jm_r_Z (by decide)) h rfl
    · have h := h.2 c4
      refine jm_iconst (v := 0) d_X4_readNamed_26 rfl (jm_okI (by decide) (by decide)) ?_
      exact jm_ret (o := some (jm_I _)) d_X4_readNamed_27 rfl ⟨Nat.le_refl _, Nat.le_refl _⟩ (jm_r_Z (by decide)) h rfl
  · have h := h.2 c1
    refine jm_aloadn d_X4_readNamed_5 rfl ?_
    refine jm_aloadn d_X4_readNamed_6 rfl ?_
    refine jm_invV (n1 := jm_N) (mc := 0) (ms := 0) (av := [jm_R _]) w_X7_kindHere l_X4_141 d_X4_readNamed_7 rfl is_1 ⟨_, _, rfl⟩ ⟨Nat.le_refl _, Nat.le_refl _⟩ (Nat.le_of_ble_eq_true rfl) rfl ?_
    refine jm_Cl.mono h (fun o m8 h hr _ => ?_)
    obtain ⟨r9, rfl⟩ := jm_rokI hr
    have h := h _ rfl
    refine jm_goto (tgt := 18) d_X4_readNamed_10 (by decide) ?_
    refine jm_istore (L' := [some (jm_R _), some (jm_R _), some (jm_R _), some (jm_I _), some (jm_I _)]) d_X4_readNamed_18 (Nat.le_of_ble_eq_true rfl) rfl ?_
    refine jm_iload d_X4_readNamed_20 rfl ?_
    refine jm_iconst (v := (-1)) d_X4_readNamed_22 rfl (jm_okI (by decide) (by decide)) ?_
    refine jm_icmp_ne (tgt := 28) d_X4_readNamed_23 (by decide) (fun c10 => ?_) (fun c10 => ?_)
    · have h := h.1 c10
      refine jm_aloadn d_X4_readNamed_28 rfl ?_
      refine jm_iloadn d_X4_readNamed_29 rfl ?_
      refine jm_iconst (v := 0) d_X4_readNamed_30 rfl (jm_okI (by decide) (by decide)) ?_
      refine jm_iload d_X4_readNamed_31 rfl ?_
      obtain ⟨f12, h⟩ := h
      refine jm_invV (n1 := jm_N) (mc := 0) (ms := 0) (av := [jm_I _, jm_I _, jm_I _]) w_X4_put l_X4_85 d_X4_readNamed_33 rfl f12 ⟨_, _, rfl⟩ ⟨Nat.le_refl _, Nat.le_refl _⟩ (Nat.le_of_ble_eq_true rfl) rfl ?_
      refine jm_Cl.mono h (fun o m11 h hr _ => ?_)
      obtain rfl := jm_rokV hr
      have h := h rfl
      refine jm_aloadn d_X4_readNamed_36 rfl ?_
      refine jm_invV (n1 := jm_N) (mc := 0) (ms := 0) (av := []) w_X7_advance l_X4_89 d_X4_readNamed_37 rfl is_1 ⟨_, _, rfl⟩ ⟨Nat.le_refl _, Nat.le_refl _⟩ (Nat.le_of_ble_eq_true rfl) rfl ?_
      refine jm_Cl.mono h (fun o m13 h hr _ => ?_)
      obtain rfl := jm_rokV hr
      have h := h rfl
      refine jm_iconst (v := 1) d_X4_readNamed_40 rfl (jm_okI (by decide) (by decide)) ?_
      exact jm_ret (o := some (jm_I _)) d_X4_readNamed_41 rfl ⟨Nat.le_refl _, Nat.le_refl _⟩ (jm_r_Z (by decide)) h rfl
    · have h := h.2 c10
      refine jm_iconst (v := 0) d_X4_readNamed_26 rfl (jm_okI (by decide) (by decide)) ?_
      exact jm_ret (o := some (jm_I _)) d_X4_readNamed_27 rfl ⟨Nat.le_refl _, Nat.le_refl _⟩ (jm_r_Z (by decide)) h rfl
/-! ('CombTable$Sentence', 'readMeasured', '(LCombTable$Tape;I)Z') -/
theorem d_X4_readMeasured_0 : decode m_X4_readMeasured.2.1 0 = .ok (.aload_n 1, 1) := by decide +kernel
theorem d_X4_readMeasured_1 : decode m_X4_readMeasured.2.1 1 = .ok (.bipush 60, 2) := by decide +kernel
theorem d_X4_readMeasured_3 : decode m_X4_readMeasured.2.1 3 = .ok (.invokevirtual 92, 3) := by decide +kernel
theorem d_X4_readMeasured_6 : decode m_X4_readMeasured.2.1 6 = .ok (.ifCond .ne 31, 3) := by decide +kernel
theorem d_X4_readMeasured_9 : decode m_X4_readMeasured.2.1 9 = .ok (.aload_n 1, 1) := by decide +kernel
theorem d_X4_readMeasured_10 : decode m_X4_readMeasured.2.1 10 = .ok (.bipush 61, 2) := by decide +kernel
theorem d_X4_readMeasured_12 : decode m_X4_readMeasured.2.1 12 = .ok (.invokevirtual 92, 3) := by decide +kernel
theorem d_X4_readMeasured_15 : decode m_X4_readMeasured.2.1 15 = .ok (.ifCond .ne 22, 3) := by decide +kernel
theorem d_X4_readMeasured_18 : decode m_X4_readMeasured.2.1 18 = .ok (.aload_n 1, 1) := by decide +kernel
theorem d_X4_readMeasured_19 : decode m_X4_readMeasured.2.1 19 = .ok (.bipush 62, 2) := by decide +kernel
theorem d_X4_readMeasured_21 : decode m_X4_readMeasured.2.1 21 = .ok (.invokevirtual 92, 3) := by decide +kernel
theorem d_X4_readMeasured_24 : decode m_X4_readMeasured.2.1 24 = .ok (.ifCond .ne 13, 3) := by decide +kernel
theorem d_X4_readMeasured_27 : decode m_X4_readMeasured.2.1 27 = .ok (.aload_n 1, 1) := by decide +kernel
theorem d_X4_readMeasured_28 : decode m_X4_readMeasured.2.1 28 = .ok (.iconst 1, 1) := by decide +kernel
theorem d_X4_readMeasured_29 : decode m_X4_readMeasured.2.1 29 = .ok (.aload_n 1, 1) := by decide +kernel
theorem d_X4_readMeasured_30 : decode m_X4_readMeasured.2.1 30 = .ok (.getfield 100, 3) := by decide +kernel
theorem d_X4_readMeasured_33 : decode m_X4_readMeasured.2.1 33 = .ok (.invokevirtual 103, 3) := by decide +kernel
theorem d_X4_readMeasured_36 : decode m_X4_readMeasured.2.1 36 = .ok (.ireturn, 1) := by decide +kernel
theorem d_X4_readMeasured_37 : decode m_X4_readMeasured.2.1 37 = .ok (.aload_n 1, 1) := by decide +kernel
theorem d_X4_readMeasured_38 : decode m_X4_readMeasured.2.1 38 = .ok (.getfield 148, 3) := by decide +kernel
theorem d_X4_readMeasured_41 : decode m_X4_readMeasured.2.1 41 = .ok (.istore_n 3, 1) := by decide +kernel
theorem d_X4_readMeasured_42 : decode m_X4_readMeasured.2.1 42 = .ok (.aload_n 1, 1) := by decide +kernel
theorem d_X4_readMeasured_43 : decode m_X4_readMeasured.2.1 43 = .ok (.invokevirtual 89, 3) := by decide +kernel
theorem d_X4_readMeasured_46 : decode m_X4_readMeasured.2.1 46 = .ok (.aload_n 1, 1) := by decide +kernel
theorem d_X4_readMeasured_47 : decode m_X4_readMeasured.2.1 47 = .ok (.getfield 151, 3) := by decide +kernel
theorem d_X4_readMeasured_50 : decode m_X4_readMeasured.2.1 50 = .ok (.iconst 2, 1) := by decide +kernel
theorem d_X4_readMeasured_51 : decode m_X4_readMeasured.2.1 51 = .ok (.if_icmp .eq 13, 3) := by decide +kernel
theorem d_X4_readMeasured_54 : decode m_X4_readMeasured.2.1 54 = .ok (.aload_n 1, 1) := by decide +kernel
theorem d_X4_readMeasured_55 : decode m_X4_readMeasured.2.1 55 = .ok (.iconst 1, 1) := by decide +kernel
theorem d_X4_readMeasured_56 : decode m_X4_readMeasured.2.1 56 = .ok (.aload_n 1, 1) := by decide +kernel
theorem d_X4_readMeasured_57 : decode m_X4_readMeasured.2.1 57 = .ok (.getfield 100, 3) := by decide +kernel
theorem d_X4_readMeasured_60 : decode m_X4_readMeasured.2.1 60 = .ok (.invokevirtual 103, 3) := by decide +kernel
theorem d_X4_readMeasured_63 : decode m_X4_readMeasured.2.1 63 = .ok (.ireturn, 1) := by decide +kernel
theorem d_X4_readMeasured_64 : decode m_X4_readMeasured.2.1 64 = .ok (.aload_n 0, 1) := by decide +kernel
theorem d_X4_readMeasured_65 : decode m_X4_readMeasured.2.1 65 = .ok (.iload_n 2, 1) := by decide +kernel
theorem d_X4_readMeasured_66 : decode m_X4_readMeasured.2.1 66 = .ok (.iload_n 3, 1) := by decide +kernel
theorem d_X4_readMeasured_67 : decode m_X4_readMeasured.2.1 67 = .ok (.aload_n 1, 1) := by decide +kernel
theorem d_X4_readMeasured_68 : decode m_X4_readMeasured.2.1 68 = .ok (.getfield 148, 3) := by decide +kernel
theorem d_X4_readMeasured_71 : decode m_X4_readMeasured.2.1 71 = .ok (.invokevirtual 85, 3) := by decide +kernel
theorem d_X4_readMeasured_74 : decode m_X4_readMeasured.2.1 74 = .ok (.aload_n 1, 1) := by decide +kernel
theorem d_X4_readMeasured_75 : decode m_X4_readMeasured.2.1 75 = .ok (.invokevirtual 89, 3) := by decide +kernel
theorem d_X4_readMeasured_78 : decode m_X4_readMeasured.2.1 78 = .ok (.iconst 1, 1) := by decide +kernel
theorem d_X4_readMeasured_79 : decode m_X4_readMeasured.2.1 79 = .ok (.ireturn, 1) := by decide +kernel
set_option maxRecDepth 20000 in
theorem e_X4_readMeasured {E : jm_E} {d : Nat} {μ : jm_M} {Q : Option jm_V → jm_M → Prop} {v0 v2 : Int} (h : (∀ v ∈ ([jm_R v0, jm_R 1, jm_I v2] : List jm_V), jm_ok v) →
  jc E m_X7_isSign d [jm_R 1, jm_I 60] μ (fun (o : Option jm_V) (m1 : jm_M) => ∀ r2 : Int, o = some (jm_I r2) → (r2 = 0 ∨ r2 = 1) →
  ((r2 ≠ 0 →
    jg E m_X4_readMeasured d 37 [some (jm_R v0), some (jm_R 1), some (jm_I v2), none] [] m1 Q) ∧
   (¬ (r2 ≠ 0) →
    jc E m_X7_isSign d [jm_R 1, jm_I 61] m1 (fun (o : Option jm_V) (m5 : jm_M) => ∀ r6 : Int, o = some (jm_I r6) → (r6 = 0 ∨ r6 = 1) →
    ((r6 ≠ 0 →
      jg E m_X4_readMeasured d 37 [some (jm_R v0), some (jm_R 1), some (jm_I v2), none] [] m5 Q) ∧
     (¬ (r6 ≠ 0) →
      jc E m_X7_isSign d [jm_R 1, jm_I 62] m5 (fun (o : Option jm_V) (m9 : jm_M) => ∀ r10 : Int, o = some (jm_I r10) → (r10 = 0 ∨ r10 = 1) →
      ((r10 ≠ 0 →
        jg E m_X4_readMeasured d 37 [some (jm_R v0), some (jm_R 1), some (jm_I v2), none] [] m9 Q) ∧
       (¬ (r10 ≠ 0) →
        jc E m_X7_fails d [jm_R 1, jm_I 1, jm_I (m9 1 5)] m9 (fun (o : Option jm_V) (m13 : jm_M) => ∀ r14 : Int, o = some (jm_I r14) → (r14 = 0 ∨ r14 = 1) →
        Q (some (jm_I r14)) m13))))))))))) : jc E m_X4_readMeasured (d + 1) [jm_R v0, jm_R 1, jm_I v2] μ Q := by
  refine jm_Cl.of2 (by decide +kernel) (L0 := [some (jm_R v0), some (jm_R 1), some (jm_I v2), none]) rfl (Nat.le_of_ble_eq_true rfl) (fun hok => ?_)
  have h := h hok
  refine jm_aloadn d_X4_readMeasured_0 rfl ?_
  refine jm_bipush (v := 60) d_X4_readMeasured_1 rfl (jm_okI (by decide) (by decide)) ?_
  refine jm_invV (n1 := jm_N) (mc := 0) (ms := 0) (av := [jm_I _]) w_X7_isSign l_X4_92 d_X4_readMeasured_3 rfl is_1 ⟨_, _, rfl⟩ ⟨Nat.le_refl _, Nat.le_refl _⟩ (Nat.le_of_ble_eq_true rfl) rfl ?_
  refine jm_Cl.mono h (fun o m1 h hr _ => ?_)
  obtain ⟨r2, rfl, z3⟩ := jm_rokZ hr
  have h := h _ rfl z3
  refine jm_if_ne (tgt := 37) d_X4_readMeasured_6 (by decide) (fun c4 => ?_) (fun c4 => ?_)
  · have h := h.1 c4
    exact h
  · have h := h.2 c4
    refine jm_aloadn d_X4_readMeasured_9 rfl ?_
    refine jm_bipush (v := 61) d_X4_readMeasured_10 rfl (jm_okI (by decide) (by decide)) ?_
    refine jm_invV (n1 := jm_N) (mc := 0) (ms := 0) (av := [jm_I _]) w_X7_isSign l_X4_92 d_X4_readMeasured_12 rfl is_1 ⟨_, _, rfl⟩ ⟨Nat.le_refl _, Nat.le_refl _⟩ (Nat.le_of_ble_eq_true rfl) rfl ?_
    refine jm_Cl.mono h (fun o m5 h hr _ => ?_)
    obtain ⟨r6, rfl, z7⟩ := jm_rokZ hr
    have h := h _ rfl z7
    refine jm_if_ne (tgt := 37) d_X4_readMeasured_15 (by decide) (fun c8 => ?_) (fun c8 => ?_)
    · have h := h.1 c8
      exact h
    · have h := h.2 c8
      refine jm_aloadn d_X4_readMeasured_18 rfl ?_
      refine jm_bipush (v := 62) d_X4_readMeasured_19 rfl (jm_okI (by decide) (by decide)) ?_
      refine jm_invV (n1 := jm_N) (mc := 0) (ms := 0) (av := [jm_I _]) w_X7_isSign l_X4_92 d_X4_readMeasured_21 rfl is_1 ⟨_, _, rfl⟩ ⟨Nat.le_refl _, Nat.le_refl _⟩ (Nat.le_of_ble_eq_true rfl) rfl ?_
      refine jm_Cl.mono h (fun o m9 h hr _ => ?_)
      obtain ⟨r10, rfl, z11⟩ := jm_rokZ hr
      have h := h _ rfl z11
      refine jm_if_ne (tgt := 37) d_X4_readMeasured_24 (by decide) (fun c12 => ?_) (fun c12 => ?_)
      · have h := h.1 c12
        exact h
      · have h := h.2 c12
        refine jm_aloadn d_X4_readMeasured_27 rfl ?_
        refine jm_iconst (v := 1) d_X4_readMeasured_28 rfl (jm_okI (by decide) (by decide)) ?_
        refine jm_aloadn d_X4_readMeasured_29 rfl ?_
        refine jm_getI (k := 5) (ki := 5) cf_X7 (Nat.le_of_ble_eq_true rfl) f_X4_100 d_X4_readMeasured_30 rfl rfl is_1 rfl ?_
        refine jm_invV (n1 := jm_N) (mc := 0) (ms := 0) (av := [jm_I _, jm_I _]) w_X7_fails l_X4_103 d_X4_readMeasured_33 rfl is_1 ⟨_, _, rfl⟩ ⟨Nat.le_refl _, Nat.le_refl _⟩ (Nat.le_of_ble_eq_true rfl) rfl ?_
        refine jm_Cl.mono h (fun o m13 h hr _ => ?_)
        obtain ⟨r14, rfl, z15⟩ := jm_rokZ hr
        have h := h _ rfl z15
        exact jm_ret (o := some (jm_I _)) d_X4_readMeasured_36 rfl ⟨Nat.le_refl _, Nat.le_refl _⟩ (jm_r_Z z15) h rfl
set_option maxRecDepth 20000 in
theorem r_X4_readMeasured_37 {E : jm_E} {d : Nat} {μ : jm_M} {Q : Option jm_V → jm_M → Prop} {v0 v2 : Int} (h :
  jc E m_X7_advance d [jm_R 1] μ (fun (o : Option jm_V) (m1 : jm_M) => o = none →
  ((m1 1 4 = 2 →
    (jm_is jm_N v0 1 4) ∧
    jc E m_X4_put d [jm_R v0, jm_I v2, jm_I (μ 1 8), jm_I (m1 1 8)] m1 (fun (o : Option jm_V) (m3 : jm_M) => o = none →
    jc E m_X7_advance d [jm_R 1] m3 (fun (o : Option jm_V) (m5 : jm_M) => o = none →
    Q (some (jm_I 1)) m5))) ∧
   (¬ (m1 1 4 = 2) →
    jc E m_X7_fails d [jm_R 1, jm_I 1, jm_I (m1 1 5)] m1 (fun (o : Option jm_V) (m6 : jm_M) => ∀ r7 : Int, o = some (jm_I r7) → (r7 = 0 ∨ r7 = 1) →
    Q (some (jm_I r7)) m6))))) : jg E m_X4_readMeasured d 37 [some (jm_R v0), some (jm_R 1), some (jm_I v2), none] [] μ Q := by
  refine jm_aloadn d_X4_readMeasured_37 rfl ?_
  refine jm_getI (k := 8) (ki := 8) cf_X7 (Nat.le_of_ble_eq_true rfl) f_X4_148 d_X4_readMeasured_38 rfl rfl is_1 rfl ?_
  refine jm_istoren (L' := [some (jm_R _), some (jm_R _), some (jm_I _), some (jm_I _)]) d_X4_readMeasured_41 (Nat.le_of_ble_eq_true rfl) rfl ?_
  refine jm_aloadn d_X4_readMeasured_42 rfl ?_
  refine jm_invV (n1 := jm_N) (mc := 0) (ms := 0) (av := []) w_X7_advance l_X4_89 d_X4_readMeasured_43 rfl is_1 ⟨_, _, rfl⟩ ⟨Nat.le_refl _, Nat.le_refl _⟩ (Nat.le_of_ble_eq_true rfl) rfl ?_
  refine jm_Cl.mono h (fun o m1 h hr _ => ?_)
  obtain rfl := jm_rokV hr
  have h := h rfl
  refine jm_aloadn d_X4_readMeasured_46 rfl ?_
  refine jm_getI (k := 4) (ki := 4) cf_X7 (Nat.le_of_ble_eq_true rfl) f_X4_151 d_X4_readMeasured_47 rfl rfl is_1 rfl ?_
  refine jm_iconst (v := 2) d_X4_readMeasured_50 rfl (jm_okI (by decide) (by decide)) ?_
  refine jm_icmp_eq (tgt := 64) d_X4_readMeasured_51 (by decide) (fun c2 => ?_) (fun c2 => ?_)
  · have h := h.1 c2
    refine jm_aloadn d_X4_readMeasured_64 rfl ?_
    refine jm_iloadn d_X4_readMeasured_65 rfl ?_
    refine jm_iloadn d_X4_readMeasured_66 rfl ?_
    refine jm_aloadn d_X4_readMeasured_67 rfl ?_
    refine jm_getI (k := 8) (ki := 8) cf_X7 (Nat.le_of_ble_eq_true rfl) f_X4_148 d_X4_readMeasured_68 rfl rfl is_1 rfl ?_
    obtain ⟨f4, h⟩ := h
    refine jm_invV (n1 := jm_N) (mc := 0) (ms := 0) (av := [jm_I _, jm_I _, jm_I _]) w_X4_put l_X4_85 d_X4_readMeasured_71 rfl f4 ⟨_, _, rfl⟩ ⟨Nat.le_refl _, Nat.le_refl _⟩ (Nat.le_of_ble_eq_true rfl) rfl ?_
    refine jm_Cl.mono h (fun o m3 h hr _ => ?_)
    obtain rfl := jm_rokV hr
    have h := h rfl
    refine jm_aloadn d_X4_readMeasured_74 rfl ?_
    refine jm_invV (n1 := jm_N) (mc := 0) (ms := 0) (av := []) w_X7_advance l_X4_89 d_X4_readMeasured_75 rfl is_1 ⟨_, _, rfl⟩ ⟨Nat.le_refl _, Nat.le_refl _⟩ (Nat.le_of_ble_eq_true rfl) rfl ?_
    refine jm_Cl.mono h (fun o m5 h hr _ => ?_)
    obtain rfl := jm_rokV hr
    have h := h rfl
    refine jm_iconst (v := 1) d_X4_readMeasured_78 rfl (jm_okI (by decide) (by decide)) ?_
    exact jm_ret (o := some (jm_I _)) d_X4_readMeasured_79 rfl ⟨Nat.le_refl _, Nat.le_refl _⟩ (jm_r_Z (by decide)) h rfl
  · have h := h.2 c2
    refine jm_aloadn d_X4_readMeasured_54 rfl ?_
    refine jm_iconst (v := 1) d_X4_readMeasured_55 rfl (jm_okI (by decide) (by decide)) ?_
    refine jm_aloadn d_X4_readMeasured_56 rfl ?_
    refine jm_getI (k := 5) (ki := 5) cf_X7 (Nat.le_of_ble_eq_true rfl) f_X4_100 d_X4_readMeasured_57 rfl rfl is_1 rfl ?_
    refine jm_invV (n1 := jm_N) (mc := 0) (ms := 0) (av := [jm_I _, jm_I _]) w_X7_fails l_X4_103 d_X4_readMeasured_60 rfl is_1 ⟨_, _, rfl⟩ ⟨Nat.le_refl _, Nat.le_refl _⟩ (Nat.le_of_ble_eq_true rfl) rfl ?_
    refine jm_Cl.mono h (fun o m6 h hr _ => ?_)
    obtain ⟨r7, rfl, z8⟩ := jm_rokZ hr
    have h := h _ rfl z8
    exact jm_ret (o := some (jm_I _)) d_X4_readMeasured_63 rfl ⟨Nat.le_refl _, Nat.le_refl _⟩ (jm_r_Z z8) h rfl
-- X0_init: by hand (objinit)
/-! ('CombTable$Image', 'keep', '(LCombTable$Table;LCombTable$Talk;LCombTable$Minutes;LCombTable$Sentence;)V') -/
theorem d_X0_keep_0 : decode m_X0_keep.2.1 0 = .ok (.aload_n 0, 1) := by decide +kernel
theorem d_X0_keep_1 : decode m_X0_keep.2.1 1 = .ok (.iconst 1, 1) := by decide +kernel
theorem d_X0_keep_2 : decode m_X0_keep.2.1 2 = .ok (.putfield 39, 3) := by decide +kernel
theorem d_X0_keep_5 : decode m_X0_keep.2.1 5 = .ok (.aload_n 0, 1) := by decide +kernel
theorem d_X0_keep_6 : decode m_X0_keep.2.1 6 = .ok (.getfield 10, 3) := by decide +kernel
theorem d_X0_keep_9 : decode m_X0_keep.2.1 9 = .ok (.aload_n 1, 1) := by decide +kernel
theorem d_X0_keep_10 : decode m_X0_keep.2.1 10 = .ok (.invokevirtual 43, 3) := by decide +kernel
theorem d_X0_keep_13 : decode m_X0_keep.2.1 13 = .ok (.aload_n 0, 1) := by decide +kernel
theorem d_X0_keep_14 : decode m_X0_keep.2.1 14 = .ok (.iconst 0, 1) := by decide +kernel
theorem d_X0_keep_15 : decode m_X0_keep.2.1 15 = .ok (.putfield 47, 3) := by decide +kernel
theorem d_X0_keep_18 : decode m_X0_keep.2.1 18 = .ok (.iconst 0, 1) := by decide +kernel
theorem d_X0_keep_19 : decode m_X0_keep.2.1 19 = .ok (.istore 5, 2) := by decide +kernel
theorem d_X0_keep_21 : decode m_X0_keep.2.1 21 = .ok (.iload 5, 2) := by decide +kernel
theorem d_X0_keep_23 : decode m_X0_keep.2.1 23 = .ok (.aload_n 2, 1) := by decide +kernel
theorem d_X0_keep_24 : decode m_X0_keep.2.1 24 = .ok (.getfield 51, 3) := by decide +kernel
theorem d_X0_keep_27 : decode m_X0_keep.2.1 27 = .ok (.if_icmp .ge 55, 3) := by decide +kernel
theorem d_X0_keep_30 : decode m_X0_keep.2.1 30 = .ok (.iload 5, 2) := by decide +kernel
theorem d_X0_keep_32 : decode m_X0_keep.2.1 32 = .ok (.sipush 400, 3) := by decide +kernel
theorem d_X0_keep_35 : decode m_X0_keep.2.1 35 = .ok (.if_icmp .ge 47, 3) := by decide +kernel
theorem d_X0_keep_38 : decode m_X0_keep.2.1 38 = .ok (.aload_n 0, 1) := by decide +kernel
theorem d_X0_keep_39 : decode m_X0_keep.2.1 39 = .ok (.getfield 18, 3) := by decide +kernel
theorem d_X0_keep_42 : decode m_X0_keep.2.1 42 = .ok (.iload 5, 2) := by decide +kernel
theorem d_X0_keep_44 : decode m_X0_keep.2.1 44 = .ok (.aload_n 2, 1) := by decide +kernel
theorem d_X0_keep_45 : decode m_X0_keep.2.1 45 = .ok (.iload 5, 2) := by decide +kernel
theorem d_X0_keep_47 : decode m_X0_keep.2.1 47 = .ok (.iconst 0, 1) := by decide +kernel
theorem d_X0_keep_48 : decode m_X0_keep.2.1 48 = .ok (.invokevirtual 52, 3) := by decide +kernel
theorem d_X0_keep_51 : decode m_X0_keep.2.1 51 = .ok (.iastore, 1) := by decide +kernel
theorem d_X0_keep_52 : decode m_X0_keep.2.1 52 = .ok (.aload_n 0, 1) := by decide +kernel
theorem d_X0_keep_53 : decode m_X0_keep.2.1 53 = .ok (.getfield 22, 3) := by decide +kernel
theorem d_X0_keep_56 : decode m_X0_keep.2.1 56 = .ok (.iload 5, 2) := by decide +kernel
theorem d_X0_keep_58 : decode m_X0_keep.2.1 58 = .ok (.aload_n 2, 1) := by decide +kernel
theorem d_X0_keep_59 : decode m_X0_keep.2.1 59 = .ok (.iload 5, 2) := by decide +kernel
theorem d_X0_keep_61 : decode m_X0_keep.2.1 61 = .ok (.iconst 1, 1) := by decide +kernel
theorem d_X0_keep_62 : decode m_X0_keep.2.1 62 = .ok (.invokevirtual 52, 3) := by decide +kernel
theorem d_X0_keep_65 : decode m_X0_keep.2.1 65 = .ok (.iastore, 1) := by decide +kernel
theorem d_X0_keep_66 : decode m_X0_keep.2.1 66 = .ok (.aload_n 0, 1) := by decide +kernel
theorem d_X0_keep_67 : decode m_X0_keep.2.1 67 = .ok (.dup, 1) := by decide +kernel
theorem d_X0_keep_68 : decode m_X0_keep.2.1 68 = .ok (.getfield 47, 3) := by decide +kernel
theorem d_X0_keep_71 : decode m_X0_keep.2.1 71 = .ok (.iconst 1, 1) := by decide +kernel
theorem d_X0_keep_72 : decode m_X0_keep.2.1 72 = .ok (.iadd, 1) := by decide +kernel
theorem d_X0_keep_73 : decode m_X0_keep.2.1 73 = .ok (.putfield 47, 3) := by decide +kernel
theorem d_X0_keep_76 : decode m_X0_keep.2.1 76 = .ok (.iinc 5 1, 3) := by decide +kernel
theorem d_X0_keep_79 : decode m_X0_keep.2.1 79 = .ok (.goto (-58), 3) := by decide +kernel
theorem d_X0_keep_82 : decode m_X0_keep.2.1 82 = .ok (.aload_n 0, 1) := by decide +kernel
theorem d_X0_keep_83 : decode m_X0_keep.2.1 83 = .ok (.getfield 28, 3) := by decide +kernel
theorem d_X0_keep_86 : decode m_X0_keep.2.1 86 = .ok (.aload_n 3, 1) := by decide +kernel
theorem d_X0_keep_87 : decode m_X0_keep.2.1 87 = .ok (.invokevirtual 56, 3) := by decide +kernel
theorem d_X0_keep_90 : decode m_X0_keep.2.1 90 = .ok (.aload_n 0, 1) := by decide +kernel
theorem d_X0_keep_91 : decode m_X0_keep.2.1 91 = .ok (.getfield 35, 3) := by decide +kernel
theorem d_X0_keep_94 : decode m_X0_keep.2.1 94 = .ok (.aload 4, 2) := by decide +kernel
theorem d_X0_keep_96 : decode m_X0_keep.2.1 96 = .ok (.invokevirtual 59, 3) := by decide +kernel
theorem d_X0_keep_99 : decode m_X0_keep.2.1 99 = .ok (.return_, 1) := by decide +kernel
set_option maxRecDepth 20000 in
theorem e_X0_keep {E : jm_E} {d : Nat} {μ : jm_M} {Q : Option jm_V → jm_M → Prop} {v0 v1 v2 v3 v4 : Int} (h : (∀ v ∈ ([jm_R v0, jm_R v1, jm_R v2, jm_R v3, jm_R v4] : List jm_V), jm_ok v) →
  (jm_is jm_N v0 1 0) ∧
  jc E m_X5_copy d [jm_R ((v0 + 1)), jm_R v1] (jm_up μ v0 0 1) (fun (o : Option jm_V) (m2 : jm_M) => o = none →
  jg E m_X0_keep d 21 [some (jm_R v0), none, some (jm_R v2), some (jm_R v3), some (jm_R v4), some (jm_I 0)] [] (jm_up m2 v0 2 0) Q)) : jc E m_X0_keep (d + 1) [jm_R v0, jm_R v1, jm_R v2, jm_R v3, jm_R v4] μ Q := by
  refine jm_Cl.of2 (by decide +kernel) (L0 := [some (jm_R v0), some (jm_R v1), some (jm_R v2), some (jm_R v3), some (jm_R v4), none]) rfl (Nat.le_of_ble_eq_true rfl) (fun hok => ?_)
  have h := h hok
  refine jm_aloadn d_X0_keep_0 rfl ?_
  refine jm_iconst (v := 1) d_X0_keep_1 rfl (jm_okI (by decide) (by decide)) ?_
  obtain ⟨f1, h⟩ := h
  refine jm_putZ (k := 0) (ki := 0) cf_X0 (Nat.le_of_ble_eq_true rfl) f_X0_39 d_X0_keep_2 (fun z => absurd z (by decide)) rfl rfl rfl (by decide) (fun _ => rfl) f1 ?_
  refine jm_aloadn d_X0_keep_5 rfl ?_
  refine jm_getF (k := 1) (ki := 1) rfl cf_X0 (Nat.le_of_ble_eq_true rfl) f_X0_10 d_X0_keep_6 rfl rfl f1 (fc_0_1 f1) ?_
  refine jm_aloadn d_X0_keep_9 rfl ?_
  refine jm_invV (n1 := jm_N) (mc := 0) (ms := 0) (av := [jm_R _]) w_X5_copy l_X0_43 d_X0_keep_10 rfl (ic_0_1 f1) ⟨_, _, rfl⟩ ⟨Nat.le_refl _, Nat.le_refl _⟩ (Nat.le_of_ble_eq_true rfl) rfl ?_
  refine jm_Cl.mono h (fun o m2 h hr _ => ?_)
  obtain rfl := jm_rokV hr
  have h := h rfl
  refine jm_aloadn d_X0_keep_13 rfl ?_
  refine jm_iconst (v := 0) d_X0_keep_14 rfl (jm_okI (by decide) (by decide)) ?_
  refine jm_putI (k := 2) (ki := 2) cf_X0 (Nat.le_of_ble_eq_true rfl) f_X0_47 d_X0_keep_15 (fun z => absurd z (by decide)) rfl rfl rfl (fun _ => rfl) f1 ?_
  refine jm_iconst (v := 0) d_X0_keep_18 rfl (jm_okI (by decide) (by decide)) ?_
  refine jm_istore (L' := [some (jm_R _), some (jm_R _), some (jm_R _), some (jm_R _), some (jm_R _), some (jm_I _)]) d_X0_keep_19 (Nat.le_of_ble_eq_true rfl) rfl ?_
  exact jm_weak2 h (And.intro rfl (And.intro rfl (And.intro rfl (And.intro rfl (And.intro rfl trivial)))))
set_option maxRecDepth 20000 in
theorem r_X0_keep_21 {E : jm_E} {d : Nat} {μ : jm_M} {Q : Option jm_V → jm_M → Prop} {v0 v2 v3 v4 v5 : Int} (h :
  (jm_is jm_N v2 1 6) ∧
  ((μ v2 1 ≤ v5 →
    (jm_is jm_N v0 1 0) ∧
    jc E m_X1_copy d [jm_R ((v0 + 12)), jm_R v3] μ (fun (o : Option jm_V) (m4 : jm_M) => o = none →
    jc E m_X4_copy d [jm_R ((v0 + 15)), jm_R v4] m4 (fun (o : Option jm_V) (m5 : jm_M) => o = none →
    Q none m5))) ∧
   (¬ (μ v2 1 ≤ v5) →
    ((400 ≤ v5 →
      (jm_is jm_N v0 1 0) ∧
      jc E m_X1_copy d [jm_R ((v0 + 12)), jm_R v3] μ (fun (o : Option jm_V) (m8 : jm_M) => o = none →
      jc E m_X4_copy d [jm_R ((v0 + 15)), jm_R v4] m8 (fun (o : Option jm_V) (m9 : jm_M) => o = none →
      Q none m9))) ∧
     (¬ (400 ≤ v5) →
      (jm_is jm_N v0 1 0) ∧
      jc E m_X6_tell d [jm_R v2, jm_I v5, jm_I 0] μ (fun (o : Option jm_V) (m11 : jm_M) => ∀ r12 : Int, o = some (jm_I r12) →
      (0 ≤ v5 ∧ v5 < 400) ∧
      ∀ m14 : jm_M, m14 = (jm_up m11 ((v0 + 10)) v5 r12) →
      jc E m_X6_tell d [jm_R v2, jm_I v5, jm_I 1] m14 (fun (o : Option jm_V) (m15 : jm_M) => ∀ r16 : Int, o = some (jm_I r16) →
      ∀ m17 : jm_M, m17 = (jm_up m15 ((v0 + 11)) v5 r16) →
      jg E m_X0_keep d 21 [some (jm_R v0), none, some (jm_R v2), some (jm_R v3), some (jm_R v4), some (jm_I (jm_wr (v5 + 1)))] [] (jm_up m17 v0 2 (jm_wr ((m17 v0 2) + 1))) Q))))))) : jg E m_X0_keep d 21 [some (jm_R v0), none, some (jm_R v2), some (jm_R v3), some (jm_R v4), some (jm_I v5)] [] μ Q := by
  refine jm_iload d_X0_keep_21 rfl ?_
  refine jm_aloadn d_X0_keep_23 rfl ?_
  obtain ⟨f1, h⟩ := h
  refine jm_getI (k := 1) (ki := 1) cf_X6 (Nat.le_of_ble_eq_true rfl) f_X0_51 d_X0_keep_24 rfl rfl f1 rfl ?_
  refine jm_icmp_ge (tgt := 82) d_X0_keep_27 (by decide) (fun c2 => ?_) (fun c2 => ?_)
  · have h := h.1 c2
    refine jm_aloadn d_X0_keep_82 rfl ?_
    obtain ⟨f3, h⟩ := h
    refine jm_getF (k := 5) (ki := 5) rfl cf_X0 (Nat.le_of_ble_eq_true rfl) f_X0_28 d_X0_keep_83 rfl rfl f3 (fc_0_5 f3) ?_
    refine jm_aloadn d_X0_keep_86 rfl ?_
    refine jm_invV (n1 := jm_N) (mc := 0) (ms := 0) (av := [jm_R _]) w_X1_copy l_X0_56 d_X0_keep_87 rfl (ic_0_5 f3) ⟨_, _, rfl⟩ ⟨Nat.le_refl _, Nat.le_refl _⟩ (Nat.le_of_ble_eq_true rfl) rfl ?_
    refine jm_Cl.mono h (fun o m4 h hr _ => ?_)
    obtain rfl := jm_rokV hr
    have h := h rfl
    refine jm_aloadn d_X0_keep_90 rfl ?_
    refine jm_getF (k := 6) (ki := 6) rfl cf_X0 (Nat.le_of_ble_eq_true rfl) f_X0_35 d_X0_keep_91 rfl rfl f3 (fc_0_6 f3) ?_
    refine jm_aload d_X0_keep_94 rfl ?_
    refine jm_invV (n1 := jm_N) (mc := 0) (ms := 0) (av := [jm_R _]) w_X4_copy l_X0_59 d_X0_keep_96 rfl (ic_0_6 f3) ⟨_, _, rfl⟩ ⟨Nat.le_refl _, Nat.le_refl _⟩ (Nat.le_of_ble_eq_true rfl) rfl ?_
    refine jm_Cl.mono h (fun o m5 h hr _ => ?_)
    obtain rfl := jm_rokV hr
    have h := h rfl
    exact jm_ret (o := none) d_X0_keep_99 rfl ⟨Nat.le_refl _, Nat.le_refl _⟩ jm_r_V h rfl
  · have h := h.2 c2
    refine jm_iload d_X0_keep_30 rfl ?_
    refine jm_sipush (v := 400) d_X0_keep_32 rfl (jm_okI (by decide) (by decide)) ?_
    refine jm_icmp_ge (tgt := 82) d_X0_keep_35 (by decide) (fun c6 => ?_) (fun c6 => ?_)
    · have h := h.1 c6
      refine jm_aloadn d_X0_keep_82 rfl ?_
      obtain ⟨f7, h⟩ := h
      refine jm_getF (k := 5) (ki := 5) rfl cf_X0 (Nat.le_of_ble_eq_true rfl) f_X0_28 d_X0_keep_83 rfl rfl f7 (fc_0_5 f7) ?_
      refine jm_aloadn d_X0_keep_86 rfl ?_
      refine jm_invV (n1 := jm_N) (mc := 0) (ms := 0) (av := [jm_R _]) w_X1_copy l_X0_56 d_X0_keep_87 rfl (ic_0_5 f7) ⟨_, _, rfl⟩ ⟨Nat.le_refl _, Nat.le_refl _⟩ (Nat.le_of_ble_eq_true rfl) rfl ?_
      refine jm_Cl.mono h (fun o m8 h hr _ => ?_)
      obtain rfl := jm_rokV hr
      have h := h rfl
      refine jm_aloadn d_X0_keep_90 rfl ?_
      refine jm_getF (k := 6) (ki := 6) rfl cf_X0 (Nat.le_of_ble_eq_true rfl) f_X0_35 d_X0_keep_91 rfl rfl f7 (fc_0_6 f7) ?_
      refine jm_aload d_X0_keep_94 rfl ?_
      refine jm_invV (n1 := jm_N) (mc := 0) (ms := 0) (av := [jm_R _]) w_X4_copy l_X0_59 d_X0_keep_96 rfl (ic_0_6 f7) ⟨_, _, rfl⟩ ⟨Nat.le_refl _, Nat.le_refl _⟩ (Nat.le_of_ble_eq_true rfl) rfl ?_
      refine jm_Cl.mono h (fun o m9 h hr _ => ?_)
      obtain rfl := jm_rokV hr
      have h := h rfl
      exact jm_ret (o := none) d_X0_keep_99 rfl ⟨Nat.le_refl _, Nat.le_refl _⟩ jm_r_V h rfl
    · have h := h.2 c6
      refine jm_aloadn d_X0_keep_38 rfl ?_
      obtain ⟨f10, h⟩ := h
      refine jm_getF (k := 3) (ki := 3) rfl cf_X0 (Nat.le_of_ble_eq_true rfl) f_X0_18 d_X0_keep_39 rfl rfl f10 (fc_0_3 f10) ?_
      refine jm_iload d_X0_keep_42 rfl ?_
      refine jm_aloadn d_X0_keep_44 rfl ?_
      refine jm_iload d_X0_keep_45 rfl ?_
      refine jm_iconst (v := 0) d_X0_keep_47 rfl (jm_okI (by decide) (by decide)) ?_
      refine jm_invV (n1 := jm_N) (mc := 0) (ms := 0) (av := [jm_I _, jm_I _]) w_X6_tell l_X0_52 d_X0_keep_48 rfl f1 ⟨_, _, rfl⟩ ⟨Nat.le_refl _, Nat.le_refl _⟩ (Nat.le_of_ble_eq_true rfl) rfl ?_
      refine jm_Cl.mono h (fun o m11 h hr _ => ?_)
      obtain ⟨r12, rfl⟩ := jm_rokI hr
      have h := h _ rfl
      obtain ⟨f13, h⟩ := h
      refine jm_iastore d_X0_keep_51 (xc_0_3 f10 f13.1 f13.2) ?_
      have h := h _ rfl
      refine jm_aloadn d_X0_keep_52 rfl ?_
      refine jm_getF (k := 4) (ki := 4) rfl cf_X0 (Nat.le_of_ble_eq_true rfl) f_X0_22 d_X0_keep_53 rfl rfl f10 (fc_0_4 f10) ?_
      refine jm_iload d_X0_keep_56 rfl ?_
      refine jm_aloadn d_X0_keep_58 rfl ?_
      refine jm_iload d_X0_keep_59 rfl ?_
      refine jm_iconst (v := 1) d_X0_keep_61 rfl (jm_okI (by decide) (by decide)) ?_
      refine jm_invV (n1 := jm_N) (mc := 0) (ms := 0) (av := [jm_I _, jm_I _]) w_X6_tell l_X0_52 d_X0_keep_62 rfl f1 ⟨_, _, rfl⟩ ⟨Nat.le_refl _, Nat.le_refl _⟩ (Nat.le_of_ble_eq_true rfl) rfl ?_
      refine jm_Cl.mono h (fun o m15 h hr _ => ?_)
      obtain ⟨r16, rfl⟩ := jm_rokI hr
      have h := h _ rfl
      refine jm_iastore d_X0_keep_65 (xc_0_4 f10 f13.1 f13.2) ?_
      have h := h _ rfl
      refine jm_aloadn d_X0_keep_66 rfl ?_
      refine jm_dup rfl d_X0_keep_67 ?_
      refine jm_getI (k := 2) (ki := 2) cf_X0 (Nat.le_of_ble_eq_true rfl) f_X0_47 d_X0_keep_68 rfl rfl f10 rfl ?_
      refine jm_iconst (v := 1) d_X0_keep_71 rfl (jm_okI (by decide) (by decide)) ?_
      refine jm_iadd d_X0_keep_72 ?_
      refine jm_putI (k := 2) (ki := 2) cf_X0 (Nat.le_of_ble_eq_true rfl) f_X0_47 d_X0_keep_73 (fun z => absurd z (by decide)) rfl rfl rfl (fun _ => rfl) f10 ?_
      refine jm_iinc (L' := [some (jm_R _), none, some (jm_R _), some (jm_R _), some (jm_R _), some (jm_I _)]) d_X0_keep_76 rfl rfl (Nat.le_of_ble_eq_true rfl) rfl ?_
      refine jm_goto (tgt := 21) d_X0_keep_79 (by decide) ?_
      exact h
/-! ('CombTable$Image', 'giveBack', '(LCombTable$Table;LCombTable$Talk;LCombTable$Minutes;LCombTable$Sentence;)V') -/
theorem d_X0_giveBack_0 : decode m_X0_giveBack.2.1 0 = .ok (.aload_n 1, 1) := by decide +kernel
theorem d_X0_giveBack_1 : decode m_X0_giveBack.2.1 1 = .ok (.aload_n 0, 1) := by decide +kernel
theorem d_X0_giveBack_2 : decode m_X0_giveBack.2.1 2 = .ok (.getfield 10, 3) := by decide +kernel
theorem d_X0_giveBack_5 : decode m_X0_giveBack.2.1 5 = .ok (.invokevirtual 43, 3) := by decide +kernel
theorem d_X0_giveBack_8 : decode m_X0_giveBack.2.1 8 = .ok (.aload_n 2, 1) := by decide +kernel
theorem d_X0_giveBack_9 : decode m_X0_giveBack.2.1 9 = .ok (.aload_n 1, 1) := by decide +kernel
theorem d_X0_giveBack_10 : decode m_X0_giveBack.2.1 10 = .ok (.invokevirtual 62, 3) := by decide +kernel
theorem d_X0_giveBack_13 : decode m_X0_giveBack.2.1 13 = .ok (.iconst 0, 1) := by decide +kernel
theorem d_X0_giveBack_14 : decode m_X0_giveBack.2.1 14 = .ok (.istore 5, 2) := by decide +kernel
theorem d_X0_giveBack_16 : decode m_X0_giveBack.2.1 16 = .ok (.iload 5, 2) := by decide +kernel
theorem d_X0_giveBack_18 : decode m_X0_giveBack.2.1 18 = .ok (.aload_n 0, 1) := by decide +kernel
theorem d_X0_giveBack_19 : decode m_X0_giveBack.2.1 19 = .ok (.getfield 47, 3) := by decide +kernel
theorem d_X0_giveBack_22 : decode m_X0_giveBack.2.1 22 = .ok (.if_icmp .ge 35, 3) := by decide +kernel
theorem d_X0_giveBack_25 : decode m_X0_giveBack.2.1 25 = .ok (.iload 5, 2) := by decide +kernel
theorem d_X0_giveBack_27 : decode m_X0_giveBack.2.1 27 = .ok (.sipush 400, 3) := by decide +kernel
theorem d_X0_giveBack_30 : decode m_X0_giveBack.2.1 30 = .ok (.if_icmp .ge 27, 3) := by decide +kernel
theorem d_X0_giveBack_33 : decode m_X0_giveBack.2.1 33 = .ok (.aload_n 2, 1) := by decide +kernel
theorem d_X0_giveBack_34 : decode m_X0_giveBack.2.1 34 = .ok (.aload_n 0, 1) := by decide +kernel
theorem d_X0_giveBack_35 : decode m_X0_giveBack.2.1 35 = .ok (.getfield 18, 3) := by decide +kernel
theorem d_X0_giveBack_38 : decode m_X0_giveBack.2.1 38 = .ok (.iload 5, 2) := by decide +kernel
theorem d_X0_giveBack_40 : decode m_X0_giveBack.2.1 40 = .ok (.iaload, 1) := by decide +kernel
theorem d_X0_giveBack_41 : decode m_X0_giveBack.2.1 41 = .ok (.aload_n 0, 1) := by decide +kernel
theorem d_X0_giveBack_42 : decode m_X0_giveBack.2.1 42 = .ok (.getfield 22, 3) := by decide +kernel
theorem d_X0_giveBack_45 : decode m_X0_giveBack.2.1 45 = .ok (.iload 5, 2) := by decide +kernel
theorem d_X0_giveBack_47 : decode m_X0_giveBack.2.1 47 = .ok (.iaload, 1) := by decide +kernel
theorem d_X0_giveBack_48 : decode m_X0_giveBack.2.1 48 = .ok (.invokevirtual 65, 3) := by decide +kernel
theorem d_X0_giveBack_51 : decode m_X0_giveBack.2.1 51 = .ok (.iinc 5 1, 3) := by decide +kernel
theorem d_X0_giveBack_54 : decode m_X0_giveBack.2.1 54 = .ok (.goto (-38), 3) := by decide +kernel
theorem d_X0_giveBack_57 : decode m_X0_giveBack.2.1 57 = .ok (.aload_n 3, 1) := by decide +kernel
theorem d_X0_giveBack_58 : decode m_X0_giveBack.2.1 58 = .ok (.aload_n 0, 1) := by decide +kernel
theorem d_X0_giveBack_59 : decode m_X0_giveBack.2.1 59 = .ok (.getfield 28, 3) := by decide +kernel
theorem d_X0_giveBack_62 : decode m_X0_giveBack.2.1 62 = .ok (.invokevirtual 56, 3) := by decide +kernel
theorem d_X0_giveBack_65 : decode m_X0_giveBack.2.1 65 = .ok (.aload 4, 2) := by decide +kernel
theorem d_X0_giveBack_67 : decode m_X0_giveBack.2.1 67 = .ok (.aload_n 0, 1) := by decide +kernel
theorem d_X0_giveBack_68 : decode m_X0_giveBack.2.1 68 = .ok (.getfield 35, 3) := by decide +kernel
theorem d_X0_giveBack_71 : decode m_X0_giveBack.2.1 71 = .ok (.invokevirtual 59, 3) := by decide +kernel
theorem d_X0_giveBack_74 : decode m_X0_giveBack.2.1 74 = .ok (.return_, 1) := by decide +kernel
set_option maxRecDepth 20000 in
theorem e_X0_giveBack {E : jm_E} {d : Nat} {μ : jm_M} {Q : Option jm_V → jm_M → Prop} {v0 v1 v2 v3 v4 : Int} (h : (∀ v ∈ ([jm_R v0, jm_R v1, jm_R v2, jm_R v3, jm_R v4] : List jm_V), jm_ok v) →
  (jm_is jm_N v0 1 0) ∧
  (jm_is jm_N v1 1 5) ∧
  jc E m_X5_copy d [jm_R v1, jm_R ((v0 + 1))] μ (fun (o : Option jm_V) (m2 : jm_M) => o = none →
  (jm_is jm_N v2 1 6) ∧
  jc E m_X6_begin d [jm_R v2, jm_R v1] m2 (fun (o : Option jm_V) (m4 : jm_M) => o = none →
  jg E m_X0_giveBack d 16 [some (jm_R v0), none, some (jm_R v2), some (jm_R v3), some (jm_R v4), some (jm_I 0)] [] m4 Q))) : jc E m_X0_giveBack (d + 1) [jm_R v0, jm_R v1, jm_R v2, jm_R v3, jm_R v4] μ Q := by
  refine jm_Cl.of2 (by decide +kernel) (L0 := [some (jm_R v0), some (jm_R v1), some (jm_R v2), some (jm_R v3), some (jm_R v4), none]) rfl (Nat.le_of_ble_eq_true rfl) (fun hok => ?_)
  have h := h hok
  refine jm_aloadn d_X0_giveBack_0 rfl ?_
  refine jm_aloadn d_X0_giveBack_1 rfl ?_
  obtain ⟨f1, h⟩ := h
  refine jm_getF (k := 1) (ki := 1) rfl cf_X0 (Nat.le_of_ble_eq_true rfl) f_X0_10 d_X0_giveBack_2 rfl rfl f1 (fc_0_1 f1) ?_
  obtain ⟨f3, h⟩ := h
  refine jm_invV (n1 := jm_N) (mc := 0) (ms := 0) (av := [jm_R _]) w_X5_copy l_X0_43 d_X0_giveBack_5 rfl f3 ⟨_, _, rfl⟩ ⟨Nat.le_refl _, Nat.le_refl _⟩ (Nat.le_of_ble_eq_true rfl) rfl ?_
  refine jm_Cl.mono h (fun o m2 h hr _ => ?_)
  obtain rfl := jm_rokV hr
  have h := h rfl
  refine jm_aloadn d_X0_giveBack_8 rfl ?_
  refine jm_aloadn d_X0_giveBack_9 rfl ?_
  obtain ⟨f5, h⟩ := h
  refine jm_invV (n1 := jm_N) (mc := 0) (ms := 0) (av := [jm_R _]) w_X6_begin l_X0_62 d_X0_giveBack_10 rfl f5 ⟨_, _, rfl⟩ ⟨Nat.le_refl _, Nat.le_refl _⟩ (Nat.le_of_ble_eq_true rfl) rfl ?_
  refine jm_Cl.mono h (fun o m4 h hr _ => ?_)
  obtain rfl := jm_rokV hr
  have h := h rfl
  refine jm_iconst (v := 0) d_X0_giveBack_13 rfl (jm_okI (by decide) (by decide)) ?_
  refine jm_istore (L' := [some (jm_R _), some (jm_R _), some (jm_R _), some (jm_R _), some (jm_R _), some (jm_I _)]) d_X0_giveBack_14 (Nat.le_of_ble_eq_true rfl) rfl ?_
  exact jm_weak2 h (And.intro rfl (And.intro rfl (And.intro rfl (And.intro rfl (And.intro rfl trivial)))))
set_option maxRecDepth 20000 in
theorem r_X0_giveBack_16 {E : jm_E} {d : Nat} {μ : jm_M} {Q : Option jm_V → jm_M → Prop} {v0 v2 v3 v4 v5 : Int} (h :
  (jm_is jm_N v0 1 0) ∧
  ((μ v0 2 ≤ v5 →
    (jm_is jm_N v3 1 1) ∧
    jc E m_X1_copy d [jm_R v3, jm_R ((v0 + 12))] μ (fun (o : Option jm_V) (m3 : jm_M) => o = none →
    (jm_is jm_N v4 1 4) ∧
    jc E m_X4_copy d [jm_R v4, jm_R ((v0 + 15))] m3 (fun (o : Option jm_V) (m5 : jm_M) => o = none →
    Q none m5))) ∧
   (¬ (μ v0 2 ≤ v5) →
    ((400 ≤ v5 →
      (jm_is jm_N v3 1 1) ∧
      jc E m_X1_copy d [jm_R v3, jm_R ((v0 + 12))] μ (fun (o : Option jm_V) (m8 : jm_M) => o = none →
      (jm_is jm_N v4 1 4) ∧
      jc E m_X4_copy d [jm_R v4, jm_R ((v0 + 15))] m8 (fun (o : Option jm_V) (m10 : jm_M) => o = none →
      Q none m10))) ∧
     (¬ (400 ≤ v5) →
      (0 ≤ v5 ∧ v5 < 400) ∧
      (jm_is jm_N v2 1 6) ∧
      jc E m_X6_add d [jm_R v2, jm_I (μ ((v0 + 10)) v5), jm_I (μ ((v0 + 11)) v5)] μ (fun (o : Option jm_V) (m13 : jm_M) => o = none →
      jg E m_X0_giveBack d 16 [some (jm_R v0), none, some (jm_R v2), some (jm_R v3), some (jm_R v4), some (jm_I (jm_wr (v5 + 1)))] [] m13 Q)))))) : jg E m_X0_giveBack d 16 [some (jm_R v0), none, some (jm_R v2), some (jm_R v3), some (jm_R v4), some (jm_I v5)] [] μ Q := by
  refine jm_iload d_X0_giveBack_16 rfl ?_
  refine jm_aloadn d_X0_giveBack_18 rfl ?_
  obtain ⟨f1, h⟩ := h
  refine jm_getI (k := 2) (ki := 2) cf_X0 (Nat.le_of_ble_eq_true rfl) f_X0_47 d_X0_giveBack_19 rfl rfl f1 rfl ?_
  refine jm_icmp_ge (tgt := 57) d_X0_giveBack_22 (by decide) (fun c2 => ?_) (fun c2 => ?_)
  · have h := h.1 c2
    refine jm_aloadn d_X0_giveBack_57 rfl ?_
    refine jm_aloadn d_X0_giveBack_58 rfl ?_
    refine jm_getF (k := 5) (ki := 5) rfl cf_X0 (Nat.le_of_ble_eq_true rfl) f_X0_28 d_X0_giveBack_59 rfl rfl f1 (fc_0_5 f1) ?_
    obtain ⟨f4, h⟩ := h
    refine jm_invV (n1 := jm_N) (mc := 0) (ms := 0) (av := [jm_R _]) w_X1_copy l_X0_56 d_X0_giveBack_62 rfl f4 ⟨_, _, rfl⟩ ⟨Nat.le_refl _, Nat.le_refl _⟩ (Nat.le_of_ble_eq_true rfl) rfl ?_
    refine jm_Cl.mono h (fun o m3 h hr _ => ?_)
    obtain rfl := jm_rokV hr
    have h := h rfl
    refine jm_aload d_X0_giveBack_65 rfl ?_
    refine jm_aloadn d_X0_giveBack_67 rfl ?_
    refine jm_getF (k := 6) (ki := 6) rfl cf_X0 (Nat.le_of_ble_eq_true rfl) f_X0_35 d_X0_giveBack_68 rfl rfl f1 (fc_0_6 f1) ?_
    obtain ⟨f6, h⟩ := h
    refine jm_invV (n1 := jm_N) (mc := 0) (ms := 0) (av := [jm_R _]) w_X4_copy l_X0_59 d_X0_giveBack_71 rfl f6 ⟨_, _, rfl⟩ ⟨Nat.le_refl _, Nat.le_refl _⟩ (Nat.le_of_ble_eq_true rfl) rfl ?_
    refine jm_Cl.mono h (fun o m5 h hr _ => ?_)
    obtain rfl := jm_rokV hr
    have h := h rfl
    exact jm_ret (o := none) d_X0_giveBack_74 rfl ⟨Nat.le_refl _, Nat.le_refl _⟩ jm_r_V h rfl
  · have h := h.2 c2
    refine jm_iload d_X0_giveBack_25 rfl ?_
    refine jm_sipush (v := 400) d_X0_giveBack_27 rfl (jm_okI (by decide) (by decide)) ?_
    refine jm_icmp_ge (tgt := 57) d_X0_giveBack_30 (by decide) (fun c7 => ?_) (fun c7 => ?_)
    · have h := h.1 c7
      refine jm_aloadn d_X0_giveBack_57 rfl ?_
      refine jm_aloadn d_X0_giveBack_58 rfl ?_
      refine jm_getF (k := 5) (ki := 5) rfl cf_X0 (Nat.le_of_ble_eq_true rfl) f_X0_28 d_X0_giveBack_59 rfl rfl f1 (fc_0_5 f1) ?_
      obtain ⟨f9, h⟩ := h
      refine jm_invV (n1 := jm_N) (mc := 0) (ms := 0) (av := [jm_R _]) w_X1_copy l_X0_56 d_X0_giveBack_62 rfl f9 ⟨_, _, rfl⟩ ⟨Nat.le_refl _, Nat.le_refl _⟩ (Nat.le_of_ble_eq_true rfl) rfl ?_
      refine jm_Cl.mono h (fun o m8 h hr _ => ?_)
      obtain rfl := jm_rokV hr
      have h := h rfl
      refine jm_aload d_X0_giveBack_65 rfl ?_
      refine jm_aloadn d_X0_giveBack_67 rfl ?_
      refine jm_getF (k := 6) (ki := 6) rfl cf_X0 (Nat.le_of_ble_eq_true rfl) f_X0_35 d_X0_giveBack_68 rfl rfl f1 (fc_0_6 f1) ?_
      obtain ⟨f11, h⟩ := h
      refine jm_invV (n1 := jm_N) (mc := 0) (ms := 0) (av := [jm_R _]) w_X4_copy l_X0_59 d_X0_giveBack_71 rfl f11 ⟨_, _, rfl⟩ ⟨Nat.le_refl _, Nat.le_refl _⟩ (Nat.le_of_ble_eq_true rfl) rfl ?_
      refine jm_Cl.mono h (fun o m10 h hr _ => ?_)
      obtain rfl := jm_rokV hr
      have h := h rfl
      exact jm_ret (o := none) d_X0_giveBack_74 rfl ⟨Nat.le_refl _, Nat.le_refl _⟩ jm_r_V h rfl
    · have h := h.2 c7
      refine jm_aloadn d_X0_giveBack_33 rfl ?_
      refine jm_aloadn d_X0_giveBack_34 rfl ?_
      refine jm_getF (k := 3) (ki := 3) rfl cf_X0 (Nat.le_of_ble_eq_true rfl) f_X0_18 d_X0_giveBack_35 rfl rfl f1 (fc_0_3 f1) ?_
      refine jm_iload d_X0_giveBack_38 rfl ?_
      obtain ⟨f12, h⟩ := h
      refine jm_iaload d_X0_giveBack_40 (xc_0_3 f1 f12.1 f12.2) ?_
      refine jm_aloadn d_X0_giveBack_41 rfl ?_
      refine jm_getF (k := 4) (ki := 4) rfl cf_X0 (Nat.le_of_ble_eq_true rfl) f_X0_22 d_X0_giveBack_42 rfl rfl f1 (fc_0_4 f1) ?_
      refine jm_iload d_X0_giveBack_45 rfl ?_
      refine jm_iaload d_X0_giveBack_47 (xc_0_4 f1 f12.1 f12.2) ?_
      obtain ⟨f14, h⟩ := h
      refine jm_invV (n1 := jm_N) (mc := 0) (ms := 0) (av := [jm_I _, jm_I _]) w_X6_add l_X0_65 d_X0_giveBack_48 rfl f14 ⟨_, _, rfl⟩ ⟨Nat.le_refl _, Nat.le_refl _⟩ (Nat.le_of_ble_eq_true rfl) rfl ?_
      refine jm_Cl.mono h (fun o m13 h hr _ => ?_)
      obtain rfl := jm_rokV hr
      have h := h rfl
      refine jm_iinc (L' := [some (jm_R _), none, some (jm_R _), some (jm_R _), some (jm_R _), some (jm_I _)]) d_X0_giveBack_51 rfl rfl (Nat.le_of_ble_eq_true rfl) rfl ?_
      refine jm_goto (tgt := 16) d_X0_giveBack_54 (by decide) ?_
      exact h
-- X2_init: by hand (objinit)
/-! ('CombTable$Repair', 'leaveOut', '(LCombTable$Minutes;LCombTable$Talk;)I') -/
theorem d_X2_leaveOut_0 : decode m_X2_leaveOut.2.1 0 = .ok (.aload_n 0, 1) := by decide +kernel
theorem d_X2_leaveOut_1 : decode m_X2_leaveOut.2.1 1 = .ok (.bipush 15, 2) := by decide +kernel
theorem d_X2_leaveOut_3 : decode m_X2_leaveOut.2.1 3 = .ok (.putfield 22, 3) := by decide +kernel
theorem d_X2_leaveOut_6 : decode m_X2_leaveOut.2.1 6 = .ok (.aload_n 0, 1) := by decide +kernel
theorem d_X2_leaveOut_7 : decode m_X2_leaveOut.2.1 7 = .ok (.iconst 0, 1) := by decide +kernel
theorem d_X2_leaveOut_8 : decode m_X2_leaveOut.2.1 8 = .ok (.putfield 25, 3) := by decide +kernel
theorem d_X2_leaveOut_11 : decode m_X2_leaveOut.2.1 11 = .ok (.aload_n 0, 1) := by decide +kernel
theorem d_X2_leaveOut_12 : decode m_X2_leaveOut.2.1 12 = .ok (.aload_n 1, 1) := by decide +kernel
theorem d_X2_leaveOut_13 : decode m_X2_leaveOut.2.1 13 = .ok (.aload_n 2, 1) := by decide +kernel
theorem d_X2_leaveOut_14 : decode m_X2_leaveOut.2.1 14 = .ok (.iconst 0, 1) := by decide +kernel
theorem d_X2_leaveOut_15 : decode m_X2_leaveOut.2.1 15 = .ok (.iconst 0, 1) := by decide +kernel
theorem d_X2_leaveOut_16 : decode m_X2_leaveOut.2.1 16 = .ok (.iconst 0, 1) := by decide +kernel
theorem d_X2_leaveOut_17 : decode m_X2_leaveOut.2.1 17 = .ok (.invokevirtual 28, 3) := by decide +kernel
theorem d_X2_leaveOut_20 : decode m_X2_leaveOut.2.1 20 = .ok (.aload_n 0, 1) := by decide +kernel
theorem d_X2_leaveOut_21 : decode m_X2_leaveOut.2.1 21 = .ok (.aload_n 0, 1) := by decide +kernel
theorem d_X2_leaveOut_22 : decode m_X2_leaveOut.2.1 22 = .ok (.getfield 25, 3) := by decide +kernel
theorem d_X2_leaveOut_25 : decode m_X2_leaveOut.2.1 25 = .ok (.putfield 9, 3) := by decide +kernel
theorem d_X2_leaveOut_28 : decode m_X2_leaveOut.2.1 28 = .ok (.aload_n 0, 1) := by decide +kernel
theorem d_X2_leaveOut_29 : decode m_X2_leaveOut.2.1 29 = .ok (.getfield 22, 3) := by decide +kernel
theorem d_X2_leaveOut_32 : decode m_X2_leaveOut.2.1 32 = .ok (.ireturn, 1) := by decide +kernel
set_option maxRecDepth 20000 in
theorem e_X2_leaveOut {E : jm_E} {d : Nat} {μ : jm_M} {Q : Option jm_V → jm_M → Prop} {v1 v2 : Int} (h : (∀ v ∈ ([jm_R 130, jm_R v1, jm_R v2] : List jm_V), jm_ok v) →
  jc E m_X2_mendFrom d [jm_R 130, jm_R v1, jm_R v2, jm_I 0, jm_I 0, jm_I 0] (jm_up (jm_up μ 130 0 15) 130 1 0) (fun (o : Option jm_V) (m1 : jm_M) => o = none →
  Q (some (jm_I (m1 130 0))) (jm_up m1 130 2 (m1 130 1)))) : jc E m_X2_leaveOut (d + 1) [jm_R 130, jm_R v1, jm_R v2] μ Q := by
  refine jm_Cl.of2 (by decide +kernel) (L0 := [some (jm_R 130), some (jm_R v1), some (jm_R v2)]) rfl (Nat.le_of_ble_eq_true rfl) (fun hok => ?_)
  have h := h hok
  refine jm_aloadn d_X2_leaveOut_0 rfl ?_
  refine jm_bipush (v := 15) d_X2_leaveOut_1 rfl (jm_okI (by decide) (by decide)) ?_
  refine jm_putI (k := 0) (ki := 0) cf_X2 (Nat.le_of_ble_eq_true rfl) f_X2_22 d_X2_leaveOut_3 (fun z => absurd z (by decide)) rfl rfl rfl (fun _ => rfl) is_130 ?_
  refine jm_aloadn d_X2_leaveOut_6 rfl ?_
  refine jm_iconst (v := 0) d_X2_leaveOut_7 rfl (jm_okI (by decide) (by decide)) ?_
  refine jm_putI (k := 1) (ki := 1) cf_X2 (Nat.le_of_ble_eq_true rfl) f_X2_25 d_X2_leaveOut_8 (fun z => absurd z (by decide)) rfl rfl rfl (fun _ => rfl) is_130 ?_
  refine jm_aloadn d_X2_leaveOut_11 rfl ?_
  refine jm_aloadn d_X2_leaveOut_12 rfl ?_
  refine jm_aloadn d_X2_leaveOut_13 rfl ?_
  refine jm_iconst (v := 0) d_X2_leaveOut_14 rfl (jm_okI (by decide) (by decide)) ?_
  refine jm_iconst (v := 0) d_X2_leaveOut_15 rfl (jm_okI (by decide) (by decide)) ?_
  refine jm_iconst (v := 0) d_X2_leaveOut_16 rfl (jm_okI (by decide) (by decide)) ?_
  refine jm_invV (n1 := jm_N) (mc := 0) (ms := 0) (av := [jm_R _, jm_R _, jm_I _, jm_I _, jm_I _]) w_X2_mendFrom l_X2_28 d_X2_leaveOut_17 rfl is_130 ⟨_, _, rfl⟩ ⟨Nat.le_refl _, Nat.le_refl _⟩ (Nat.le_of_ble_eq_true rfl) rfl ?_
  refine jm_Cl.mono h (fun o m1 h hr _ => ?_)
  obtain rfl := jm_rokV hr
  have h := h rfl
  refine jm_aloadn d_X2_leaveOut_20 rfl ?_
  refine jm_aloadn d_X2_leaveOut_21 rfl ?_
  refine jm_getI (k := 1) (ki := 1) cf_X2 (Nat.le_of_ble_eq_true rfl) f_X2_25 d_X2_leaveOut_22 rfl rfl is_130 rfl ?_
  refine jm_putI (k := 2) (ki := 2) cf_X2 (Nat.le_of_ble_eq_true rfl) f_X2_9 d_X2_leaveOut_25 (fun z => absurd z (by decide)) rfl rfl rfl (fun _ => rfl) is_130 ?_
  refine jm_aloadn d_X2_leaveOut_28 rfl ?_
  refine jm_getI (k := 0) (ki := 0) cf_X2 (Nat.le_of_ble_eq_true rfl) f_X2_22 d_X2_leaveOut_29 rfl rfl is_130 ((jm_up_i (by decide)).trans rfl) ?_
  exact jm_ret (o := some (jm_I _)) d_X2_leaveOut_32 rfl ⟨Nat.le_refl _, Nat.le_refl _⟩ jm_r_I h rfl
/-! ('CombTable$Repair', 'mendFrom', '(LCombTable$Minutes;LCombTable$Talk;III)V') -/
theorem d_X2_mendFrom_0 : decode m_X2_mendFrom.2.1 0 = .ok (.iload 4, 2) := by decide +kernel
theorem d_X2_mendFrom_2 : decode m_X2_mendFrom.2.1 2 = .ok (.aload_n 0, 1) := by decide +kernel
theorem d_X2_mendFrom_3 : decode m_X2_mendFrom.2.1 3 = .ok (.getfield 22, 3) := by decide +kernel
theorem d_X2_mendFrom_6 : decode m_X2_mendFrom.2.1 6 = .ok (.if_icmp .le 4, 3) := by decide +kernel
theorem d_X2_mendFrom_9 : decode m_X2_mendFrom.2.1 9 = .ok (.return_, 1) := by decide +kernel
theorem d_X2_mendFrom_10 : decode m_X2_mendFrom.2.1 10 = .ok (.iload_n 3, 1) := by decide +kernel
theorem d_X2_mendFrom_11 : decode m_X2_mendFrom.2.1 11 = .ok (.aload_n 1, 1) := by decide +kernel
theorem d_X2_mendFrom_12 : decode m_X2_mendFrom.2.1 12 = .ok (.getfield 32, 3) := by decide +kernel
theorem d_X2_mendFrom_15 : decode m_X2_mendFrom.2.1 15 = .ok (.if_icmp .ge 9, 3) := by decide +kernel
theorem d_X2_mendFrom_18 : decode m_X2_mendFrom.2.1 18 = .ok (.iload_n 3, 1) := by decide +kernel
theorem d_X2_mendFrom_19 : decode m_X2_mendFrom.2.1 19 = .ok (.bipush 14, 2) := by decide +kernel
theorem d_X2_mendFrom_21 : decode m_X2_mendFrom.2.1 21 = .ok (.if_icmp .lt 34, 3) := by decide +kernel
theorem d_X2_mendFrom_24 : decode m_X2_mendFrom.2.1 24 = .ok (.iload 4, 2) := by decide +kernel
theorem d_X2_mendFrom_26 : decode m_X2_mendFrom.2.1 26 = .ok (.aload_n 0, 1) := by decide +kernel
theorem d_X2_mendFrom_27 : decode m_X2_mendFrom.2.1 27 = .ok (.getfield 22, 3) := by decide +kernel
theorem d_X2_mendFrom_30 : decode m_X2_mendFrom.2.1 30 = .ok (.if_icmp .lt 12, 3) := by decide +kernel
theorem d_X2_mendFrom_33 : decode m_X2_mendFrom.2.1 33 = .ok (.iload 5, 2) := by decide +kernel
theorem d_X2_mendFrom_35 : decode m_X2_mendFrom.2.1 35 = .ok (.aload_n 0, 1) := by decide +kernel
theorem d_X2_mendFrom_36 : decode m_X2_mendFrom.2.1 36 = .ok (.getfield 25, 3) := by decide +kernel
theorem d_X2_mendFrom_39 : decode m_X2_mendFrom.2.1 39 = .ok (.if_icmp .ge 15, 3) := by decide +kernel
theorem d_X2_mendFrom_42 : decode m_X2_mendFrom.2.1 42 = .ok (.aload_n 0, 1) := by decide +kernel
theorem d_X2_mendFrom_43 : decode m_X2_mendFrom.2.1 43 = .ok (.iload 4, 2) := by decide +kernel
theorem d_X2_mendFrom_45 : decode m_X2_mendFrom.2.1 45 = .ok (.putfield 22, 3) := by decide +kernel
theorem d_X2_mendFrom_48 : decode m_X2_mendFrom.2.1 48 = .ok (.aload_n 0, 1) := by decide +kernel
theorem d_X2_mendFrom_49 : decode m_X2_mendFrom.2.1 49 = .ok (.iload 5, 2) := by decide +kernel
theorem d_X2_mendFrom_51 : decode m_X2_mendFrom.2.1 51 = .ok (.putfield 25, 3) := by decide +kernel
theorem d_X2_mendFrom_54 : decode m_X2_mendFrom.2.1 54 = .ok (.return_, 1) := by decide +kernel
theorem d_X2_mendFrom_55 : decode m_X2_mendFrom.2.1 55 = .ok (.aload_n 1, 1) := by decide +kernel
theorem d_X2_mendFrom_56 : decode m_X2_mendFrom.2.1 56 = .ok (.iload_n 3, 1) := by decide +kernel
theorem d_X2_mendFrom_57 : decode m_X2_mendFrom.2.1 57 = .ok (.invokevirtual 37, 3) := by decide +kernel
theorem d_X2_mendFrom_60 : decode m_X2_mendFrom.2.1 60 = .ok (.istore 6, 2) := by decide +kernel
theorem d_X2_mendFrom_62 : decode m_X2_mendFrom.2.1 62 = .ok (.aload_n 1, 1) := by decide +kernel
theorem d_X2_mendFrom_63 : decode m_X2_mendFrom.2.1 63 = .ok (.iload_n 3, 1) := by decide +kernel
theorem d_X2_mendFrom_64 : decode m_X2_mendFrom.2.1 64 = .ok (.invokevirtual 41, 3) := by decide +kernel
theorem d_X2_mendFrom_67 : decode m_X2_mendFrom.2.1 67 = .ok (.istore 7, 2) := by decide +kernel
theorem d_X2_mendFrom_69 : decode m_X2_mendFrom.2.1 69 = .ok (.aload_n 2, 1) := by decide +kernel
theorem d_X2_mendFrom_70 : decode m_X2_mendFrom.2.1 70 = .ok (.iload 6, 2) := by decide +kernel
theorem d_X2_mendFrom_72 : decode m_X2_mendFrom.2.1 72 = .ok (.iload 7, 2) := by decide +kernel
theorem d_X2_mendFrom_74 : decode m_X2_mendFrom.2.1 74 = .ok (.invokevirtual 44, 3) := by decide +kernel
theorem d_X2_mendFrom_77 : decode m_X2_mendFrom.2.1 77 = .ok (.ifCond .ne 28, 3) := by decide +kernel
theorem d_X2_mendFrom_80 : decode m_X2_mendFrom.2.1 80 = .ok (.aload_n 2, 1) := by decide +kernel
theorem d_X2_mendFrom_81 : decode m_X2_mendFrom.2.1 81 = .ok (.iload 6, 2) := by decide +kernel
theorem d_X2_mendFrom_83 : decode m_X2_mendFrom.2.1 83 = .ok (.iload 7, 2) := by decide +kernel
theorem d_X2_mendFrom_85 : decode m_X2_mendFrom.2.1 85 = .ok (.invokevirtual 50, 3) := by decide +kernel
theorem d_X2_mendFrom_88 : decode m_X2_mendFrom.2.1 88 = .ok (.aload_n 0, 1) := by decide +kernel
theorem d_X2_mendFrom_89 : decode m_X2_mendFrom.2.1 89 = .ok (.aload_n 1, 1) := by decide +kernel
theorem d_X2_mendFrom_90 : decode m_X2_mendFrom.2.1 90 = .ok (.aload_n 2, 1) := by decide +kernel
theorem d_X2_mendFrom_91 : decode m_X2_mendFrom.2.1 91 = .ok (.iload_n 3, 1) := by decide +kernel
theorem d_X2_mendFrom_92 : decode m_X2_mendFrom.2.1 92 = .ok (.iconst 1, 1) := by decide +kernel
theorem d_X2_mendFrom_93 : decode m_X2_mendFrom.2.1 93 = .ok (.iadd, 1) := by decide +kernel
theorem d_X2_mendFrom_94 : decode m_X2_mendFrom.2.1 94 = .ok (.iload 4, 2) := by decide +kernel
theorem d_X2_mendFrom_96 : decode m_X2_mendFrom.2.1 96 = .ok (.iload 5, 2) := by decide +kernel
theorem d_X2_mendFrom_98 : decode m_X2_mendFrom.2.1 98 = .ok (.invokevirtual 28, 3) := by decide +kernel
theorem d_X2_mendFrom_101 : decode m_X2_mendFrom.2.1 101 = .ok (.aload_n 2, 1) := by decide +kernel
theorem d_X2_mendFrom_102 : decode m_X2_mendFrom.2.1 102 = .ok (.invokevirtual 54, 3) := by decide +kernel
theorem d_X2_mendFrom_105 : decode m_X2_mendFrom.2.1 105 = .ok (.aload_n 0, 1) := by decide +kernel
theorem d_X2_mendFrom_106 : decode m_X2_mendFrom.2.1 106 = .ok (.aload_n 1, 1) := by decide +kernel
theorem d_X2_mendFrom_107 : decode m_X2_mendFrom.2.1 107 = .ok (.aload_n 2, 1) := by decide +kernel
theorem d_X2_mendFrom_108 : decode m_X2_mendFrom.2.1 108 = .ok (.iload_n 3, 1) := by decide +kernel
theorem d_X2_mendFrom_109 : decode m_X2_mendFrom.2.1 109 = .ok (.iconst 1, 1) := by decide +kernel
theorem d_X2_mendFrom_110 : decode m_X2_mendFrom.2.1 110 = .ok (.iadd, 1) := by decide +kernel
theorem d_X2_mendFrom_111 : decode m_X2_mendFrom.2.1 111 = .ok (.iload 4, 2) := by decide +kernel
theorem d_X2_mendFrom_113 : decode m_X2_mendFrom.2.1 113 = .ok (.iconst 1, 1) := by decide +kernel
theorem d_X2_mendFrom_114 : decode m_X2_mendFrom.2.1 114 = .ok (.iadd, 1) := by decide +kernel
theorem d_X2_mendFrom_115 : decode m_X2_mendFrom.2.1 115 = .ok (.iload 5, 2) := by decide +kernel
theorem d_X2_mendFrom_117 : decode m_X2_mendFrom.2.1 117 = .ok (.iconst 1, 1) := by decide +kernel
theorem d_X2_mendFrom_118 : decode m_X2_mendFrom.2.1 118 = .ok (.iload_n 3, 1) := by decide +kernel
theorem d_X2_mendFrom_119 : decode m_X2_mendFrom.2.1 119 = .ok (.ishl, 1) := by decide +kernel
theorem d_X2_mendFrom_120 : decode m_X2_mendFrom.2.1 120 = .ok (.ior, 1) := by decide +kernel
theorem d_X2_mendFrom_121 : decode m_X2_mendFrom.2.1 121 = .ok (.invokevirtual 28, 3) := by decide +kernel
theorem d_X2_mendFrom_124 : decode m_X2_mendFrom.2.1 124 = .ok (.return_, 1) := by decide +kernel
set_option maxRecDepth 20000 in
theorem e_X2_mendFrom {E : jm_E} {d : Nat} {μ : jm_M} {Q : Option jm_V → jm_M → Prop} {v1 v2 v3 v4 v5 : Int} (h : (∀ v ∈ ([jm_R 130, jm_R v1, jm_R v2, jm_I v3, jm_I v4, jm_I v5] : List jm_V), jm_ok v) →
  ((v4 ≤ μ 130 0 →
    (jm_is jm_N v1 1 1) ∧
    ((μ v1 0 ≤ v3 →
      jg E m_X2_mendFrom d 24 [some (jm_R 130), none, none, none, some (jm_I v4), some (jm_I v5), none, none] [] μ Q) ∧
     (¬ (μ v1 0 ≤ v3) →
      ((v3 < 14 →
        jc E m_X1_whoAt d [jm_R v1, jm_I v3] μ (fun (o : Option jm_V) (m5 : jm_M) => ∀ r6 : Int, o = some (jm_I r6) →
        jc E m_X1_kindAt d [jm_R v1, jm_I v3] m5 (fun (o : Option jm_V) (m7 : jm_M) => ∀ r8 : Int, o = some (jm_I r8) →
        (jm_is jm_N v2 1 6) ∧
        jc E m_X6_flaw d [jm_R v2, jm_I r6, jm_I r8] m7 (fun (o : Option jm_V) (m9 : jm_M) => ∀ r11 : Int, o = some (jm_I r11) →
        ((r11 ≠ 0 →
          jg E m_X2_mendFrom d 105 [some (jm_R 130), some (jm_R v1), some (jm_R v2), some (jm_I v3), some (jm_I v4), some (jm_I v5), none, none] [] m9 Q) ∧
         (¬ (r11 ≠ 0) →
          jc E m_X6_add d [jm_R v2, jm_I r6, jm_I r8] m9 (fun (o : Option jm_V) (m13 : jm_M) => o = none →
          jc E m_X2_mendFrom d [jm_R 130, jm_R v1, jm_R v2, jm_I (jm_wr (v3 + 1)), jm_I v4, jm_I v5] m13 (fun (o : Option jm_V) (m14 : jm_M) => o = none →
          jc E m_X6_takeBack d [jm_R v2] m14 (fun (o : Option jm_V) (m15 : jm_M) => o = none →
          jg E m_X2_mendFrom d 105 [some (jm_R 130), some (jm_R v1), some (jm_R v2), some (jm_I v3), some (jm_I v4), some (jm_I v5), none, none] [] m15 Q))))))))) ∧
       (¬ (v3 < 14) →
        jg E m_X2_mendFrom d 24 [some (jm_R 130), none, none, none, some (jm_I v4), some (jm_I v5), none, none] [] μ Q))))) ∧
   (¬ (v4 ≤ μ 130 0) →
    Q none μ))) : jc E m_X2_mendFrom (d + 1) [jm_R 130, jm_R v1, jm_R v2, jm_I v3, jm_I v4, jm_I v5] μ Q := by
  refine jm_Cl.of2 (by decide +kernel) (L0 := [some (jm_R 130), some (jm_R v1), some (jm_R v2), some (jm_I v3), some (jm_I v4), some (jm_I v5), none, none]) rfl (Nat.le_of_ble_eq_true rfl) (fun hok => ?_)
  have h := h hok
  refine jm_iload d_X2_mendFrom_0 rfl ?_
  refine jm_aloadn d_X2_mendFrom_2 rfl ?_
  refine jm_getI (k := 0) (ki := 0) cf_X2 (Nat.le_of_ble_eq_true rfl) f_X2_22 d_X2_mendFrom_3 rfl rfl is_130 rfl ?_
  refine jm_icmp_le (tgt := 10) d_X2_mendFrom_6 (by decide) (fun c1 => ?_) (fun c1 => ?_)
  · have h := h.1 c1
    refine jm_iloadn d_X2_mendFrom_10 rfl ?_
    refine jm_aloadn d_X2_mendFrom_11 rfl ?_
    obtain ⟨f2, h⟩ := h
    refine jm_getI (k := 0) (ki := 0) cf_X1 (Nat.le_of_ble_eq_true rfl) f_X2_32 d_X2_mendFrom_12 rfl rfl f2 rfl ?_
    refine jm_icmp_ge (tgt := 24) d_X2_mendFrom_15 (by decide) (fun c3 => ?_) (fun c3 => ?_)
    · have h := h.1 c3
      exact jm_weak2 h (And.intro rfl (And.intro rfl (And.intro rfl trivial)))
    · have h := h.2 c3
      refine jm_iloadn d_X2_mendFrom_18 rfl ?_
      refine jm_bipush (v := 14) d_X2_mendFrom_19 rfl (jm_okI (by decide) (by decide)) ?_
      refine jm_icmp_lt (tgt := 55) d_X2_mendFrom_21 (by decide) (fun c4 => ?_) (fun c4 => ?_)
      · have h := h.1 c4
        refine jm_aloadn d_X2_mendFrom_55 rfl ?_
        refine jm_iloadn d_X2_mendFrom_56 rfl ?_
        refine jm_invV (n1 := jm_N) (mc := 0) (ms := 0) (av := [jm_I _]) w_X1_whoAt l_X2_37 d_X2_mendFrom_57 rfl f2 ⟨_, _, rfl⟩ ⟨Nat.le_refl _, Nat.le_refl _⟩ (Nat.le_of_ble_eq_true rfl) rfl ?_
        refine jm_Cl.mono h (fun o m5 h hr _ => ?_)
        obtain ⟨r6, rfl⟩ := jm_rokI hr
        have h := h _ rfl
        refine jm_istore (L' := [some (jm_R _), some (jm_R _), some (jm_R _), some (jm_I _), some (jm_I _), some (jm_I _), some (jm_I _), none]) d_X2_mendFrom_60 (Nat.le_of_ble_eq_true rfl) rfl ?_
        refine jm_aloadn d_X2_mendFrom_62 rfl ?_
        refine jm_iloadn d_X2_mendFrom_63 rfl ?_
        refine jm_invV (n1 := jm_N) (mc := 0) (ms := 0) (av := [jm_I _]) w_X1_kindAt l_X2_41 d_X2_mendFrom_64 rfl f2 ⟨_, _, rfl⟩ ⟨Nat.le_refl _, Nat.le_refl _⟩ (Nat.le_of_ble_eq_true rfl) rfl ?_
        refine jm_Cl.mono h (fun o m7 h hr _ => ?_)
        obtain ⟨r8, rfl⟩ := jm_rokI hr
        have h := h _ rfl
        refine jm_istore (L' := [some (jm_R _), some (jm_R _), some (jm_R _), some (jm_I _), some (jm_I _), some (jm_I _), some (jm_I _), some (jm_I _)]) d_X2_mendFrom_67 (Nat.le_of_ble_eq_true rfl) rfl ?_
        refine jm_aloadn d_X2_mendFrom_69 rfl ?_
        refine jm_iload d_X2_mendFrom_70 rfl ?_
        refine jm_iload d_X2_mendFrom_72 rfl ?_
        obtain ⟨f10, h⟩ := h
        refine jm_invV (n1 := jm_N) (mc := 0) (ms := 0) (av := [jm_I _, jm_I _]) w_X6_flaw l_X2_44 d_X2_mendFrom_74 rfl f10 ⟨_, _, rfl⟩ ⟨Nat.le_refl _, Nat.le_refl _⟩ (Nat.le_of_ble_eq_true rfl) rfl ?_
        refine jm_Cl.mono h (fun o m9 h hr _ => ?_)
        obtain ⟨r11, rfl⟩ := jm_rokI hr
        have h := h _ rfl
        refine jm_if_ne (tgt := 105) d_X2_mendFrom_77 (by decide) (fun c12 => ?_) (fun c12 => ?_)
        · have h := h.1 c12
          exact jm_weak2 h (And.intro rfl (And.intro rfl (And.intro rfl (And.intro rfl (And.intro rfl (And.intro rfl trivial))))))
        · have h := h.2 c12
          refine jm_aloadn d_X2_mendFrom_80 rfl ?_
          refine jm_iload d_X2_mendFrom_81 rfl ?_
          refine jm_iload d_X2_mendFrom_83 rfl ?_
          refine jm_invV (n1 := jm_N) (mc := 0) (ms := 0) (av := [jm_I _, jm_I _]) w_X6_add l_X2_50 d_X2_mendFrom_85 rfl f10 ⟨_, _, rfl⟩ ⟨Nat.le_refl _, Nat.le_refl _⟩ (Nat.le_of_ble_eq_true rfl) rfl ?_
          refine jm_Cl.mono h (fun o m13 h hr _ => ?_)
          obtain rfl := jm_rokV hr
          have h := h rfl
          refine jm_aloadn d_X2_mendFrom_88 rfl ?_
          refine jm_aloadn d_X2_mendFrom_89 rfl ?_
          refine jm_aloadn d_X2_mendFrom_90 rfl ?_
          refine jm_iloadn d_X2_mendFrom_91 rfl ?_
          refine jm_iconst (v := 1) d_X2_mendFrom_92 rfl (jm_okI (by decide) (by decide)) ?_
          refine jm_iadd d_X2_mendFrom_93 ?_
          refine jm_iload d_X2_mendFrom_94 rfl ?_
          refine jm_iload d_X2_mendFrom_96 rfl ?_
          refine jm_invV (n1 := jm_N) (mc := 0) (ms := 0) (av := [jm_R _, jm_R _, jm_I _, jm_I _, jm_I _]) w_X2_mendFrom l_X2_28 d_X2_mendFrom_98 rfl is_130 ⟨_, _, rfl⟩ ⟨Nat.le_refl _, Nat.le_refl _⟩ (Nat.le_of_ble_eq_true rfl) rfl ?_
          refine jm_Cl.mono h (fun o m14 h hr _ => ?_)
          obtain rfl := jm_rokV hr
          have h := h rfl
          refine jm_aloadn d_X2_mendFrom_101 rfl ?_
          refine jm_invV (n1 := jm_N) (mc := 0) (ms := 0) (av := []) w_X6_takeBack l_X2_54 d_X2_mendFrom_102 rfl f10 ⟨_, _, rfl⟩ ⟨Nat.le_refl _, Nat.le_refl _⟩ (Nat.le_of_ble_eq_true rfl) rfl ?_
          refine jm_Cl.mono h (fun o m15 h hr _ => ?_)
          obtain rfl := jm_rokV hr
          have h := h rfl
          exact jm_weak2 h (And.intro rfl (And.intro rfl (And.intro rfl (And.intro rfl (And.intro rfl (And.intro rfl trivial))))))
      · have h := h.2 c4
        exact jm_weak2 h (And.intro rfl (And.intro rfl (And.intro rfl trivial)))
  · have h := h.2 c1
    exact jm_ret (o := none) d_X2_mendFrom_9 rfl ⟨Nat.le_refl _, Nat.le_refl _⟩ jm_r_V h rfl
set_option maxRecDepth 20000 in
theorem r_X2_mendFrom_24 {E : jm_E} {d : Nat} {μ : jm_M} {Q : Option jm_V → jm_M → Prop} {v4 v5 : Int} (h :
  ((v4 < μ 130 0 →
    Q none (jm_up (jm_up μ 130 0 v4) 130 1 v5)) ∧
   (¬ (v4 < μ 130 0) →
    ((μ 130 1 ≤ v5 →
      Q none μ) ∧
     (¬ (μ 130 1 ≤ v5) →
      Q none (jm_up (jm_up μ 130 0 v4) 130 1 v5)))))) : jg E m_X2_mendFrom d 24 [some (jm_R 130), none, none, none, some (jm_I v4), some (jm_I v5), none, none] [] μ Q := by
  refine jm_iload d_X2_mendFrom_24 rfl ?_
  refine jm_aloadn d_X2_mendFrom_26 rfl ?_
  refine jm_getI (k := 0) (ki := 0) cf_X2 (Nat.le_of_ble_eq_true rfl) f_X2_22 d_X2_mendFrom_27 rfl rfl is_130 rfl ?_
  refine jm_icmp_lt (tgt := 42) d_X2_mendFrom_30 (by decide) (fun c1 => ?_) (fun c1 => ?_)
  · have h := h.1 c1
    refine jm_aloadn d_X2_mendFrom_42 rfl ?_
    refine jm_iload d_X2_mendFrom_43 rfl ?_
    refine jm_putI (k := 0) (ki := 0) cf_X2 (Nat.le_of_ble_eq_true rfl) f_X2_22 d_X2_mendFrom_45 (fun z => absurd z (by decide)) rfl rfl rfl (fun _ => rfl) is_130 ?_
    refine jm_aloadn d_X2_mendFrom_48 rfl ?_
    refine jm_iload d_X2_mendFrom_49 rfl ?_
    refine jm_putI (k := 1) (ki := 1) cf_X2 (Nat.le_of_ble_eq_true rfl) f_X2_25 d_X2_mendFrom_51 (fun z => absurd z (by decide)) rfl rfl rfl (fun _ => rfl) is_130 ?_
    exact jm_ret (o := none) d_X2_mendFrom_54 rfl ⟨Nat.le_refl _, Nat.le_refl _⟩ jm_r_V h rfl
  · have h := h.2 c1
    refine jm_iload d_X2_mendFrom_33 rfl ?_
    refine jm_aloadn d_X2_mendFrom_35 rfl ?_
    refine jm_getI (k := 1) (ki := 1) cf_X2 (Nat.le_of_ble_eq_true rfl) f_X2_25 d_X2_mendFrom_36 rfl rfl is_130 rfl ?_
    refine jm_icmp_ge (tgt := 54) d_X2_mendFrom_39 (by decide) (fun c2 => ?_) (fun c2 => ?_)
    · have h := h.1 c2
      exact jm_ret (o := none) d_X2_mendFrom_54 rfl ⟨Nat.le_refl _, Nat.le_refl _⟩ jm_r_V h rfl
    · have h := h.2 c2
      refine jm_aloadn d_X2_mendFrom_42 rfl ?_
      refine jm_iload d_X2_mendFrom_43 rfl ?_
      refine jm_putI (k := 0) (ki := 0) cf_X2 (Nat.le_of_ble_eq_true rfl) f_X2_22 d_X2_mendFrom_45 (fun z => absurd z (by decide)) rfl rfl rfl (fun _ => rfl) is_130 ?_
      refine jm_aloadn d_X2_mendFrom_48 rfl ?_
      refine jm_iload d_X2_mendFrom_49 rfl ?_
      refine jm_putI (k := 1) (ki := 1) cf_X2 (Nat.le_of_ble_eq_true rfl) f_X2_25 d_X2_mendFrom_51 (fun z => absurd z (by decide)) rfl rfl rfl (fun _ => rfl) is_130 ?_
      exact jm_ret (o := none) d_X2_mendFrom_54 rfl ⟨Nat.le_refl _, Nat.le_refl _⟩ jm_r_V h rfl
set_option maxRecDepth 20000 in
theorem r_X2_mendFrom_105 {E : jm_E} {d : Nat} {μ : jm_M} {Q : Option jm_V → jm_M → Prop} {v1 v2 v3 v4 v5 : Int} (h :
  jc E m_X2_mendFrom d [jm_R 130, jm_R v1, jm_R v2, jm_I (jm_wr (v3 + 1)), jm_I (jm_wr (v4 + 1)), jm_I (jm_or v5 (jm_shl 1 v3))] μ (fun (o : Option jm_V) (m1 : jm_M) => o = none →
  Q none m1)) : jg E m_X2_mendFrom d 105 [some (jm_R 130), some (jm_R v1), some (jm_R v2), some (jm_I v3), some (jm_I v4), some (jm_I v5), none, none] [] μ Q := by
  refine jm_aloadn d_X2_mendFrom_105 rfl ?_
  refine jm_aloadn d_X2_mendFrom_106 rfl ?_
  refine jm_aloadn d_X2_mendFrom_107 rfl ?_
  refine jm_iloadn d_X2_mendFrom_108 rfl ?_
  refine jm_iconst (v := 1) d_X2_mendFrom_109 rfl (jm_okI (by decide) (by decide)) ?_
  refine jm_iadd d_X2_mendFrom_110 ?_
  refine jm_iload d_X2_mendFrom_111 rfl ?_
  refine jm_iconst (v := 1) d_X2_mendFrom_113 rfl (jm_okI (by decide) (by decide)) ?_
  refine jm_iadd d_X2_mendFrom_114 ?_
  refine jm_iload d_X2_mendFrom_115 rfl ?_
  refine jm_iconst (v := 1) d_X2_mendFrom_117 rfl (jm_okI (by decide) (by decide)) ?_
  refine jm_iloadn d_X2_mendFrom_118 rfl ?_
  refine jm_ishl d_X2_mendFrom_119 ?_
  refine jm_ior d_X2_mendFrom_120 ?_
  refine jm_invV (n1 := jm_N) (mc := 0) (ms := 0) (av := [jm_R _, jm_R _, jm_I _, jm_I _, jm_I _]) w_X2_mendFrom l_X2_28 d_X2_mendFrom_121 rfl is_130 ⟨_, _, rfl⟩ ⟨Nat.le_refl _, Nat.le_refl _⟩ (Nat.le_of_ble_eq_true rfl) rfl ?_
  refine jm_Cl.mono h (fun o m1 h hr _ => ?_)
  obtain rfl := jm_rokV hr
  have h := h rfl
  exact jm_ret (o := none) d_X2_mendFrom_124 rfl ⟨Nat.le_refl _, Nat.le_refl _⟩ jm_r_V h rfl
/-! ('CombTable$Repair', 'arrange', '(LCombTable$Minutes;LCombTable$Talk;)I') -/
theorem d_X2_arrange_0 : decode m_X2_arrange.2.1 0 = .ok (.aload_n 0, 1) := by decide +kernel
theorem d_X2_arrange_1 : decode m_X2_arrange.2.1 1 = .ok (.iconst 0, 1) := by decide +kernel
theorem d_X2_arrange_2 : decode m_X2_arrange.2.1 2 = .ok (.putfield 57, 3) := by decide +kernel
theorem d_X2_arrange_5 : decode m_X2_arrange.2.1 5 = .ok (.aload_n 0, 1) := by decide +kernel
theorem d_X2_arrange_6 : decode m_X2_arrange.2.1 6 = .ok (.aload_n 1, 1) := by decide +kernel
theorem d_X2_arrange_7 : decode m_X2_arrange.2.1 7 = .ok (.aload_n 2, 1) := by decide +kernel
theorem d_X2_arrange_8 : decode m_X2_arrange.2.1 8 = .ok (.iconst 0, 1) := by decide +kernel
theorem d_X2_arrange_9 : decode m_X2_arrange.2.1 9 = .ok (.iconst 0, 1) := by decide +kernel
theorem d_X2_arrange_10 : decode m_X2_arrange.2.1 10 = .ok (.invokevirtual 60, 3) := by decide +kernel
theorem d_X2_arrange_13 : decode m_X2_arrange.2.1 13 = .ok (.aload_n 0, 1) := by decide +kernel
theorem d_X2_arrange_14 : decode m_X2_arrange.2.1 14 = .ok (.getfield 57, 3) := by decide +kernel
theorem d_X2_arrange_17 : decode m_X2_arrange.2.1 17 = .ok (.ireturn, 1) := by decide +kernel
set_option maxRecDepth 20000 in
theorem e_X2_arrange {E : jm_E} {d : Nat} {μ : jm_M} {Q : Option jm_V → jm_M → Prop} {v1 v2 : Int} (h : (∀ v ∈ ([jm_R 130, jm_R v1, jm_R v2] : List jm_V), jm_ok v) →
  jc E m_X2_orderFrom d [jm_R 130, jm_R v1, jm_R v2, jm_I 0, jm_I 0] (jm_up μ 130 3 0) (fun (o : Option jm_V) (m1 : jm_M) => o = none →
  Q (some (jm_I (m1 130 3))) m1)) : jc E m_X2_arrange (d + 1) [jm_R 130, jm_R v1, jm_R v2] μ Q := by
  refine jm_Cl.of2 (by decide +kernel) (L0 := [some (jm_R 130), some (jm_R v1), some (jm_R v2)]) rfl (Nat.le_of_ble_eq_true rfl) (fun hok => ?_)
  have h := h hok
  refine jm_aloadn d_X2_arrange_0 rfl ?_
  refine jm_iconst (v := 0) d_X2_arrange_1 rfl (jm_okI (by decide) (by decide)) ?_
  refine jm_putI (k := 3) (ki := 3) cf_X2 (Nat.le_of_ble_eq_true rfl) f_X2_57 d_X2_arrange_2 (fun z => absurd z (by decide)) rfl rfl rfl (fun _ => rfl) is_130 ?_
  refine jm_aloadn d_X2_arrange_5 rfl ?_
  refine jm_aloadn d_X2_arrange_6 rfl ?_
  refine jm_aloadn d_X2_arrange_7 rfl ?_
  refine jm_iconst (v := 0) d_X2_arrange_8 rfl (jm_okI (by decide) (by decide)) ?_
  refine jm_iconst (v := 0) d_X2_arrange_9 rfl (jm_okI (by decide) (by decide)) ?_
  refine jm_invV (n1 := jm_N) (mc := 0) (ms := 0) (av := [jm_R _, jm_R _, jm_I _, jm_I _]) w_X2_orderFrom l_X2_60 d_X2_arrange_10 rfl is_130 ⟨_, _, rfl⟩ ⟨Nat.le_refl _, Nat.le_refl _⟩ (Nat.le_of_ble_eq_true rfl) rfl ?_
  refine jm_Cl.mono h (fun o m1 h hr _ => ?_)
  obtain rfl := jm_rokV hr
  have h := h rfl
  refine jm_aloadn d_X2_arrange_13 rfl ?_
  refine jm_getI (k := 3) (ki := 3) cf_X2 (Nat.le_of_ble_eq_true rfl) f_X2_57 d_X2_arrange_14 rfl rfl is_130 rfl ?_
  exact jm_ret (o := some (jm_I _)) d_X2_arrange_17 rfl ⟨Nat.le_refl _, Nat.le_refl _⟩ jm_r_I h rfl
/-! ('CombTable$Repair', 'orderFrom', '(LCombTable$Minutes;LCombTable$Talk;II)V') -/
theorem d_X2_orderFrom_0 : decode m_X2_orderFrom.2.1 0 = .ok (.iload_n 3, 1) := by decide +kernel
theorem d_X2_orderFrom_1 : decode m_X2_orderFrom.2.1 1 = .ok (.aload_n 1, 1) := by decide +kernel
theorem d_X2_orderFrom_2 : decode m_X2_orderFrom.2.1 2 = .ok (.getfield 32, 3) := by decide +kernel
theorem d_X2_orderFrom_5 : decode m_X2_orderFrom.2.1 5 = .ok (.if_icmp .ge 9, 3) := by decide +kernel
theorem d_X2_orderFrom_8 : decode m_X2_orderFrom.2.1 8 = .ok (.iload_n 3, 1) := by decide +kernel
theorem d_X2_orderFrom_9 : decode m_X2_orderFrom.2.1 9 = .ok (.bipush 7, 2) := by decide +kernel
theorem d_X2_orderFrom_11 : decode m_X2_orderFrom.2.1 11 = .ok (.if_icmp .lt 41, 3) := by decide +kernel
theorem d_X2_orderFrom_14 : decode m_X2_orderFrom.2.1 14 = .ok (.aload_n 0, 1) := by decide +kernel
theorem d_X2_orderFrom_15 : decode m_X2_orderFrom.2.1 15 = .ok (.getfield 57, 3) := by decide +kernel
theorem d_X2_orderFrom_18 : decode m_X2_orderFrom.2.1 18 = .ok (.ifCond .ne 23, 3) := by decide +kernel
theorem d_X2_orderFrom_21 : decode m_X2_orderFrom.2.1 21 = .ok (.aload_n 0, 1) := by decide +kernel
theorem d_X2_orderFrom_22 : decode m_X2_orderFrom.2.1 22 = .ok (.getfield 15, 3) := by decide +kernel
theorem d_X2_orderFrom_25 : decode m_X2_orderFrom.2.1 25 = .ok (.iconst 0, 1) := by decide +kernel
theorem d_X2_orderFrom_26 : decode m_X2_orderFrom.2.1 26 = .ok (.aload_n 0, 1) := by decide +kernel
theorem d_X2_orderFrom_27 : decode m_X2_orderFrom.2.1 27 = .ok (.getfield 19, 3) := by decide +kernel
theorem d_X2_orderFrom_30 : decode m_X2_orderFrom.2.1 30 = .ok (.iconst 0, 1) := by decide +kernel
theorem d_X2_orderFrom_31 : decode m_X2_orderFrom.2.1 31 = .ok (.bipush 7, 2) := by decide +kernel
theorem d_X2_orderFrom_33 : decode m_X2_orderFrom.2.1 33 = .ok (.invokestatic 64, 3) := by decide +kernel
theorem d_X2_orderFrom_36 : decode m_X2_orderFrom.2.1 36 = .ok (.aload_n 0, 1) := by decide +kernel
theorem d_X2_orderFrom_37 : decode m_X2_orderFrom.2.1 37 = .ok (.iload_n 3, 1) := by decide +kernel
theorem d_X2_orderFrom_38 : decode m_X2_orderFrom.2.1 38 = .ok (.putfield 70, 3) := by decide +kernel
theorem d_X2_orderFrom_41 : decode m_X2_orderFrom.2.1 41 = .ok (.aload_n 0, 1) := by decide +kernel
theorem d_X2_orderFrom_42 : decode m_X2_orderFrom.2.1 42 = .ok (.dup, 1) := by decide +kernel
theorem d_X2_orderFrom_43 : decode m_X2_orderFrom.2.1 43 = .ok (.getfield 57, 3) := by decide +kernel
theorem d_X2_orderFrom_46 : decode m_X2_orderFrom.2.1 46 = .ok (.iconst 1, 1) := by decide +kernel
theorem d_X2_orderFrom_47 : decode m_X2_orderFrom.2.1 47 = .ok (.iadd, 1) := by decide +kernel
theorem d_X2_orderFrom_48 : decode m_X2_orderFrom.2.1 48 = .ok (.putfield 57, 3) := by decide +kernel
theorem d_X2_orderFrom_51 : decode m_X2_orderFrom.2.1 51 = .ok (.return_, 1) := by decide +kernel
theorem d_X2_orderFrom_52 : decode m_X2_orderFrom.2.1 52 = .ok (.iconst 0, 1) := by decide +kernel
theorem d_X2_orderFrom_53 : decode m_X2_orderFrom.2.1 53 = .ok (.istore 5, 2) := by decide +kernel
theorem d_X2_orderFrom_55 : decode m_X2_orderFrom.2.1 55 = .ok (.iload 5, 2) := by decide +kernel
theorem d_X2_orderFrom_57 : decode m_X2_orderFrom.2.1 57 = .ok (.aload_n 1, 1) := by decide +kernel
theorem d_X2_orderFrom_58 : decode m_X2_orderFrom.2.1 58 = .ok (.getfield 32, 3) := by decide +kernel
theorem d_X2_orderFrom_61 : decode m_X2_orderFrom.2.1 61 = .ok (.if_icmp .ge 82, 3) := by decide +kernel
theorem d_X2_orderFrom_64 : decode m_X2_orderFrom.2.1 64 = .ok (.aload_n 1, 1) := by decide +kernel
theorem d_X2_orderFrom_65 : decode m_X2_orderFrom.2.1 65 = .ok (.iload 5, 2) := by decide +kernel
theorem d_X2_orderFrom_67 : decode m_X2_orderFrom.2.1 67 = .ok (.invokevirtual 37, 3) := by decide +kernel
theorem d_X2_orderFrom_70 : decode m_X2_orderFrom.2.1 70 = .ok (.istore 6, 2) := by decide +kernel
theorem d_X2_orderFrom_72 : decode m_X2_orderFrom.2.1 72 = .ok (.aload_n 1, 1) := by decide +kernel
theorem d_X2_orderFrom_73 : decode m_X2_orderFrom.2.1 73 = .ok (.iload 5, 2) := by decide +kernel
theorem d_X2_orderFrom_75 : decode m_X2_orderFrom.2.1 75 = .ok (.invokevirtual 41, 3) := by decide +kernel
theorem d_X2_orderFrom_78 : decode m_X2_orderFrom.2.1 78 = .ok (.istore 7, 2) := by decide +kernel
theorem d_X2_orderFrom_80 : decode m_X2_orderFrom.2.1 80 = .ok (.iload 4, 2) := by decide +kernel
theorem d_X2_orderFrom_82 : decode m_X2_orderFrom.2.1 82 = .ok (.iload 5, 2) := by decide +kernel
theorem d_X2_orderFrom_84 : decode m_X2_orderFrom.2.1 84 = .ok (.ishr, 1) := by decide +kernel
theorem d_X2_orderFrom_85 : decode m_X2_orderFrom.2.1 85 = .ok (.iconst 1, 1) := by decide +kernel
theorem d_X2_orderFrom_86 : decode m_X2_orderFrom.2.1 86 = .ok (.iand, 1) := by decide +kernel
theorem d_X2_orderFrom_87 : decode m_X2_orderFrom.2.1 87 = .ok (.ifCond .ne 50, 3) := by decide +kernel
theorem d_X2_orderFrom_90 : decode m_X2_orderFrom.2.1 90 = .ok (.aload_n 2, 1) := by decide +kernel
theorem d_X2_orderFrom_91 : decode m_X2_orderFrom.2.1 91 = .ok (.iload 6, 2) := by decide +kernel
theorem d_X2_orderFrom_93 : decode m_X2_orderFrom.2.1 93 = .ok (.iload 7, 2) := by decide +kernel
theorem d_X2_orderFrom_95 : decode m_X2_orderFrom.2.1 95 = .ok (.invokevirtual 44, 3) := by decide +kernel
theorem d_X2_orderFrom_98 : decode m_X2_orderFrom.2.1 98 = .ok (.ifCond .ne 39, 3) := by decide +kernel
theorem d_X2_orderFrom_101 : decode m_X2_orderFrom.2.1 101 = .ok (.aload_n 0, 1) := by decide +kernel
theorem d_X2_orderFrom_102 : decode m_X2_orderFrom.2.1 102 = .ok (.getfield 15, 3) := by decide +kernel
theorem d_X2_orderFrom_105 : decode m_X2_orderFrom.2.1 105 = .ok (.iload_n 3, 1) := by decide +kernel
theorem d_X2_orderFrom_106 : decode m_X2_orderFrom.2.1 106 = .ok (.iload 5, 2) := by decide +kernel
theorem d_X2_orderFrom_108 : decode m_X2_orderFrom.2.1 108 = .ok (.iastore, 1) := by decide +kernel
theorem d_X2_orderFrom_109 : decode m_X2_orderFrom.2.1 109 = .ok (.aload_n 2, 1) := by decide +kernel
theorem d_X2_orderFrom_110 : decode m_X2_orderFrom.2.1 110 = .ok (.iload 6, 2) := by decide +kernel
theorem d_X2_orderFrom_112 : decode m_X2_orderFrom.2.1 112 = .ok (.iload 7, 2) := by decide +kernel
theorem d_X2_orderFrom_114 : decode m_X2_orderFrom.2.1 114 = .ok (.invokevirtual 50, 3) := by decide +kernel
theorem d_X2_orderFrom_117 : decode m_X2_orderFrom.2.1 117 = .ok (.aload_n 0, 1) := by decide +kernel
theorem d_X2_orderFrom_118 : decode m_X2_orderFrom.2.1 118 = .ok (.aload_n 1, 1) := by decide +kernel
theorem d_X2_orderFrom_119 : decode m_X2_orderFrom.2.1 119 = .ok (.aload_n 2, 1) := by decide +kernel
theorem d_X2_orderFrom_120 : decode m_X2_orderFrom.2.1 120 = .ok (.iload_n 3, 1) := by decide +kernel
theorem d_X2_orderFrom_121 : decode m_X2_orderFrom.2.1 121 = .ok (.iconst 1, 1) := by decide +kernel
theorem d_X2_orderFrom_122 : decode m_X2_orderFrom.2.1 122 = .ok (.iadd, 1) := by decide +kernel
theorem d_X2_orderFrom_123 : decode m_X2_orderFrom.2.1 123 = .ok (.iload 4, 2) := by decide +kernel
theorem d_X2_orderFrom_125 : decode m_X2_orderFrom.2.1 125 = .ok (.iconst 1, 1) := by decide +kernel
theorem d_X2_orderFrom_126 : decode m_X2_orderFrom.2.1 126 = .ok (.iload 5, 2) := by decide +kernel
theorem d_X2_orderFrom_128 : decode m_X2_orderFrom.2.1 128 = .ok (.ishl, 1) := by decide +kernel
theorem d_X2_orderFrom_129 : decode m_X2_orderFrom.2.1 129 = .ok (.ior, 1) := by decide +kernel
theorem d_X2_orderFrom_130 : decode m_X2_orderFrom.2.1 130 = .ok (.invokevirtual 60, 3) := by decide +kernel
theorem d_X2_orderFrom_133 : decode m_X2_orderFrom.2.1 133 = .ok (.aload_n 2, 1) := by decide +kernel
theorem d_X2_orderFrom_134 : decode m_X2_orderFrom.2.1 134 = .ok (.invokevirtual 54, 3) := by decide +kernel
theorem d_X2_orderFrom_137 : decode m_X2_orderFrom.2.1 137 = .ok (.iinc 5 1, 3) := by decide +kernel
theorem d_X2_orderFrom_140 : decode m_X2_orderFrom.2.1 140 = .ok (.goto (-85), 3) := by decide +kernel
theorem d_X2_orderFrom_143 : decode m_X2_orderFrom.2.1 143 = .ok (.return_, 1) := by decide +kernel
set_option maxRecDepth 20000 in
theorem e_X2_orderFrom {E : jm_E} {d : Nat} {μ : jm_M} {Q : Option jm_V → jm_M → Prop} {v1 v2 v3 v4 : Int} (h : (∀ v ∈ ([jm_R 130, jm_R v1, jm_R v2, jm_I v3, jm_I v4] : List jm_V), jm_ok v) →
  (jm_is jm_N v1 1 1) ∧
  ((μ v1 0 ≤ v3 →
    jg E m_X2_orderFrom d 14 [some (jm_R 130), none, none, some (jm_I v3), none, none, none, none] [] μ Q) ∧
   (¬ (μ v1 0 ≤ v3) →
    ((v3 < 7 →
      jg E m_X2_orderFrom d 55 [some (jm_R 130), some (jm_R v1), some (jm_R v2), some (jm_I v3), some (jm_I v4), some (jm_I 0), none, none] [] μ Q) ∧
     (¬ (v3 < 7) →
      jg E m_X2_orderFrom d 14 [some (jm_R 130), none, none, some (jm_I v3), none, none, none, none] [] μ Q))))) : jc E m_X2_orderFrom (d + 1) [jm_R 130, jm_R v1, jm_R v2, jm_I v3, jm_I v4] μ Q := by
  refine jm_Cl.of2 (by decide +kernel) (L0 := [some (jm_R 130), some (jm_R v1), some (jm_R v2), some (jm_I v3), some (jm_I v4), none, none, none]) rfl (Nat.le_of_ble_eq_true rfl) (fun hok => ?_)
  have h := h hok
  refine jm_iloadn d_X2_orderFrom_0 rfl ?_
  refine jm_aloadn d_X2_orderFrom_1 rfl ?_
  obtain ⟨f1, h⟩ := h
  refine jm_getI (k := 0) (ki := 0) cf_X1 (Nat.le_of_ble_eq_true rfl) f_X2_32 d_X2_orderFrom_2 rfl rfl f1 rfl ?_
  refine jm_icmp_ge (tgt := 14) d_X2_orderFrom_5 (by decide) (fun c2 => ?_) (fun c2 => ?_)
  · have h := h.1 c2
    exact jm_weak2 h (And.intro rfl (And.intro rfl trivial))
  · have h := h.2 c2
    refine jm_iloadn d_X2_orderFrom_8 rfl ?_
    refine jm_bipush (v := 7) d_X2_orderFrom_9 rfl (jm_okI (by decide) (by decide)) ?_
    refine jm_icmp_lt (tgt := 52) d_X2_orderFrom_11 (by decide) (fun c3 => ?_) (fun c3 => ?_)
    · have h := h.1 c3
      refine jm_iconst (v := 0) d_X2_orderFrom_52 rfl (jm_okI (by decide) (by decide)) ?_
      refine jm_istore (L' := [some (jm_R _), some (jm_R _), some (jm_R _), some (jm_I _), some (jm_I _), some (jm_I _), none, none]) d_X2_orderFrom_53 (Nat.le_of_ble_eq_true rfl) rfl ?_
      exact h
    · have h := h.2 c3
      exact jm_weak2 h (And.intro rfl (And.intro rfl trivial))
set_option maxRecDepth 20000 in
theorem r_X2_orderFrom_14 {E : jm_E} {d : Nat} {μ : jm_M} {Q : Option jm_V → jm_M → Prop} {v3 : Int} (h :
  ((μ 130 3 ≠ 0 →
    Q none (jm_up μ 130 3 (jm_wr ((μ 130 3) + 1)))) ∧
   (¬ (μ 130 3 ≠ 0) →
    ∀ m2 : jm_M, m2 = jm_cpy μ 131 0 132 0 7 →
    Q none (jm_up (jm_up m2 130 6 v3) 130 3 (jm_wr ((m2 130 3) + 1)))))) : jg E m_X2_orderFrom d 14 [some (jm_R 130), none, none, some (jm_I v3), none, none, none, none] [] μ Q := by
  refine jm_aloadn d_X2_orderFrom_14 rfl ?_
  refine jm_getI (k := 3) (ki := 3) cf_X2 (Nat.le_of_ble_eq_true rfl) f_X2_57 d_X2_orderFrom_15 rfl rfl is_130 rfl ?_
  refine jm_if_ne (tgt := 41) d_X2_orderFrom_18 (by decide) (fun c1 => ?_) (fun c1 => ?_)
  · have h := h.1 c1
    refine jm_aloadn d_X2_orderFrom_41 rfl ?_
    refine jm_dup rfl d_X2_orderFrom_42 ?_
    refine jm_getI (k := 3) (ki := 3) cf_X2 (Nat.le_of_ble_eq_true rfl) f_X2_57 d_X2_orderFrom_43 rfl rfl is_130 rfl ?_
    refine jm_iconst (v := 1) d_X2_orderFrom_46 rfl (jm_okI (by decide) (by decide)) ?_
    refine jm_iadd d_X2_orderFrom_47 ?_
    refine jm_putI (k := 3) (ki := 3) cf_X2 (Nat.le_of_ble_eq_true rfl) f_X2_57 d_X2_orderFrom_48 (fun z => absurd z (by decide)) rfl rfl rfl (fun _ => rfl) is_130 ?_
    exact jm_ret (o := none) d_X2_orderFrom_51 rfl ⟨Nat.le_refl _, Nat.le_refl _⟩ jm_r_V h rfl
  · have h := h.2 c1
    refine jm_aloadn d_X2_orderFrom_21 rfl ?_
    refine jm_getF (k := 4) (ki := 4) rfl cf_X2 (Nat.le_of_ble_eq_true rfl) f_X2_15 d_X2_orderFrom_22 rfl rfl is_130 fr_130_4 ?_
    refine jm_iconst (v := 0) d_X2_orderFrom_25 rfl (jm_okI (by decide) (by decide)) ?_
    refine jm_aloadn d_X2_orderFrom_26 rfl ?_
    refine jm_getF (k := 5) (ki := 5) rfl cf_X2 (Nat.le_of_ble_eq_true rfl) f_X2_19 d_X2_orderFrom_27 rfl rfl is_130 fr_130_5 ?_
    refine jm_iconst (v := 0) d_X2_orderFrom_30 rfl (jm_okI (by decide) (by decide)) ?_
    refine jm_bipush (v := 7) d_X2_orderFrom_31 rfl (jm_okI (by decide) (by decide)) ?_
    refine jm_acp ⟨by decide, ial_131, by rw [snl_131]; decide, ial_132, by rw [snl_132]; decide⟩ l_X2_64 d_X2_orderFrom_33 ?_
    have h := h _ rfl
    refine jm_aloadn d_X2_orderFrom_36 rfl ?_
    refine jm_iloadn d_X2_orderFrom_37 rfl ?_
    refine jm_putI (k := 6) (ki := 6) cf_X2 (Nat.le_of_ble_eq_true rfl) f_X2_70 d_X2_orderFrom_38 (fun z => absurd z (by decide)) rfl rfl rfl (fun _ => rfl) is_130 ?_
    refine jm_aloadn d_X2_orderFrom_41 rfl ?_
    refine jm_dup rfl d_X2_orderFrom_42 ?_
    refine jm_getI (k := 3) (ki := 3) cf_X2 (Nat.le_of_ble_eq_true rfl) f_X2_57 d_X2_orderFrom_43 rfl rfl is_130 ((jm_up_i (by decide)).trans rfl) ?_
    refine jm_iconst (v := 1) d_X2_orderFrom_46 rfl (jm_okI (by decide) (by decide)) ?_
    refine jm_iadd d_X2_orderFrom_47 ?_
    refine jm_putI (k := 3) (ki := 3) cf_X2 (Nat.le_of_ble_eq_true rfl) f_X2_57 d_X2_orderFrom_48 (fun z => absurd z (by decide)) rfl rfl rfl (fun _ => rfl) is_130 ?_
    exact jm_ret (o := none) d_X2_orderFrom_51 rfl ⟨Nat.le_refl _, Nat.le_refl _⟩ jm_r_V h rfl
set_option maxRecDepth 20000 in
theorem r_X2_orderFrom_55 {E : jm_E} {d : Nat} {μ : jm_M} {Q : Option jm_V → jm_M → Prop} {v1 v2 v3 v4 v5 : Int} (h :
  (jm_is jm_N v1 1 1) ∧
  ((μ v1 0 ≤ v5 →
    Q none μ) ∧
   (¬ (μ v1 0 ≤ v5) →
    jc E m_X1_whoAt d [jm_R v1, jm_I v5] μ (fun (o : Option jm_V) (m3 : jm_M) => ∀ r4 : Int, o = some (jm_I r4) →
    jc E m_X1_kindAt d [jm_R v1, jm_I v5] m3 (fun (o : Option jm_V) (m5 : jm_M) => ∀ r6 : Int, o = some (jm_I r6) →
    (((jm_and (jm_shr v4 v5) 1) ≠ 0 →
      jg E m_X2_orderFrom d 55 [some (jm_R 130), some (jm_R v1), some (jm_R v2), some (jm_I v3), some (jm_I v4), some (jm_I (jm_wr (v5 + 1))), none, none] [] m5 Q) ∧
     (¬ ((jm_and (jm_shr v4 v5) 1) ≠ 0) →
      (jm_is jm_N v2 1 6) ∧
      jc E m_X6_flaw d [jm_R v2, jm_I r4, jm_I r6] m5 (fun (o : Option jm_V) (m8 : jm_M) => ∀ r10 : Int, o = some (jm_I r10) →
      ((r10 ≠ 0 →
        jg E m_X2_orderFrom d 55 [some (jm_R 130), some (jm_R v1), some (jm_R v2), some (jm_I v3), some (jm_I v4), some (jm_I (jm_wr (v5 + 1))), none, none] [] m8 Q) ∧
       (¬ (r10 ≠ 0) →
        (0 ≤ v3 ∧ v3 < 7) ∧
        ∀ m13 : jm_M, m13 = (jm_up m8 131 v3 v5) →
        jc E m_X6_add d [jm_R v2, jm_I r4, jm_I r6] m13 (fun (o : Option jm_V) (m14 : jm_M) => o = none →
        jc E m_X2_orderFrom d [jm_R 130, jm_R v1, jm_R v2, jm_I (jm_wr (v3 + 1)), jm_I (jm_or v4 (jm_shl 1 v5))] m14 (fun (o : Option jm_V) (m15 : jm_M) => o = none →
        jc E m_X6_takeBack d [jm_R v2] m15 (fun (o : Option jm_V) (m16 : jm_M) => o = none →
        jg E m_X2_orderFrom d 55 [some (jm_R 130), some (jm_R v1), some (jm_R v2), some (jm_I v3), some (jm_I v4), some (jm_I (jm_wr (v5 + 1))), none, none] [] m16 Q))))))))))))) : jg E m_X2_orderFrom d 55 [some (jm_R 130), some (jm_R v1), some (jm_R v2), some (jm_I v3), some (jm_I v4), some (jm_I v5), none, none] [] μ Q := by
  refine jm_iload d_X2_orderFrom_55 rfl ?_
  refine jm_aloadn d_X2_orderFrom_57 rfl ?_
  obtain ⟨f1, h⟩ := h
  refine jm_getI (k := 0) (ki := 0) cf_X1 (Nat.le_of_ble_eq_true rfl) f_X2_32 d_X2_orderFrom_58 rfl rfl f1 rfl ?_
  refine jm_icmp_ge (tgt := 143) d_X2_orderFrom_61 (by decide) (fun c2 => ?_) (fun c2 => ?_)
  · have h := h.1 c2
    exact jm_ret (o := none) d_X2_orderFrom_143 rfl ⟨Nat.le_refl _, Nat.le_refl _⟩ jm_r_V h rfl
  · have h := h.2 c2
    refine jm_aloadn d_X2_orderFrom_64 rfl ?_
    refine jm_iload d_X2_orderFrom_65 rfl ?_
    refine jm_invV (n1 := jm_N) (mc := 0) (ms := 0) (av := [jm_I _]) w_X1_whoAt l_X2_37 d_X2_orderFrom_67 rfl f1 ⟨_, _, rfl⟩ ⟨Nat.le_refl _, Nat.le_refl _⟩ (Nat.le_of_ble_eq_true rfl) rfl ?_
    refine jm_Cl.mono h (fun o m3 h hr _ => ?_)
    obtain ⟨r4, rfl⟩ := jm_rokI hr
    have h := h _ rfl
    refine jm_istore (L' := [some (jm_R _), some (jm_R _), some (jm_R _), some (jm_I _), some (jm_I _), some (jm_I _), some (jm_I _), none]) d_X2_orderFrom_70 (Nat.le_of_ble_eq_true rfl) rfl ?_
    refine jm_aloadn d_X2_orderFrom_72 rfl ?_
    refine jm_iload d_X2_orderFrom_73 rfl ?_
    refine jm_invV (n1 := jm_N) (mc := 0) (ms := 0) (av := [jm_I _]) w_X1_kindAt l_X2_41 d_X2_orderFrom_75 rfl f1 ⟨_, _, rfl⟩ ⟨Nat.le_refl _, Nat.le_refl _⟩ (Nat.le_of_ble_eq_true rfl) rfl ?_
    refine jm_Cl.mono h (fun o m5 h hr _ => ?_)
    obtain ⟨r6, rfl⟩ := jm_rokI hr
    have h := h _ rfl
    refine jm_istore (L' := [some (jm_R _), some (jm_R _), some (jm_R _), some (jm_I _), some (jm_I _), some (jm_I _), some (jm_I _), some (jm_I _)]) d_X2_orderFrom_78 (Nat.le_of_ble_eq_true rfl) rfl ?_
    refine jm_iload d_X2_orderFrom_80 rfl ?_
    refine jm_iload d_X2_orderFrom_82 rfl ?_
    refine jm_ishr d_X2_orderFrom_84 ?_
    refine jm_iconst (v := 1) d_X2_orderFrom_85 rfl (jm_okI (by decide) (by decide)) ?_
    refine jm_iand d_X2_orderFrom_86 ?_
    refine jm_if_ne (tgt := 137) d_X2_orderFrom_87 (by decide) (fun c7 => ?_) (fun c7 => ?_)
    · have h := h.1 c7
      refine jm_iinc (L' := [some (jm_R _), some (jm_R _), some (jm_R _), some (jm_I _), some (jm_I _), some (jm_I _), some (jm_I _), some (jm_I _)]) d_X2_orderFrom_137 rfl rfl (Nat.le_of_ble_eq_true rfl) rfl ?_
      refine jm_goto (tgt := 55) d_X2_orderFrom_140 (by decide) ?_
      exact jm_weak2 h (And.intro rfl (And.intro rfl (And.intro rfl (And.intro rfl (And.intro rfl (And.intro rfl trivial))))))
    · have h := h.2 c7
      refine jm_aloadn d_X2_orderFrom_90 rfl ?_
      refine jm_iload d_X2_orderFrom_91 rfl ?_
      refine jm_iload d_X2_orderFrom_93 rfl ?_
      obtain ⟨f9, h⟩ := h
      refine jm_invV (n1 := jm_N) (mc := 0) (ms := 0) (av := [jm_I _, jm_I _]) w_X6_flaw l_X2_44 d_X2_orderFrom_95 rfl f9 ⟨_, _, rfl⟩ ⟨Nat.le_refl _, Nat.le_refl _⟩ (Nat.le_of_ble_eq_true rfl) rfl ?_
      refine jm_Cl.mono h (fun o m8 h hr _ => ?_)
      obtain ⟨r10, rfl⟩ := jm_rokI hr
      have h := h _ rfl
      refine jm_if_ne (tgt := 137) d_X2_orderFrom_98 (by decide) (fun c11 => ?_) (fun c11 => ?_)
      · have h := h.1 c11
        refine jm_iinc (L' := [some (jm_R _), some (jm_R _), some (jm_R _), some (jm_I _), some (jm_I _), some (jm_I _), some (jm_I _), some (jm_I _)]) d_X2_orderFrom_137 rfl rfl (Nat.le_of_ble_eq_true rfl) rfl ?_
        refine jm_goto (tgt := 55) d_X2_orderFrom_140 (by decide) ?_
        exact jm_weak2 h (And.intro rfl (And.intro rfl (And.intro rfl (And.intro rfl (And.intro rfl (And.intro rfl trivial))))))
      · have h := h.2 c11
        refine jm_aloadn d_X2_orderFrom_101 rfl ?_
        refine jm_getF (k := 4) (ki := 4) rfl cf_X2 (Nat.le_of_ble_eq_true rfl) f_X2_15 d_X2_orderFrom_102 rfl rfl is_130 fr_130_4 ?_
        refine jm_iloadn d_X2_orderFrom_105 rfl ?_
        refine jm_iload d_X2_orderFrom_106 rfl ?_
        obtain ⟨f12, h⟩ := h
        refine jm_iastore d_X2_orderFrom_108 (ixl_131 f12.1 f12.2) ?_
        have h := h _ rfl
        refine jm_aloadn d_X2_orderFrom_109 rfl ?_
        refine jm_iload d_X2_orderFrom_110 rfl ?_
        refine jm_iload d_X2_orderFrom_112 rfl ?_
        refine jm_invV (n1 := jm_N) (mc := 0) (ms := 0) (av := [jm_I _, jm_I _]) w_X6_add l_X2_50 d_X2_orderFrom_114 rfl f9 ⟨_, _, rfl⟩ ⟨Nat.le_refl _, Nat.le_refl _⟩ (Nat.le_of_ble_eq_true rfl) rfl ?_
        refine jm_Cl.mono h (fun o m14 h hr _ => ?_)
        obtain rfl := jm_rokV hr
        have h := h rfl
        refine jm_aloadn d_X2_orderFrom_117 rfl ?_
        refine jm_aloadn d_X2_orderFrom_118 rfl ?_
        refine jm_aloadn d_X2_orderFrom_119 rfl ?_
        refine jm_iloadn d_X2_orderFrom_120 rfl ?_
        refine jm_iconst (v := 1) d_X2_orderFrom_121 rfl (jm_okI (by decide) (by decide)) ?_
        refine jm_iadd d_X2_orderFrom_122 ?_
        refine jm_iload d_X2_orderFrom_123 rfl ?_
        refine jm_iconst (v := 1) d_X2_orderFrom_125 rfl (jm_okI (by decide) (by decide)) ?_
        refine jm_iload d_X2_orderFrom_126 rfl ?_
        refine jm_ishl d_X2_orderFrom_128 ?_
        refine jm_ior d_X2_orderFrom_129 ?_
        refine jm_invV (n1 := jm_N) (mc := 0) (ms := 0) (av := [jm_R _, jm_R _, jm_I _, jm_I _]) w_X2_orderFrom l_X2_60 d_X2_orderFrom_130 rfl is_130 ⟨_, _, rfl⟩ ⟨Nat.le_refl _, Nat.le_refl _⟩ (Nat.le_of_ble_eq_true rfl) rfl ?_
        refine jm_Cl.mono h (fun o m15 h hr _ => ?_)
        obtain rfl := jm_rokV hr
        have h := h rfl
        refine jm_aloadn d_X2_orderFrom_133 rfl ?_
        refine jm_invV (n1 := jm_N) (mc := 0) (ms := 0) (av := []) w_X6_takeBack l_X2_54 d_X2_orderFrom_134 rfl f9 ⟨_, _, rfl⟩ ⟨Nat.le_refl _, Nat.le_refl _⟩ (Nat.le_of_ble_eq_true rfl) rfl ?_
        refine jm_Cl.mono h (fun o m16 h hr _ => ?_)
        obtain rfl := jm_rokV hr
        have h := h rfl
        refine jm_iinc (L' := [some (jm_R _), some (jm_R _), some (jm_R _), some (jm_I _), some (jm_I _), some (jm_I _), some (jm_I _), some (jm_I _)]) d_X2_orderFrom_137 rfl rfl (Nat.le_of_ble_eq_true rfl) rfl ?_
        refine jm_goto (tgt := 55) d_X2_orderFrom_140 (by decide) ?_
        exact jm_weak2 h (And.intro rfl (And.intro rfl (And.intro rfl (And.intro rfl (And.intro rfl (And.intro rfl trivial))))))
/-! ('CombTable$Repair', 'placeAt', '(I)I') -/
theorem d_X2_placeAt_0 : decode m_X2_placeAt.2.1 0 = .ok (.iload_n 1, 1) := by decide +kernel
theorem d_X2_placeAt_1 : decode m_X2_placeAt.2.1 1 = .ok (.ifCond .lt 26, 3) := by decide +kernel
theorem d_X2_placeAt_4 : decode m_X2_placeAt.2.1 4 = .ok (.iload_n 1, 1) := by decide +kernel
theorem d_X2_placeAt_5 : decode m_X2_placeAt.2.1 5 = .ok (.aload_n 0, 1) := by decide +kernel
theorem d_X2_placeAt_6 : decode m_X2_placeAt.2.1 6 = .ok (.getfield 70, 3) := by decide +kernel
theorem d_X2_placeAt_9 : decode m_X2_placeAt.2.1 9 = .ok (.if_icmp .ge 18, 3) := by decide +kernel
theorem d_X2_placeAt_12 : decode m_X2_placeAt.2.1 12 = .ok (.iload_n 1, 1) := by decide +kernel
theorem d_X2_placeAt_13 : decode m_X2_placeAt.2.1 13 = .ok (.bipush 7, 2) := by decide +kernel
theorem d_X2_placeAt_15 : decode m_X2_placeAt.2.1 15 = .ok (.if_icmp .ge 12, 3) := by decide +kernel
theorem d_X2_placeAt_18 : decode m_X2_placeAt.2.1 18 = .ok (.aload_n 0, 1) := by decide +kernel
theorem d_X2_placeAt_19 : decode m_X2_placeAt.2.1 19 = .ok (.getfield 19, 3) := by decide +kernel
theorem d_X2_placeAt_22 : decode m_X2_placeAt.2.1 22 = .ok (.iload_n 1, 1) := by decide +kernel
theorem d_X2_placeAt_23 : decode m_X2_placeAt.2.1 23 = .ok (.iaload, 1) := by decide +kernel
theorem d_X2_placeAt_24 : decode m_X2_placeAt.2.1 24 = .ok (.goto 4, 3) := by decide +kernel
theorem d_X2_placeAt_27 : decode m_X2_placeAt.2.1 27 = .ok (.iconst (-1), 1) := by decide +kernel
theorem d_X2_placeAt_28 : decode m_X2_placeAt.2.1 28 = .ok (.ireturn, 1) := by decide +kernel
set_option maxRecDepth 20000 in
theorem e_X2_placeAt {E : jm_E} {d : Nat} {μ : jm_M} {Q : Option jm_V → jm_M → Prop} {v1 : Int} (h : (∀ v ∈ ([jm_R 130, jm_I v1] : List jm_V), jm_ok v) →
  ((v1 < 0 →
    Q (some (jm_I ((-1)))) μ) ∧
   (¬ (v1 < 0) →
    ((μ 130 6 ≤ v1 →
      Q (some (jm_I ((-1)))) μ) ∧
     (¬ (μ 130 6 ≤ v1) →
      ((7 ≤ v1 →
        Q (some (jm_I ((-1)))) μ) ∧
       (¬ (7 ≤ v1) →
        (0 ≤ v1 ∧ v1 < 7) ∧
        Q (some (jm_I (μ 132 v1))) μ))))))) : jc E m_X2_placeAt (d + 1) [jm_R 130, jm_I v1] μ Q := by
  refine jm_Cl.of2 (by decide +kernel) (L0 := [some (jm_R 130), some (jm_I v1)]) rfl (Nat.le_of_ble_eq_true rfl) (fun hok => ?_)
  have h := h hok
  refine jm_iloadn d_X2_placeAt_0 rfl ?_
  refine jm_if_lt (tgt := 27) d_X2_placeAt_1 (by decide) (fun c1 => ?_) (fun c1 => ?_)
  · have h := h.1 c1
    refine jm_iconst (v := (-1)) d_X2_placeAt_27 rfl (jm_okI (by decide) (by decide)) ?_
    exact jm_ret (o := some (jm_I _)) d_X2_placeAt_28 rfl ⟨Nat.le_refl _, Nat.le_refl _⟩ jm_r_I h rfl
  · have h := h.2 c1
    refine jm_iloadn d_X2_placeAt_4 rfl ?_
    refine jm_aloadn d_X2_placeAt_5 rfl ?_
    refine jm_getI (k := 6) (ki := 6) cf_X2 (Nat.le_of_ble_eq_true rfl) f_X2_70 d_X2_placeAt_6 rfl rfl is_130 rfl ?_
    refine jm_icmp_ge (tgt := 27) d_X2_placeAt_9 (by decide) (fun c2 => ?_) (fun c2 => ?_)
    · have h := h.1 c2
      refine jm_iconst (v := (-1)) d_X2_placeAt_27 rfl (jm_okI (by decide) (by decide)) ?_
      exact jm_ret (o := some (jm_I _)) d_X2_placeAt_28 rfl ⟨Nat.le_refl _, Nat.le_refl _⟩ jm_r_I h rfl
    · have h := h.2 c2
      refine jm_iloadn d_X2_placeAt_12 rfl ?_
      refine jm_bipush (v := 7) d_X2_placeAt_13 rfl (jm_okI (by decide) (by decide)) ?_
      refine jm_icmp_ge (tgt := 27) d_X2_placeAt_15 (by decide) (fun c3 => ?_) (fun c3 => ?_)
      · have h := h.1 c3
        refine jm_iconst (v := (-1)) d_X2_placeAt_27 rfl (jm_okI (by decide) (by decide)) ?_
        exact jm_ret (o := some (jm_I _)) d_X2_placeAt_28 rfl ⟨Nat.le_refl _, Nat.le_refl _⟩ jm_r_I h rfl
      · have h := h.2 c3
        refine jm_aloadn d_X2_placeAt_18 rfl ?_
        refine jm_getF (k := 5) (ki := 5) rfl cf_X2 (Nat.le_of_ble_eq_true rfl) f_X2_19 d_X2_placeAt_19 rfl rfl is_130 fr_130_5 ?_
        refine jm_iloadn d_X2_placeAt_22 rfl ?_
        obtain ⟨f4, h⟩ := h
        refine jm_iaload d_X2_placeAt_23 (ixl_132 f4.1 f4.2) ?_
        refine jm_goto (tgt := 28) d_X2_placeAt_24 (by decide) ?_
        exact jm_ret (o := some (jm_I _)) d_X2_placeAt_28 rfl ⟨Nat.le_refl _, Nat.le_refl _⟩ jm_r_I h rfl
