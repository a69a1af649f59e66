-- X6_init: by hand (objinit)
/-! ('CombTable$Talk', 'begin', '(LCombTable$Table;)V') -/
theorem d_X6_begin_0 : decode m_X6_begin.2.1 0 = .ok (.aload_n 0, 1) := by decide +kernel
theorem d_X6_begin_1 : decode m_X6_begin.2.1 1 = .ok (.aload_n 1, 1) := by decide +kernel
theorem d_X6_begin_2 : decode m_X6_begin.2.1 2 = .ok (.putfield 18, 3) := by decide +kernel
theorem d_X6_begin_5 : decode m_X6_begin.2.1 5 = .ok (.aload_n 0, 1) := by decide +kernel
theorem d_X6_begin_6 : decode m_X6_begin.2.1 6 = .ok (.iconst 0, 1) := by decide +kernel
theorem d_X6_begin_7 : decode m_X6_begin.2.1 7 = .ok (.putfield 43, 3) := by decide +kernel
theorem d_X6_begin_10 : decode m_X6_begin.2.1 10 = .ok (.aload_n 0, 1) := by decide +kernel
theorem d_X6_begin_11 : decode m_X6_begin.2.1 11 = .ok (.iconst 0, 1) := by decide +kernel
theorem d_X6_begin_12 : decode m_X6_begin.2.1 12 = .ok (.putfield 47, 3) := by decide +kernel
theorem d_X6_begin_15 : decode m_X6_begin.2.1 15 = .ok (.return_, 1) := by decide +kernel
set_option maxRecDepth 20000 in
theorem e_X6_begin {E : jm_E} {d : Nat} {μ : jm_M} {Q : Option jm_V → jm_M → Prop} {v0 v1 : Int} (h : (∀ v ∈ ([jm_R v0, jm_R v1] : List jm_V), jm_ok v) →
  (jm_is jm_N v0 1 6) ∧
  Q none (jm_up (jm_up (jm_up μ v0 0 v1) v0 1 0) v0 2 0)) : jc E m_X6_begin (d + 1) [jm_R v0, jm_R v1] μ Q := by
  refine jm_Cl.of2 (by decide +kernel) (L0 := [some (jm_R v0), some (jm_R v1)]) rfl (Nat.le_of_ble_eq_true rfl) (fun hok => ?_)
  have h := h hok
  refine jm_aloadn d_X6_begin_0 rfl ?_
  refine jm_aloadn d_X6_begin_1 rfl ?_
  obtain ⟨f1, h⟩ := h
  refine jm_putR (k := 0) (ki := 0) cf_X6 (Nat.le_of_ble_eq_true rfl) f_X6_18 d_X6_begin_2 (fun z => absurd z (by decide)) rfl (Or.inl ⟨_, rfl⟩) rfl (fun _ => rfl) f1 ?_
  refine jm_aloadn d_X6_begin_5 rfl ?_
  refine jm_iconst (v := 0) d_X6_begin_6 rfl (jm_okI (by decide) (by decide)) ?_
  refine jm_putI (k := 1) (ki := 1) cf_X6 (Nat.le_of_ble_eq_true rfl) f_X6_43 d_X6_begin_7 (fun z => absurd z (by decide)) rfl rfl rfl (fun _ => rfl) f1 ?_
  refine jm_aloadn d_X6_begin_10 rfl ?_
  refine jm_iconst (v := 0) d_X6_begin_11 rfl (jm_okI (by decide) (by decide)) ?_
  refine jm_putI (k := 2) (ki := 2) cf_X6 (Nat.le_of_ble_eq_true rfl) f_X6_47 d_X6_begin_12 (fun z => absurd z (by decide)) rfl rfl rfl (fun _ => rfl) f1 ?_
  exact jm_ret (o := none) d_X6_begin_15 rfl ⟨Nat.le_refl _, Nat.le_refl _⟩ jm_r_V h rfl
/-! ('CombTable$Talk', 'has', '(I)Z') -/
theorem d_X6_has_0 : decode m_X6_has.2.1 0 = .ok (.iload_n 1, 1) := by decide +kernel
theorem d_X6_has_1 : decode m_X6_has.2.1 1 = .ok (.ifCond .lt 15, 3) := by decide +kernel
theorem d_X6_has_4 : decode m_X6_has.2.1 4 = .ok (.iload_n 1, 1) := by decide +kernel
theorem d_X6_has_5 : decode m_X6_has.2.1 5 = .ok (.aload_n 0, 1) := by decide +kernel
theorem d_X6_has_6 : decode m_X6_has.2.1 6 = .ok (.getfield 43, 3) := by decide +kernel
theorem d_X6_has_9 : decode m_X6_has.2.1 9 = .ok (.if_icmp .ge 7, 3) := by decide +kernel
theorem d_X6_has_12 : decode m_X6_has.2.1 12 = .ok (.iconst 1, 1) := by decide +kernel
theorem d_X6_has_13 : decode m_X6_has.2.1 13 = .ok (.goto 4, 3) := by decide +kernel
theorem d_X6_has_16 : decode m_X6_has.2.1 16 = .ok (.iconst 0, 1) := by decide +kernel
theorem d_X6_has_17 : decode m_X6_has.2.1 17 = .ok (.ireturn, 1) := by decide +kernel
set_option maxRecDepth 20000 in
theorem e_X6_has {E : jm_E} {d : Nat} {μ : jm_M} {Q : Option jm_V → jm_M → Prop} {v0 v1 : Int} (h : (∀ v ∈ ([jm_R v0, jm_I v1] : List jm_V), jm_ok v) →
  ((v1 < 0 →
    Q (some (jm_I 0)) μ) ∧
   (¬ (v1 < 0) →
    (jm_is jm_N v0 1 6) ∧
    ((μ v0 1 ≤ v1 →
      Q (some (jm_I 0)) μ) ∧
     (¬ (μ v0 1 ≤ v1) →
      Q (some (jm_I 1)) μ))))) : jc E m_X6_has (d + 1) [jm_R v0, jm_I v1] μ Q := by
  refine jm_Cl.of2 (by decide +kernel) (L0 := [some (jm_R v0), some (jm_I v1)]) rfl (Nat.le_of_ble_eq_true rfl) (fun hok => ?_)
  have h := h hok
  refine jm_iloadn d_X6_has_0 rfl ?_
  refine jm_if_lt (tgt := 16) d_X6_has_1 (by decide) (fun c1 => ?_) (fun c1 => ?_)
  · have h := h.1 c1
    refine jm_iconst (v := 0) d_X6_has_16 rfl (jm_okI (by decide) (by decide)) ?_
    exact jm_ret (o := some (jm_I _)) d_X6_has_17 rfl ⟨Nat.le_refl _, Nat.le_refl _⟩ (jm_r_Z (by decide)) h rfl
  · have h := h.2 c1
    refine jm_iloadn d_X6_has_4 rfl ?_
    refine jm_aloadn d_X6_has_5 rfl ?_
    obtain ⟨f2, h⟩ := h
    refine jm_getI (k := 1) (ki := 1) cf_X6 (Nat.le_of_ble_eq_true rfl) f_X6_43 d_X6_has_6 rfl rfl f2 rfl ?_
    refine jm_icmp_ge (tgt := 16) d_X6_has_9 (by decide) (fun c3 => ?_) (fun c3 => ?_)
    · have h := h.1 c3
      refine jm_iconst (v := 0) d_X6_has_16 rfl (jm_okI (by decide) (by decide)) ?_
      exact jm_ret (o := some (jm_I _)) d_X6_has_17 rfl ⟨Nat.le_refl _, Nat.le_refl _⟩ (jm_r_Z (by decide)) h rfl
    · have h := h.2 c3
      refine jm_iconst (v := 1) d_X6_has_12 rfl (jm_okI (by decide) (by decide)) ?_
      refine jm_goto (tgt := 17) d_X6_has_13 (by decide) ?_
      exact jm_ret (o := some (jm_I _)) d_X6_has_17 rfl ⟨Nat.le_refl _, Nat.le_refl _⟩ (jm_r_Z (by decide)) h rfl
/-! ('CombTable$Talk', 'heardBy', '(II)I') -/
theorem d_X6_heardBy_0 : decode m_X6_heardBy.2.1 0 = .ok (.aload_n 0, 1) := by decide +kernel
theorem d_X6_heardBy_1 : decode m_X6_heardBy.2.1 1 = .ok (.getfield 43, 3) := by decide +kernel
theorem d_X6_heardBy_4 : decode m_X6_heardBy.2.1 4 = .ok (.aload_n 0, 1) := by decide +kernel
theorem d_X6_heardBy_5 : decode m_X6_heardBy.2.1 5 = .ok (.getfield 18, 3) := by decide +kernel
theorem d_X6_heardBy_8 : decode m_X6_heardBy.2.1 8 = .ok (.iload_n 1, 1) := by decide +kernel
theorem d_X6_heardBy_9 : decode m_X6_heardBy.2.1 9 = .ok (.aload_n 0, 1) := by decide +kernel
theorem d_X6_heardBy_10 : decode m_X6_heardBy.2.1 10 = .ok (.getfield 43, 3) := by decide +kernel
theorem d_X6_heardBy_13 : decode m_X6_heardBy.2.1 13 = .ok (.invokevirtual 58, 3) := by decide +kernel
theorem d_X6_heardBy_16 : decode m_X6_heardBy.2.1 16 = .ok (.isub, 1) := by decide +kernel
theorem d_X6_heardBy_17 : decode m_X6_heardBy.2.1 17 = .ok (.istore_n 3, 1) := by decide +kernel
theorem d_X6_heardBy_18 : decode m_X6_heardBy.2.1 18 = .ok (.aload_n 0, 1) := by decide +kernel
theorem d_X6_heardBy_19 : decode m_X6_heardBy.2.1 19 = .ok (.iload_n 3, 1) := by decide +kernel
theorem d_X6_heardBy_20 : decode m_X6_heardBy.2.1 20 = .ok (.invokevirtual 61, 3) := by decide +kernel
theorem d_X6_heardBy_23 : decode m_X6_heardBy.2.1 23 = .ok (.ifCond .eq 19, 3) := by decide +kernel
theorem d_X6_heardBy_26 : decode m_X6_heardBy.2.1 26 = .ok (.aload_n 0, 1) := by decide +kernel
theorem d_X6_heardBy_27 : decode m_X6_heardBy.2.1 27 = .ok (.getfield 18, 3) := by decide +kernel
theorem d_X6_heardBy_30 : decode m_X6_heardBy.2.1 30 = .ok (.iload_n 2, 1) := by decide +kernel
theorem d_X6_heardBy_31 : decode m_X6_heardBy.2.1 31 = .ok (.invokevirtual 65, 3) := by decide +kernel
theorem d_X6_heardBy_34 : decode m_X6_heardBy.2.1 34 = .ok (.iconst 2, 1) := by decide +kernel
theorem d_X6_heardBy_35 : decode m_X6_heardBy.2.1 35 = .ok (.if_icmp .eq 7, 3) := by decide +kernel
theorem d_X6_heardBy_38 : decode m_X6_heardBy.2.1 38 = .ok (.iload_n 3, 1) := by decide +kernel
theorem d_X6_heardBy_39 : decode m_X6_heardBy.2.1 39 = .ok (.goto 4, 3) := by decide +kernel
theorem d_X6_heardBy_42 : decode m_X6_heardBy.2.1 42 = .ok (.iconst (-1), 1) := by decide +kernel
theorem d_X6_heardBy_43 : decode m_X6_heardBy.2.1 43 = .ok (.ireturn, 1) := by decide +kernel
set_option maxRecDepth 20000 in
theorem e_X6_heardBy {E : jm_E} {d : Nat} {μ : jm_M} {Q : Option jm_V → jm_M → Prop} {v0 v1 v2 : Int} (h : (∀ v ∈ ([jm_R v0, jm_I v1, jm_I v2] : List jm_V), jm_ok v) →
  (jm_is jm_N v0 1 6) ∧
  (jm_is jm_N (μ v0 0) 1 5) ∧
  jc E m_X5_reach d [jm_R (μ v0 0), jm_I v1, jm_I (μ v0 1)] μ (fun (o : Option jm_V) (m2 : jm_M) => ∀ r4 : Int, o = some (jm_I r4) →
  ∀ x5 : Int, x5 = jm_wr ((μ v0 1) - r4) →
  jc E m_X6_has d [jm_R v0, jm_I x5] m2 (fun (o : Option jm_V) (m6 : jm_M) => ∀ r7 : Int, o = some (jm_I r7) → (r7 = 0 ∨ r7 = 1) →
  ((r7 = 0 →
    Q (some (jm_I ((-1)))) m6) ∧
   (¬ (r7 = 0) →
    (jm_is jm_N (m6 v0 0) 1 5) ∧
    jc E m_X5_openingOf d [jm_R (m6 v0 0), jm_I v2] m6 (fun (o : Option jm_V) (m10 : jm_M) => ∀ r12 : Int, o = some (jm_I r12) →
    ((r12 = 2 →
      Q (some (jm_I ((-1)))) m10) ∧
     (¬ (r12 = 2) →
      Q (some (jm_I x5)) m10)))))))) : jc E m_X6_heardBy (d + 1) [jm_R v0, jm_I v1, jm_I v2] μ Q := by
  refine jm_Cl.of2 (by decide +kernel) (L0 := [some (jm_R v0), some (jm_I v1), some (jm_I v2), none]) rfl (Nat.le_of_ble_eq_true rfl) (fun hok => ?_)
  have h := h hok
  refine jm_aloadn d_X6_heardBy_0 rfl ?_
  obtain ⟨f1, h⟩ := h
  refine jm_getI (k := 1) (ki := 1) cf_X6 (Nat.le_of_ble_eq_true rfl) f_X6_43 d_X6_heardBy_1 rfl rfl f1 rfl ?_
  refine jm_aloadn d_X6_heardBy_4 rfl ?_
  refine jm_getR (k := 0) (ki := 0) cf_X6 (Nat.le_of_ble_eq_true rfl) f_X6_18 d_X6_heardBy_5 rfl rfl f1 rfl ?_
  refine jm_iloadn d_X6_heardBy_8 rfl ?_
  refine jm_aloadn d_X6_heardBy_9 rfl ?_
  refine jm_getI (k := 1) (ki := 1) cf_X6 (Nat.le_of_ble_eq_true rfl) f_X6_43 d_X6_heardBy_10 rfl rfl f1 rfl ?_
  obtain ⟨f3, h⟩ := h
  refine jm_invV (n1 := jm_N) (mc := 0) (ms := 0) (av := [jm_I _, jm_I _]) w_X5_reach l_X6_58 d_X6_heardBy_13 rfl f3 ⟨_, _, rfl⟩ ⟨Nat.le_refl _, Nat.le_refl _⟩ (Nat.le_of_ble_eq_true rfl) rfl ?_
  refine jm_Cl.mono h (fun o m2 h hr _ => ?_)
  obtain ⟨r4, rfl⟩ := jm_rokI hr
  have h := h _ rfl
  refine jm_isub d_X6_heardBy_16 ?_
  have h := h _ rfl
  refine jm_istoren (L' := [some (jm_R _), some (jm_I _), some (jm_I _), some (jm_I _)]) d_X6_heardBy_17 (Nat.le_of_ble_eq_true rfl) rfl ?_
  refine jm_aloadn d_X6_heardBy_18 rfl ?_
  refine jm_iloadn d_X6_heardBy_19 rfl ?_
  refine jm_invV (n1 := jm_N) (mc := 0) (ms := 0) (av := [jm_I _]) w_X6_has l_X6_61 d_X6_heardBy_20 rfl f1 ⟨_, _, rfl⟩ ⟨Nat.le_refl _, Nat.le_refl _⟩ (Nat.le_of_ble_eq_true rfl) rfl ?_
  refine jm_Cl.mono h (fun o m6 h hr _ => ?_)
  obtain ⟨r7, rfl, z8⟩ := jm_rokZ hr
  have h := h _ rfl z8
  refine jm_if_eq (tgt := 42) d_X6_heardBy_23 (by decide) (fun c9 => ?_) (fun c9 => ?_)
  · have h := h.1 c9
    refine jm_iconst (v := (-1)) d_X6_heardBy_42 rfl (jm_okI (by decide) (by decide)) ?_
    exact jm_ret (o := some (jm_I _)) d_X6_heardBy_43 rfl ⟨Nat.le_refl _, Nat.le_refl _⟩ jm_r_I h rfl
  · have h := h.2 c9
    refine jm_aloadn d_X6_heardBy_26 rfl ?_
    refine jm_getR (k := 0) (ki := 0) cf_X6 (Nat.le_of_ble_eq_true rfl) f_X6_18 d_X6_heardBy_27 rfl rfl f1 rfl ?_
    refine jm_iloadn d_X6_heardBy_30 rfl ?_
    obtain ⟨f11, h⟩ := h
    refine jm_invV (n1 := jm_N) (mc := 0) (ms := 0) (av := [jm_I _]) w_X5_openingOf l_X6_65 d_X6_heardBy_31 rfl f11 ⟨_, _, rfl⟩ ⟨Nat.le_refl _, Nat.le_refl _⟩ (Nat.le_of_ble_eq_true rfl) rfl ?_
    refine jm_Cl.mono h (fun o m10 h hr _ => ?_)
    obtain ⟨r12, rfl⟩ := jm_rokI hr
    have h := h _ rfl
    refine jm_iconst (v := 2) d_X6_heardBy_34 rfl (jm_okI (by decide) (by decide)) ?_
    refine jm_icmp_eq (tgt := 42) d_X6_heardBy_35 (by decide) (fun c13 => ?_) (fun c13 => ?_)
    · have h := h.1 c13
      refine jm_iconst (v := (-1)) d_X6_heardBy_42 rfl (jm_okI (by decide) (by decide)) ?_
      exact jm_ret (o := some (jm_I _)) d_X6_heardBy_43 rfl ⟨Nat.le_refl _, Nat.le_refl _⟩ jm_r_I h rfl
    · have h := h.2 c13
      refine jm_iloadn d_X6_heardBy_38 rfl ?_
      refine jm_goto (tgt := 43) d_X6_heardBy_39 (by decide) ?_
      exact jm_ret (o := some (jm_I _)) d_X6_heardBy_43 rfl ⟨Nat.le_refl _, Nat.le_refl _⟩ jm_r_I h rfl
/-! ('CombTable$Talk', 'repeats', '(I)Z') -/
theorem d_X6_repeats_0 : decode m_X6_repeats.2.1 0 = .ok (.aload_n 0, 1) := by decide +kernel
theorem d_X6_repeats_1 : decode m_X6_repeats.2.1 1 = .ok (.getfield 18, 3) := by decide +kernel
theorem d_X6_repeats_4 : decode m_X6_repeats.2.1 4 = .ok (.getfield 69, 3) := by decide +kernel
theorem d_X6_repeats_7 : decode m_X6_repeats.2.1 7 = .ok (.ifCond .ne 29, 3) := by decide +kernel
theorem d_X6_repeats_10 : decode m_X6_repeats.2.1 10 = .ok (.aload_n 0, 1) := by decide +kernel
theorem d_X6_repeats_11 : decode m_X6_repeats.2.1 11 = .ok (.getfield 43, 3) := by decide +kernel
theorem d_X6_repeats_14 : decode m_X6_repeats.2.1 14 = .ok (.ifCond .le 22, 3) := by decide +kernel
theorem d_X6_repeats_17 : decode m_X6_repeats.2.1 17 = .ok (.aload_n 0, 1) := by decide +kernel
theorem d_X6_repeats_18 : decode m_X6_repeats.2.1 18 = .ok (.getfield 24, 3) := by decide +kernel
theorem d_X6_repeats_21 : decode m_X6_repeats.2.1 21 = .ok (.aload_n 0, 1) := by decide +kernel
theorem d_X6_repeats_22 : decode m_X6_repeats.2.1 22 = .ok (.getfield 43, 3) := by decide +kernel
theorem d_X6_repeats_25 : decode m_X6_repeats.2.1 25 = .ok (.iconst 1, 1) := by decide +kernel
theorem d_X6_repeats_26 : decode m_X6_repeats.2.1 26 = .ok (.isub, 1) := by decide +kernel
theorem d_X6_repeats_27 : decode m_X6_repeats.2.1 27 = .ok (.iaload, 1) := by decide +kernel
theorem d_X6_repeats_28 : decode m_X6_repeats.2.1 28 = .ok (.iload_n 1, 1) := by decide +kernel
theorem d_X6_repeats_29 : decode m_X6_repeats.2.1 29 = .ok (.if_icmp .ne 7, 3) := by decide +kernel
theorem d_X6_repeats_32 : decode m_X6_repeats.2.1 32 = .ok (.iconst 1, 1) := by decide +kernel
theorem d_X6_repeats_33 : decode m_X6_repeats.2.1 33 = .ok (.goto 4, 3) := by decide +kernel
theorem d_X6_repeats_36 : decode m_X6_repeats.2.1 36 = .ok (.iconst 0, 1) := by decide +kernel
theorem d_X6_repeats_37 : decode m_X6_repeats.2.1 37 = .ok (.ireturn, 1) := by decide +kernel
set_option maxRecDepth 20000 in
theorem e_X6_repeats {E : jm_E} {d : Nat} {μ : jm_M} {Q : Option jm_V → jm_M → Prop} {v0 v1 : Int} (h : (∀ v ∈ ([jm_R v0, jm_I v1] : List jm_V), jm_ok v) →
  (jm_is jm_N v0 1 6) ∧
  (jm_is jm_N (μ v0 0) 1 5) ∧
  (((μ (μ v0 0) 15) ≠ 0 →
    Q (some (jm_I 0)) μ) ∧
   (¬ ((μ (μ v0 0) 15) ≠ 0) →
    ((μ v0 1 ≤ 0 →
      Q (some (jm_I 0)) μ) ∧
     (¬ (μ v0 1 ≤ 0) →
      (0 ≤ jm_wr ((μ v0 1) - 1) ∧ jm_wr ((μ v0 1) - 1) < (jm_sn (v0 + 10) : Int)) ∧
      (((μ ((v0 + 10)) (jm_wr ((μ v0 1) - 1))) ≠ v1 →
        Q (some (jm_I 0)) μ) ∧
       (¬ ((μ ((v0 + 10)) (jm_wr ((μ v0 1) - 1))) ≠ v1) →
        Q (some (jm_I 1)) μ))))))) : jc E m_X6_repeats (d + 1) [jm_R v0, jm_I v1] μ Q := by
  refine jm_Cl.of2 (by decide +kernel) (L0 := [some (jm_R v0), some (jm_I v1)]) rfl (Nat.le_of_ble_eq_true rfl) (fun hok => ?_)
  have h := h hok
  refine jm_aloadn d_X6_repeats_0 rfl ?_
  obtain ⟨f1, h⟩ := h
  refine jm_getR (k := 0) (ki := 0) cf_X6 (Nat.le_of_ble_eq_true rfl) f_X6_18 d_X6_repeats_1 rfl rfl f1 rfl ?_
  obtain ⟨f2, h⟩ := h
  refine jm_getI (k := 15) (ki := 15) cf_X5 (Nat.le_of_ble_eq_true rfl) f_X6_69 d_X6_repeats_4 rfl rfl f2 rfl ?_
  refine jm_if_ne (tgt := 36) d_X6_repeats_7 (by decide) (fun c3 => ?_) (fun c3 => ?_)
  · have h := h.1 c3
    refine jm_iconst (v := 0) d_X6_repeats_36 rfl (jm_okI (by decide) (by decide)) ?_
    exact jm_ret (o := some (jm_I _)) d_X6_repeats_37 rfl ⟨Nat.le_refl _, Nat.le_refl _⟩ (jm_r_Z (by decide)) h rfl
  · have h := h.2 c3
    refine jm_aloadn d_X6_repeats_10 rfl ?_
    refine jm_getI (k := 1) (ki := 1) cf_X6 (Nat.le_of_ble_eq_true rfl) f_X6_43 d_X6_repeats_11 rfl rfl f1 rfl ?_
    refine jm_if_le (tgt := 36) d_X6_repeats_14 (by decide) (fun c4 => ?_) (fun c4 => ?_)
    · have h := h.1 c4
      refine jm_iconst (v := 0) d_X6_repeats_36 rfl (jm_okI (by decide) (by decide)) ?_
      exact jm_ret (o := some (jm_I _)) d_X6_repeats_37 rfl ⟨Nat.le_refl _, Nat.le_refl _⟩ (jm_r_Z (by decide)) h rfl
    · have h := h.2 c4
      refine jm_aloadn d_X6_repeats_17 rfl ?_
      refine jm_getF (k := 4) (ki := 4) rfl cf_X6 (Nat.le_of_ble_eq_true rfl) f_X6_24 d_X6_repeats_18 rfl rfl f1 (fc_6_4 f1) ?_
      refine jm_aloadn d_X6_repeats_21 rfl ?_
      refine jm_getI (k := 1) (ki := 1) cf_X6 (Nat.le_of_ble_eq_true rfl) f_X6_43 d_X6_repeats_22 rfl rfl f1 rfl ?_
      refine jm_iconst (v := 1) d_X6_repeats_25 rfl (jm_okI (by decide) (by decide)) ?_
      refine jm_isub d_X6_repeats_26 ?_
      obtain ⟨f5, h⟩ := h
      refine jm_iaload d_X6_repeats_27 (xc_6_4 f1 f5.1 f5.2) ?_
      refine jm_iloadn d_X6_repeats_28 rfl ?_
      refine jm_icmp_ne (tgt := 36) d_X6_repeats_29 (by decide) (fun c6 => ?_) (fun c6 => ?_)
      · have h := h.1 c6
        refine jm_iconst (v := 0) d_X6_repeats_36 rfl (jm_okI (by decide) (by decide)) ?_
        exact jm_ret (o := some (jm_I _)) d_X6_repeats_37 rfl ⟨Nat.le_refl _, Nat.le_refl _⟩ (jm_r_Z (by decide)) h rfl
      · have h := h.2 c6
        refine jm_iconst (v := 1) d_X6_repeats_32 rfl (jm_okI (by decide) (by decide)) ?_
        refine jm_goto (tgt := 37) d_X6_repeats_33 (by decide) ?_
        exact jm_ret (o := some (jm_I _)) d_X6_repeats_37 rfl ⟨Nat.le_refl _, Nat.le_refl _⟩ (jm_r_Z (by decide)) h rfl
/-! ('CombTable$Talk', 'flaw', '(II)I') -/
theorem d_X6_flaw_0 : decode m_X6_flaw.2.1 0 = .ok (.aload_n 0, 1) := by decide +kernel
theorem d_X6_flaw_1 : decode m_X6_flaw.2.1 1 = .ok (.getfield 18, 3) := by decide +kernel
theorem d_X6_flaw_4 : decode m_X6_flaw.2.1 4 = .ok (.iload_n 1, 1) := by decide +kernel
theorem d_X6_flaw_5 : decode m_X6_flaw.2.1 5 = .ok (.invokevirtual 73, 3) := by decide +kernel
theorem d_X6_flaw_8 : decode m_X6_flaw.2.1 8 = .ok (.ifCond .eq 26, 3) := by decide +kernel
theorem d_X6_flaw_11 : decode m_X6_flaw.2.1 11 = .ok (.aload_n 0, 1) := by decide +kernel
theorem d_X6_flaw_12 : decode m_X6_flaw.2.1 12 = .ok (.getfield 18, 3) := by decide +kernel
theorem d_X6_flaw_15 : decode m_X6_flaw.2.1 15 = .ok (.iload_n 2, 1) := by decide +kernel
theorem d_X6_flaw_16 : decode m_X6_flaw.2.1 16 = .ok (.invokevirtual 76, 3) := by decide +kernel
theorem d_X6_flaw_19 : decode m_X6_flaw.2.1 19 = .ok (.ifCond .eq 15, 3) := by decide +kernel
theorem d_X6_flaw_22 : decode m_X6_flaw.2.1 22 = .ok (.aload_n 0, 1) := by decide +kernel
theorem d_X6_flaw_23 : decode m_X6_flaw.2.1 23 = .ok (.getfield 43, 3) := by decide +kernel
theorem d_X6_flaw_26 : decode m_X6_flaw.2.1 26 = .ok (.aload_n 0, 1) := by decide +kernel
theorem d_X6_flaw_27 : decode m_X6_flaw.2.1 27 = .ok (.getfield 24, 3) := by decide +kernel
theorem d_X6_flaw_30 : decode m_X6_flaw.2.1 30 = .ok (.arraylength, 1) := by decide +kernel
theorem d_X6_flaw_31 : decode m_X6_flaw.2.1 31 = .ok (.if_icmp .lt 5, 3) := by decide +kernel
theorem d_X6_flaw_34 : decode m_X6_flaw.2.1 34 = .ok (.iconst (-1), 1) := by decide +kernel
theorem d_X6_flaw_35 : decode m_X6_flaw.2.1 35 = .ok (.ireturn, 1) := by decide +kernel
theorem d_X6_flaw_36 : decode m_X6_flaw.2.1 36 = .ok (.aload_n 0, 1) := by decide +kernel
theorem d_X6_flaw_37 : decode m_X6_flaw.2.1 37 = .ok (.iload_n 1, 1) := by decide +kernel
theorem d_X6_flaw_38 : decode m_X6_flaw.2.1 38 = .ok (.invokevirtual 79, 3) := by decide +kernel
theorem d_X6_flaw_41 : decode m_X6_flaw.2.1 41 = .ok (.ifCond .eq 5, 3) := by decide +kernel
theorem d_X6_flaw_44 : decode m_X6_flaw.2.1 44 = .ok (.iconst 1, 1) := by decide +kernel
theorem d_X6_flaw_45 : decode m_X6_flaw.2.1 45 = .ok (.ireturn, 1) := by decide +kernel
theorem d_X6_flaw_46 : decode m_X6_flaw.2.1 46 = .ok (.aload_n 0, 1) := by decide +kernel
theorem d_X6_flaw_47 : decode m_X6_flaw.2.1 47 = .ok (.iload_n 1, 1) := by decide +kernel
theorem d_X6_flaw_48 : decode m_X6_flaw.2.1 48 = .ok (.iload_n 2, 1) := by decide +kernel
theorem d_X6_flaw_49 : decode m_X6_flaw.2.1 49 = .ok (.invokevirtual 82, 3) := by decide +kernel
theorem d_X6_flaw_52 : decode m_X6_flaw.2.1 52 = .ok (.istore_n 3, 1) := by decide +kernel
theorem d_X6_flaw_53 : decode m_X6_flaw.2.1 53 = .ok (.aload_n 0, 1) := by decide +kernel
theorem d_X6_flaw_54 : decode m_X6_flaw.2.1 54 = .ok (.getfield 18, 3) := by decide +kernel
theorem d_X6_flaw_57 : decode m_X6_flaw.2.1 57 = .ok (.iload_n 2, 1) := by decide +kernel
theorem d_X6_flaw_58 : decode m_X6_flaw.2.1 58 = .ok (.invokevirtual 85, 3) := by decide +kernel
theorem d_X6_flaw_61 : decode m_X6_flaw.2.1 61 = .ok (.istore 4, 2) := by decide +kernel
theorem d_X6_flaw_63 : decode m_X6_flaw.2.1 63 = .ok (.aload_n 0, 1) := by decide +kernel
theorem d_X6_flaw_64 : decode m_X6_flaw.2.1 64 = .ok (.iload_n 3, 1) := by decide +kernel
theorem d_X6_flaw_65 : decode m_X6_flaw.2.1 65 = .ok (.invokevirtual 61, 3) := by decide +kernel
theorem d_X6_flaw_68 : decode m_X6_flaw.2.1 68 = .ok (.ifCond .ne 28, 3) := by decide +kernel
theorem d_X6_flaw_71 : decode m_X6_flaw.2.1 71 = .ok (.aload_n 0, 1) := by decide +kernel
theorem d_X6_flaw_72 : decode m_X6_flaw.2.1 72 = .ok (.getfield 18, 3) := by decide +kernel
theorem d_X6_flaw_75 : decode m_X6_flaw.2.1 75 = .ok (.iload_n 2, 1) := by decide +kernel
theorem d_X6_flaw_76 : decode m_X6_flaw.2.1 76 = .ok (.invokevirtual 65, 3) := by decide +kernel
theorem d_X6_flaw_79 : decode m_X6_flaw.2.1 79 = .ok (.ifCond .ne 5, 3) := by decide +kernel
theorem d_X6_flaw_82 : decode m_X6_flaw.2.1 82 = .ok (.iconst 2, 1) := by decide +kernel
theorem d_X6_flaw_83 : decode m_X6_flaw.2.1 83 = .ok (.ireturn, 1) := by decide +kernel
theorem d_X6_flaw_84 : decode m_X6_flaw.2.1 84 = .ok (.iload 4, 2) := by decide +kernel
theorem d_X6_flaw_86 : decode m_X6_flaw.2.1 86 = .ok (.iconst 2, 1) := by decide +kernel
theorem d_X6_flaw_87 : decode m_X6_flaw.2.1 87 = .ok (.if_icmp .lt 7, 3) := by decide +kernel
theorem d_X6_flaw_90 : decode m_X6_flaw.2.1 90 = .ok (.iconst 5, 1) := by decide +kernel
theorem d_X6_flaw_91 : decode m_X6_flaw.2.1 91 = .ok (.goto 4, 3) := by decide +kernel
theorem d_X6_flaw_94 : decode m_X6_flaw.2.1 94 = .ok (.iconst 0, 1) := by decide +kernel
theorem d_X6_flaw_95 : decode m_X6_flaw.2.1 95 = .ok (.ireturn, 1) := by decide +kernel
theorem d_X6_flaw_96 : decode m_X6_flaw.2.1 96 = .ok (.aload_n 0, 1) := by decide +kernel
theorem d_X6_flaw_97 : decode m_X6_flaw.2.1 97 = .ok (.getfield 18, 3) := by decide +kernel
theorem d_X6_flaw_100 : decode m_X6_flaw.2.1 100 = .ok (.iload_n 2, 1) := by decide +kernel
theorem d_X6_flaw_101 : decode m_X6_flaw.2.1 101 = .ok (.aload_n 0, 1) := by decide +kernel
theorem d_X6_flaw_102 : decode m_X6_flaw.2.1 102 = .ok (.getfield 28, 3) := by decide +kernel
theorem d_X6_flaw_105 : decode m_X6_flaw.2.1 105 = .ok (.iload_n 3, 1) := by decide +kernel
theorem d_X6_flaw_106 : decode m_X6_flaw.2.1 106 = .ok (.iaload, 1) := by decide +kernel
theorem d_X6_flaw_107 : decode m_X6_flaw.2.1 107 = .ok (.invokevirtual 88, 3) := by decide +kernel
theorem d_X6_flaw_110 : decode m_X6_flaw.2.1 110 = .ok (.ifCond .ne 5, 3) := by decide +kernel
theorem d_X6_flaw_113 : decode m_X6_flaw.2.1 113 = .ok (.iconst 3, 1) := by decide +kernel
theorem d_X6_flaw_114 : decode m_X6_flaw.2.1 114 = .ok (.ireturn, 1) := by decide +kernel
theorem d_X6_flaw_115 : decode m_X6_flaw.2.1 115 = .ok (.aload_n 0, 1) := by decide +kernel
theorem d_X6_flaw_116 : decode m_X6_flaw.2.1 116 = .ok (.getfield 24, 3) := by decide +kernel
theorem d_X6_flaw_119 : decode m_X6_flaw.2.1 119 = .ok (.iload_n 3, 1) := by decide +kernel
theorem d_X6_flaw_120 : decode m_X6_flaw.2.1 120 = .ok (.iaload, 1) := by decide +kernel
theorem d_X6_flaw_121 : decode m_X6_flaw.2.1 121 = .ok (.iload_n 1, 1) := by decide +kernel
theorem d_X6_flaw_122 : decode m_X6_flaw.2.1 122 = .ok (.if_icmp .ne 17, 3) := by decide +kernel
theorem d_X6_flaw_125 : decode m_X6_flaw.2.1 125 = .ok (.iload 4, 2) := by decide +kernel
theorem d_X6_flaw_127 : decode m_X6_flaw.2.1 127 = .ok (.iconst 4, 1) := by decide +kernel
theorem d_X6_flaw_128 : decode m_X6_flaw.2.1 128 = .ok (.if_icmp .eq 11, 3) := by decide +kernel
theorem d_X6_flaw_131 : decode m_X6_flaw.2.1 131 = .ok (.iload 4, 2) := by decide +kernel
theorem d_X6_flaw_133 : decode m_X6_flaw.2.1 133 = .ok (.iconst 5, 1) := by decide +kernel
theorem d_X6_flaw_134 : decode m_X6_flaw.2.1 134 = .ok (.if_icmp .eq 5, 3) := by decide +kernel
theorem d_X6_flaw_137 : decode m_X6_flaw.2.1 137 = .ok (.iconst 4, 1) := by decide +kernel
theorem d_X6_flaw_138 : decode m_X6_flaw.2.1 138 = .ok (.ireturn, 1) := by decide +kernel
theorem d_X6_flaw_139 : decode m_X6_flaw.2.1 139 = .ok (.iload 4, 2) := by decide +kernel
theorem d_X6_flaw_141 : decode m_X6_flaw.2.1 141 = .ok (.iconst 2, 1) := by decide +kernel
theorem d_X6_flaw_142 : decode m_X6_flaw.2.1 142 = .ok (.if_icmp .eq 9, 3) := by decide +kernel
theorem d_X6_flaw_145 : decode m_X6_flaw.2.1 145 = .ok (.iload 4, 2) := by decide +kernel
theorem d_X6_flaw_147 : decode m_X6_flaw.2.1 147 = .ok (.iconst 3, 1) := by decide +kernel
theorem d_X6_flaw_148 : decode m_X6_flaw.2.1 148 = .ok (.if_icmp .ne 19, 3) := by decide +kernel
theorem d_X6_flaw_151 : decode m_X6_flaw.2.1 151 = .ok (.aload_n 0, 1) := by decide +kernel
theorem d_X6_flaw_152 : decode m_X6_flaw.2.1 152 = .ok (.getfield 40, 3) := by decide +kernel
theorem d_X6_flaw_155 : decode m_X6_flaw.2.1 155 = .ok (.iload_n 3, 1) := by decide +kernel
theorem d_X6_flaw_156 : decode m_X6_flaw.2.1 156 = .ok (.iaload, 1) := by decide +kernel
theorem d_X6_flaw_157 : decode m_X6_flaw.2.1 157 = .ok (.iconst 1, 1) := by decide +kernel
theorem d_X6_flaw_158 : decode m_X6_flaw.2.1 158 = .ok (.if_icmp .ne 7, 3) := by decide +kernel
theorem d_X6_flaw_161 : decode m_X6_flaw.2.1 161 = .ok (.iconst 0, 1) := by decide +kernel
theorem d_X6_flaw_162 : decode m_X6_flaw.2.1 162 = .ok (.goto 4, 3) := by decide +kernel
theorem d_X6_flaw_165 : decode m_X6_flaw.2.1 165 = .ok (.iconst 5, 1) := by decide +kernel
theorem d_X6_flaw_166 : decode m_X6_flaw.2.1 166 = .ok (.ireturn, 1) := by decide +kernel
theorem d_X6_flaw_167 : decode m_X6_flaw.2.1 167 = .ok (.iload 4, 2) := by decide +kernel
theorem d_X6_flaw_169 : decode m_X6_flaw.2.1 169 = .ok (.iconst 4, 1) := by decide +kernel
theorem d_X6_flaw_170 : decode m_X6_flaw.2.1 170 = .ok (.if_icmp .ge 5, 3) := by decide +kernel
theorem d_X6_flaw_173 : decode m_X6_flaw.2.1 173 = .ok (.iconst 0, 1) := by decide +kernel
theorem d_X6_flaw_174 : decode m_X6_flaw.2.1 174 = .ok (.ireturn, 1) := by decide +kernel
theorem d_X6_flaw_175 : decode m_X6_flaw.2.1 175 = .ok (.aload_n 0, 1) := by decide +kernel
theorem d_X6_flaw_176 : decode m_X6_flaw.2.1 176 = .ok (.getfield 40, 3) := by decide +kernel
theorem d_X6_flaw_179 : decode m_X6_flaw.2.1 179 = .ok (.iload_n 3, 1) := by decide +kernel
theorem d_X6_flaw_180 : decode m_X6_flaw.2.1 180 = .ok (.iaload, 1) := by decide +kernel
theorem d_X6_flaw_181 : decode m_X6_flaw.2.1 181 = .ok (.iconst 4, 1) := by decide +kernel
theorem d_X6_flaw_182 : decode m_X6_flaw.2.1 182 = .ok (.if_icmp .ne 15, 3) := by decide +kernel
theorem d_X6_flaw_185 : decode m_X6_flaw.2.1 185 = .ok (.aload_n 0, 1) := by decide +kernel
theorem d_X6_flaw_186 : decode m_X6_flaw.2.1 186 = .ok (.getfield 43, 3) := by decide +kernel
theorem d_X6_flaw_189 : decode m_X6_flaw.2.1 189 = .ok (.aload_n 0, 1) := by decide +kernel
theorem d_X6_flaw_190 : decode m_X6_flaw.2.1 190 = .ok (.iload_n 3, 1) := by decide +kernel
theorem d_X6_flaw_191 : decode m_X6_flaw.2.1 191 = .ok (.invokevirtual 92, 3) := by decide +kernel
theorem d_X6_flaw_194 : decode m_X6_flaw.2.1 194 = .ok (.if_icmp .le 5, 3) := by decide +kernel
theorem d_X6_flaw_197 : decode m_X6_flaw.2.1 197 = .ok (.iconst 5, 1) := by decide +kernel
theorem d_X6_flaw_198 : decode m_X6_flaw.2.1 198 = .ok (.ireturn, 1) := by decide +kernel
theorem d_X6_flaw_199 : decode m_X6_flaw.2.1 199 = .ok (.iload 4, 2) := by decide +kernel
theorem d_X6_flaw_201 : decode m_X6_flaw.2.1 201 = .ok (.bipush 6, 2) := by decide +kernel
theorem d_X6_flaw_203 : decode m_X6_flaw.2.1 203 = .ok (.if_icmp .ne 11, 3) := by decide +kernel
theorem d_X6_flaw_206 : decode m_X6_flaw.2.1 206 = .ok (.aload_n 0, 1) := by decide +kernel
theorem d_X6_flaw_207 : decode m_X6_flaw.2.1 207 = .ok (.iload_n 3, 1) := by decide +kernel
theorem d_X6_flaw_208 : decode m_X6_flaw.2.1 208 = .ok (.invokevirtual 95, 3) := by decide +kernel
theorem d_X6_flaw_211 : decode m_X6_flaw.2.1 211 = .ok (.goto 9, 3) := by decide +kernel
theorem d_X6_flaw_214 : decode m_X6_flaw.2.1 214 = .ok (.aload_n 0, 1) := by decide +kernel
theorem d_X6_flaw_215 : decode m_X6_flaw.2.1 215 = .ok (.getfield 24, 3) := by decide +kernel
theorem d_X6_flaw_218 : decode m_X6_flaw.2.1 218 = .ok (.iload_n 3, 1) := by decide +kernel
theorem d_X6_flaw_219 : decode m_X6_flaw.2.1 219 = .ok (.iaload, 1) := by decide +kernel
theorem d_X6_flaw_220 : decode m_X6_flaw.2.1 220 = .ok (.istore 5, 2) := by decide +kernel
theorem d_X6_flaw_222 : decode m_X6_flaw.2.1 222 = .ok (.iload 5, 2) := by decide +kernel
theorem d_X6_flaw_224 : decode m_X6_flaw.2.1 224 = .ok (.iload_n 1, 1) := by decide +kernel
theorem d_X6_flaw_225 : decode m_X6_flaw.2.1 225 = .ok (.if_icmp .ne 7, 3) := by decide +kernel
theorem d_X6_flaw_228 : decode m_X6_flaw.2.1 228 = .ok (.iconst 0, 1) := by decide +kernel
theorem d_X6_flaw_229 : decode m_X6_flaw.2.1 229 = .ok (.goto 5, 3) := by decide +kernel
theorem d_X6_flaw_232 : decode m_X6_flaw.2.1 232 = .ok (.bipush 6, 2) := by decide +kernel
theorem d_X6_flaw_234 : decode m_X6_flaw.2.1 234 = .ok (.ireturn, 1) := by decide +kernel
set_option maxRecDepth 20000 in
theorem e_X6_flaw {E : jm_E} {d : Nat} {μ : jm_M} {Q : Option jm_V → jm_M → Prop} {v0 v1 v2 : Int} (h : (∀ v ∈ ([jm_R v0, jm_I v1, jm_I v2] : List jm_V), jm_ok v) →
  (jm_is jm_N v0 1 6) ∧
  (jm_is jm_N (μ v0 0) 1 5) ∧
  jc E m_X5_hasWho d [jm_R (μ v0 0), jm_I v1] μ (fun (o : Option jm_V) (m2 : jm_M) => ∀ r4 : Int, o = some (jm_I r4) → (r4 = 0 ∨ r4 = 1) →
  ((r4 = 0 →
    Q (some (jm_I ((-1)))) m2) ∧
   (¬ (r4 = 0) →
    (jm_is jm_N (m2 v0 0) 1 5) ∧
    jc E m_X5_hasKind d [jm_R (m2 v0 0), jm_I v2] m2 (fun (o : Option jm_V) (m7 : jm_M) => ∀ r9 : Int, o = some (jm_I r9) → (r9 = 0 ∨ r9 = 1) →
    ((r9 = 0 →
      Q (some (jm_I ((-1)))) m7) ∧
     (¬ (r9 = 0) →
      ((m7 v0 1 < ((jm_sn ((v0 + 10)) : Int)) →
        jc E m_X6_repeats d [jm_R v0, jm_I v1] m7 (fun (o : Option jm_V) (m13 : jm_M) => ∀ r14 : Int, o = some (jm_I r14) → (r14 = 0 ∨ r14 = 1) →
        ((r14 = 0 →
          jc E m_X6_heardBy d [jm_R v0, jm_I v1, jm_I v2] m13 (fun (o : Option jm_V) (m17 : jm_M) => ∀ r18 : Int, o = some (jm_I r18) →
          (jm_is jm_N (m17 v0 0) 1 5) ∧
          jc E m_X5_doingOf d [jm_R (m17 v0 0), jm_I v2] m17 (fun (o : Option jm_V) (m19 : jm_M) => ∀ r21 : Int, o = some (jm_I r21) →
          jc E m_X6_has d [jm_R v0, jm_I r18] m19 (fun (o : Option jm_V) (m22 : jm_M) => ∀ r23 : Int, o = some (jm_I r23) → (r23 = 0 ∨ r23 = 1) →
          ((r23 ≠ 0 →
            (0 ≤ r18 ∧ r18 < (jm_sn (v0 + 10) : Int)) ∧
            (jm_is jm_N (m22 v0 0) 1 5) ∧
            jc E m_X5_mayAnswer d [jm_R (m22 v0 0), jm_I v2, jm_I (m22 ((v0 + 11)) r18)] m22 (fun (o : Option jm_V) (m27 : jm_M) => ∀ r29 : Int, o = some (jm_I r29) → (r29 = 0 ∨ r29 = 1) →
            ((r29 ≠ 0 →
              (((m27 ((v0 + 10)) r18) ≠ v1 →
                jg E m_X6_flaw d 139 [some (jm_R v0), some (jm_I v1), none, some (jm_I r18), some (jm_I r21), none] [] m27 Q) ∧
               (¬ ((m27 ((v0 + 10)) r18) ≠ v1) →
                ((r21 = 4 →
                  jg E m_X6_flaw d 139 [some (jm_R v0), some (jm_I v1), none, some (jm_I r18), some (jm_I r21), none] [] m27 Q) ∧
                 (¬ (r21 = 4) →
                  ((r21 = 5 →
                    jg E m_X6_flaw d 139 [some (jm_R v0), some (jm_I v1), none, some (jm_I r18), some (jm_I r21), none] [] m27 Q) ∧
                   (¬ (r21 = 5) →
                    Q (some (jm_I 4)) m27))))))) ∧
             (¬ (r29 ≠ 0) →
              Q (some (jm_I 3)) m27)))) ∧
           (¬ (r23 ≠ 0) →
            (jm_is jm_N (m22 v0 0) 1 5) ∧
            jc E m_X5_openingOf d [jm_R (m22 v0 0), jm_I v2] m22 (fun (o : Option jm_V) (m35 : jm_M) => ∀ r37 : Int, o = some (jm_I r37) →
            ((r37 ≠ 0 →
              ((r21 < 2 →
                Q (some (jm_I 0)) m35) ∧
               (¬ (r21 < 2) →
                Q (some (jm_I 5)) m35))) ∧
             (¬ (r37 ≠ 0) →
              Q (some (jm_I 2)) m35))))))))) ∧
         (¬ (r14 = 0) →
          Q (some (jm_I 1)) m13)))) ∧
       (¬ (m7 v0 1 < ((jm_sn ((v0 + 10)) : Int))) →
        Q (some (jm_I ((-1)))) m7))))))))) : jc E m_X6_flaw (d + 1) [jm_R v0, jm_I v1, jm_I v2] μ Q := by
  refine jm_Cl.of2 (by decide +kernel) (L0 := [some (jm_R v0), some (jm_I v1), some (jm_I v2), none, none, none]) rfl (Nat.le_of_ble_eq_true rfl) (fun hok => ?_)
  have h := h hok
  refine jm_aloadn d_X6_flaw_0 rfl ?_
  obtain ⟨f1, h⟩ := h
  refine jm_getR (k := 0) (ki := 0) cf_X6 (Nat.le_of_ble_eq_true rfl) f_X6_18 d_X6_flaw_1 rfl rfl f1 rfl ?_
  refine jm_iloadn d_X6_flaw_4 rfl ?_
  obtain ⟨f3, h⟩ := h
  refine jm_invV (n1 := jm_N) (mc := 0) (ms := 0) (av := [jm_I _]) w_X5_hasWho l_X6_73 d_X6_flaw_5 rfl f3 ⟨_, _, rfl⟩ ⟨Nat.le_refl _, Nat.le_refl _⟩ (Nat.le_of_ble_eq_true rfl) rfl ?_
  refine jm_Cl.mono h (fun o m2 h hr _ => ?_)
  obtain ⟨r4, rfl, z5⟩ := jm_rokZ hr
  have h := h _ rfl z5
  refine jm_if_eq (tgt := 34) d_X6_flaw_8 (by decide) (fun c6 => ?_) (fun c6 => ?_)
  · have h := h.1 c6
    refine jm_iconst (v := (-1)) d_X6_flaw_34 rfl (jm_okI (by decide) (by decide)) ?_
    exact jm_ret (o := some (jm_I _)) d_X6_flaw_35 rfl ⟨Nat.le_refl _, Nat.le_refl _⟩ jm_r_I h rfl
  · have h := h.2 c6
    refine jm_aloadn d_X6_flaw_11 rfl ?_
    refine jm_getR (k := 0) (ki := 0) cf_X6 (Nat.le_of_ble_eq_true rfl) f_X6_18 d_X6_flaw_12 rfl rfl f1 rfl ?_
    refine jm_iloadn d_X6_flaw_15 rfl ?_
    obtain ⟨f8, h⟩ := h
    refine jm_invV (n1 := jm_N) (mc := 0) (ms := 0) (av := [jm_I _]) w_X5_hasKind l_X6_76 d_X6_flaw_16 rfl f8 ⟨_, _, rfl⟩ ⟨Nat.le_refl _, Nat.le_refl _⟩ (Nat.le_of_ble_eq_true rfl) rfl ?_
    refine jm_Cl.mono h (fun o m7 h hr _ => ?_)
    obtain ⟨r9, rfl, z10⟩ := jm_rokZ hr
    have h := h _ rfl z10
    refine jm_if_eq (tgt := 34) d_X6_flaw_19 (by decide) (fun c11 => ?_) (fun c11 => ?_)
    · have h := h.1 c11
      refine jm_iconst (v := (-1)) d_X6_flaw_34 rfl (jm_okI (by decide) (by decide)) ?_
      exact jm_ret (o := some (jm_I _)) d_X6_flaw_35 rfl ⟨Nat.le_refl _, Nat.le_refl _⟩ jm_r_I h rfl
    · have h := h.2 c11
      refine jm_aloadn d_X6_flaw_22 rfl ?_
      refine jm_getI (k := 1) (ki := 1) cf_X6 (Nat.le_of_ble_eq_true rfl) f_X6_43 d_X6_flaw_23 rfl rfl f1 rfl ?_
      refine jm_aloadn d_X6_flaw_26 rfl ?_
      refine jm_getF (k := 4) (ki := 4) rfl cf_X6 (Nat.le_of_ble_eq_true rfl) f_X6_24 d_X6_flaw_27 rfl rfl f1 (fc_6_4 f1) ?_
      refine jm_alen (Or.inl rfl) (ac_6_4 f1) d_X6_flaw_30 ?_
      refine jm_icmp_lt (tgt := 36) d_X6_flaw_31 (by decide) (fun c12 => ?_) (fun c12 => ?_)
      · have h := h.1 c12
        refine jm_aloadn d_X6_flaw_36 rfl ?_
        refine jm_iloadn d_X6_flaw_37 rfl ?_
        refine jm_invV (n1 := jm_N) (mc := 0) (ms := 0) (av := [jm_I _]) w_X6_repeats l_X6_79 d_X6_flaw_38 rfl f1 ⟨_, _, rfl⟩ ⟨Nat.le_refl _, Nat.le_refl _⟩ (Nat.le_of_ble_eq_true rfl) rfl ?_
        refine jm_Cl.mono h (fun o m13 h hr _ => ?_)
        obtain ⟨r14, rfl, z15⟩ := jm_rokZ hr
        have h := h _ rfl z15
        refine jm_if_eq (tgt := 46) d_X6_flaw_41 (by decide) (fun c16 => ?_) (fun c16 => ?_)
        · have h := h.1 c16
          refine jm_aloadn d_X6_flaw_46 rfl ?_
          refine jm_iloadn d_X6_flaw_47 rfl ?_
          refine jm_iloadn d_X6_flaw_48 rfl ?_
          refine jm_invV (n1 := jm_N) (mc := 0) (ms := 0) (av := [jm_I _, jm_I _]) w_X6_heardBy l_X6_82 d_X6_flaw_49 rfl f1 ⟨_, _, rfl⟩ ⟨Nat.le_refl _, Nat.le_refl _⟩ (Nat.le_of_ble_eq_true rfl) rfl ?_
          refine jm_Cl.mono h (fun o m17 h hr _ => ?_)
          obtain ⟨r18, rfl⟩ := jm_rokI hr
          have h := h _ rfl
          refine jm_istoren (L' := [some (jm_R _), some (jm_I _), some (jm_I _), some (jm_I _), none, none]) d_X6_flaw_52 (Nat.le_of_ble_eq_true rfl) rfl ?_
          refine jm_aloadn d_X6_flaw_53 rfl ?_
          refine jm_getR (k := 0) (ki := 0) cf_X6 (Nat.le_of_ble_eq_true rfl) f_X6_18 d_X6_flaw_54 rfl rfl f1 rfl ?_
          refine jm_iloadn d_X6_flaw_57 rfl ?_
          obtain ⟨f20, h⟩ := h
          refine jm_invV (n1 := jm_N) (mc := 0) (ms := 0) (av := [jm_I _]) w_X5_doingOf l_X6_85 d_X6_flaw_58 rfl f20 ⟨_, _, rfl⟩ ⟨Nat.le_refl _, Nat.le_refl _⟩ (Nat.le_of_ble_eq_true rfl) rfl ?_
          refine jm_Cl.mono h (fun o m19 h hr _ => ?_)
          obtain ⟨r21, rfl⟩ := jm_rokI hr
          have h := h _ rfl
          refine jm_istore (L' := [some (jm_R _), some (jm_I _), some (jm_I _), some (jm_I _), some (jm_I _), none]) d_X6_flaw_61 (Nat.le_of_ble_eq_true rfl) rfl ?_
          refine jm_aloadn d_X6_flaw_63 rfl ?_
          refine jm_iloadn d_X6_flaw_64 rfl ?_
          refine jm_invV (n1 := jm_N) (mc := 0) (ms := 0) (av := [jm_I _]) w_X6_has l_X6_61 d_X6_flaw_65 rfl f1 ⟨_, _, rfl⟩ ⟨Nat.le_refl _, Nat.le_refl _⟩ (Nat.le_of_ble_eq_true rfl) rfl ?_
          refine jm_Cl.mono h (fun o m22 h hr _ => ?_)
          obtain ⟨r23, rfl, z24⟩ := jm_rokZ hr
          have h := h _ rfl z24
          refine jm_if_ne (tgt := 96) d_X6_flaw_68 (by decide) (fun c25 => ?_) (fun c25 => ?_)
          · have h := h.1 c25
            refine jm_aloadn d_X6_flaw_96 rfl ?_
            refine jm_getR (k := 0) (ki := 0) cf_X6 (Nat.le_of_ble_eq_true rfl) f_X6_18 d_X6_flaw_97 rfl rfl f1 rfl ?_
            refine jm_iloadn d_X6_flaw_100 rfl ?_
            refine jm_aloadn d_X6_flaw_101 rfl ?_
            refine jm_getF (k := 5) (ki := 5) rfl cf_X6 (Nat.le_of_ble_eq_true rfl) f_X6_28 d_X6_flaw_102 rfl rfl f1 (fc_6_5 f1) ?_
            refine jm_iloadn d_X6_flaw_105 rfl ?_
            obtain ⟨f26, h⟩ := h
            refine jm_iaload d_X6_flaw_106 (xc_6_5 f1 f26.1 f26.2) ?_
            obtain ⟨f28, h⟩ := h
            refine jm_invV (n1 := jm_N) (mc := 0) (ms := 0) (av := [jm_I _, jm_I _]) w_X5_mayAnswer l_X6_88 d_X6_flaw_107 rfl f28 ⟨_, _, rfl⟩ ⟨Nat.le_refl _, Nat.le_refl _⟩ (Nat.le_of_ble_eq_true rfl) rfl ?_
            refine jm_Cl.mono h (fun o m27 h hr _ => ?_)
            obtain ⟨r29, rfl, z30⟩ := jm_rokZ hr
            have h := h _ rfl z30
            refine jm_if_ne (tgt := 115) d_X6_flaw_110 (by decide) (fun c31 => ?_) (fun c31 => ?_)
            · have h := h.1 c31
              refine jm_aloadn d_X6_flaw_115 rfl ?_
              refine jm_getF (k := 4) (ki := 4) rfl cf_X6 (Nat.le_of_ble_eq_true rfl) f_X6_24 d_X6_flaw_116 rfl rfl f1 (fc_6_4 f1) ?_
              refine jm_iloadn d_X6_flaw_119 rfl ?_
              refine jm_iaload d_X6_flaw_120 (xc_6_4 f1 f26.1 f26.2) ?_
              refine jm_iloadn d_X6_flaw_121 rfl ?_
              refine jm_icmp_ne (tgt := 139) d_X6_flaw_122 (by decide) (fun c32 => ?_) (fun c32 => ?_)
              · have h := h.1 c32
                exact jm_weak2 h (And.intro rfl (And.intro rfl (And.intro rfl (And.intro rfl trivial))))
              · have h := h.2 c32
                refine jm_iload d_X6_flaw_125 rfl ?_
                refine jm_iconst (v := 4) d_X6_flaw_127 rfl (jm_okI (by decide) (by decide)) ?_
                refine jm_icmp_eq (tgt := 139) d_X6_flaw_128 (by decide) (fun c33 => ?_) (fun c33 => ?_)
                · have h := h.1 c33
                  exact jm_weak2 h (And.intro rfl (And.intro rfl (And.intro rfl (And.intro rfl trivial))))
                · have h := h.2 c33
                  refine jm_iload d_X6_flaw_131 rfl ?_
                  refine jm_iconst (v := 5) d_X6_flaw_133 rfl (jm_okI (by decide) (by decide)) ?_
                  refine jm_icmp_eq (tgt := 139) d_X6_flaw_134 (by decide) (fun c34 => ?_) (fun c34 => ?_)
                  · have h := h.1 c34
                    exact jm_weak2 h (And.intro rfl (And.intro rfl (And.intro rfl (And.intro rfl trivial))))
                  · have h := h.2 c34
                    refine jm_iconst (v := 4) d_X6_flaw_137 rfl (jm_okI (by decide) (by decide)) ?_
                    exact jm_ret (o := some (jm_I _)) d_X6_flaw_138 rfl ⟨Nat.le_refl _, Nat.le_refl _⟩ jm_r_I h rfl
            · have h := h.2 c31
              refine jm_iconst (v := 3) d_X6_flaw_113 rfl (jm_okI (by decide) (by decide)) ?_
              exact jm_ret (o := some (jm_I _)) d_X6_flaw_114 rfl ⟨Nat.le_refl _, Nat.le_refl _⟩ jm_r_I h rfl
          · have h := h.2 c25
            refine jm_aloadn d_X6_flaw_71 rfl ?_
            refine jm_getR (k := 0) (ki := 0) cf_X6 (Nat.le_of_ble_eq_true rfl) f_X6_18 d_X6_flaw_72 rfl rfl f1 rfl ?_
            refine jm_iloadn d_X6_flaw_75 rfl ?_
            obtain ⟨f36, h⟩ := h
            refine jm_invV (n1 := jm_N) (mc := 0) (ms := 0) (av := [jm_I _]) w_X5_openingOf l_X6_65 d_X6_flaw_76 rfl f36 ⟨_, _, rfl⟩ ⟨Nat.le_refl _, Nat.le_refl _⟩ (Nat.le_of_ble_eq_true rfl) rfl ?_
            refine jm_Cl.mono h (fun o m35 h hr _ => ?_)
            obtain ⟨r37, rfl⟩ := jm_rokI hr
            have h := h _ rfl
            refine jm_if_ne (tgt := 84) d_X6_flaw_79 (by decide) (fun c38 => ?_) (fun c38 => ?_)
            · have h := h.1 c38
              refine jm_iload d_X6_flaw_84 rfl ?_
              refine jm_iconst (v := 2) d_X6_flaw_86 rfl (jm_okI (by decide) (by decide)) ?_
              refine jm_icmp_lt (tgt := 94) d_X6_flaw_87 (by decide) (fun c39 => ?_) (fun c39 => ?_)
              · have h := h.1 c39
                refine jm_iconst (v := 0) d_X6_flaw_94 rfl (jm_okI (by decide) (by decide)) ?_
                exact jm_ret (o := some (jm_I _)) d_X6_flaw_95 rfl ⟨Nat.le_refl _, Nat.le_refl _⟩ jm_r_I h rfl
              · have h := h.2 c39
                refine jm_iconst (v := 5) d_X6_flaw_90 rfl (jm_okI (by decide) (by decide)) ?_
                refine jm_goto (tgt := 95) d_X6_flaw_91 (by decide) ?_
                exact jm_ret (o := some (jm_I _)) d_X6_flaw_95 rfl ⟨Nat.le_refl _, Nat.le_refl _⟩ jm_r_I h rfl
            · have h := h.2 c38
              refine jm_iconst (v := 2) d_X6_flaw_82 rfl (jm_okI (by decide) (by decide)) ?_
              exact jm_ret (o := some (jm_I _)) d_X6_flaw_83 rfl ⟨Nat.le_refl _, Nat.le_refl _⟩ jm_r_I h rfl
        · have h := h.2 c16
          refine jm_iconst (v := 1) d_X6_flaw_44 rfl (jm_okI (by decide) (by decide)) ?_
          exact jm_ret (o := some (jm_I _)) d_X6_flaw_45 rfl ⟨Nat.le_refl _, Nat.le_refl _⟩ jm_r_I h rfl
      · have h := h.2 c12
        refine jm_iconst (v := (-1)) d_X6_flaw_34 rfl (jm_okI (by decide) (by decide)) ?_
        exact jm_ret (o := some (jm_I _)) d_X6_flaw_35 rfl ⟨Nat.le_refl _, Nat.le_refl _⟩ jm_r_I h rfl
set_option maxRecDepth 20000 in
theorem r_X6_flaw_139 {E : jm_E} {d : Nat} {μ : jm_M} {Q : Option jm_V → jm_M → Prop} {v0 v1 v3 v4 : Int} (h :
  ((v4 = 2 →
    (jm_is jm_N v0 1 6) ∧
    (0 ≤ v3 ∧ v3 < (jm_sn (v0 + 10) : Int)) ∧
    (((μ ((v0 + 15)) v3) ≠ 1 →
      Q (some (jm_I 5)) μ) ∧
     (¬ ((μ ((v0 + 15)) v3) ≠ 1) →
      Q (some (jm_I 0)) μ))) ∧
   (¬ (v4 = 2) →
    ((v4 ≠ 3 →
      ((4 ≤ v4 →
        (jm_is jm_N v0 1 6) ∧
        (0 ≤ v3 ∧ v3 < (jm_sn (v0 + 10) : Int)) ∧
        (((μ ((v0 + 15)) v3) ≠ 4 →
          Q (some (jm_I 5)) μ) ∧
         (¬ ((μ ((v0 + 15)) v3) ≠ 4) →
          jc E m_X6_dueOf d [jm_R v0, jm_I v3] μ (fun (o : Option jm_V) (m10 : jm_M) => ∀ r11 : Int, o = some (jm_I r11) →
          ((μ v0 1 ≤ r11 →
            ((v4 ≠ 6 →
              ∀ x14 : Int, x14 = m10 ((v0 + 10)) v3 →
              ((x14 ≠ v1 →
                Q (some (jm_I 6)) m10) ∧
               (¬ (x14 ≠ v1) →
                Q (some (jm_I 0)) m10))) ∧
             (¬ (v4 ≠ 6) →
              jc E m_X6_promisee d [jm_R v0, jm_I v3] m10 (fun (o : Option jm_V) (m16 : jm_M) => ∀ r17 : Int, o = some (jm_I r17) →
              ((r17 ≠ v1 →
                Q (some (jm_I 6)) m16) ∧
               (¬ (r17 ≠ v1) →
                Q (some (jm_I 0)) m16)))))) ∧
           (¬ (μ v0 1 ≤ r11) →
            Q (some (jm_I 5)) m10)))))) ∧
       (¬ (4 ≤ v4) →
        Q (some (jm_I 0)) μ))) ∧
     (¬ (v4 ≠ 3) →
      (jm_is jm_N v0 1 6) ∧
      (0 ≤ v3 ∧ v3 < (jm_sn (v0 + 10) : Int)) ∧
      (((μ ((v0 + 15)) v3) ≠ 1 →
        Q (some (jm_I 5)) μ) ∧
       (¬ ((μ ((v0 + 15)) v3) ≠ 1) →
        Q (some (jm_I 0)) μ))))))) : jg E m_X6_flaw d 139 [some (jm_R v0), some (jm_I v1), none, some (jm_I v3), some (jm_I v4), none] [] μ Q := by
  refine jm_iload d_X6_flaw_139 rfl ?_
  refine jm_iconst (v := 2) d_X6_flaw_141 rfl (jm_okI (by decide) (by decide)) ?_
  refine jm_icmp_eq (tgt := 151) d_X6_flaw_142 (by decide) (fun c1 => ?_) (fun c1 => ?_)
  · have h := h.1 c1
    refine jm_aloadn d_X6_flaw_151 rfl ?_
    obtain ⟨f2, h⟩ := h
    refine jm_getF (k := 9) (ki := 9) rfl cf_X6 (Nat.le_of_ble_eq_true rfl) f_X6_40 d_X6_flaw_152 rfl rfl f2 (fc_6_9 f2) ?_
    refine jm_iloadn d_X6_flaw_155 rfl ?_
    obtain ⟨f3, h⟩ := h
    refine jm_iaload d_X6_flaw_156 (xc_6_9 f2 f3.1 f3.2) ?_
    refine jm_iconst (v := 1) d_X6_flaw_157 rfl (jm_okI (by decide) (by decide)) ?_
    refine jm_icmp_ne (tgt := 165) d_X6_flaw_158 (by decide) (fun c4 => ?_) (fun c4 => ?_)
    · have h := h.1 c4
      refine jm_iconst (v := 5) d_X6_flaw_165 rfl (jm_okI (by decide) (by decide)) ?_
      exact jm_ret (o := some (jm_I _)) d_X6_flaw_166 rfl ⟨Nat.le_refl _, Nat.le_refl _⟩ jm_r_I h rfl
    · have h := h.2 c4
      refine jm_iconst (v := 0) d_X6_flaw_161 rfl (jm_okI (by decide) (by decide)) ?_
      refine jm_goto (tgt := 166) d_X6_flaw_162 (by decide) ?_
      exact jm_ret (o := some (jm_I _)) d_X6_flaw_166 rfl ⟨Nat.le_refl _, Nat.le_refl _⟩ jm_r_I h rfl
  · have h := h.2 c1
    refine jm_iload d_X6_flaw_145 rfl ?_
    refine jm_iconst (v := 3) d_X6_flaw_147 rfl (jm_okI (by decide) (by decide)) ?_
    refine jm_icmp_ne (tgt := 167) d_X6_flaw_148 (by decide) (fun c5 => ?_) (fun c5 => ?_)
    · have h := h.1 c5
      refine jm_iload d_X6_flaw_167 rfl ?_
      refine jm_iconst (v := 4) d_X6_flaw_169 rfl (jm_okI (by decide) (by decide)) ?_
      refine jm_icmp_ge (tgt := 175) d_X6_flaw_170 (by decide) (fun c6 => ?_) (fun c6 => ?_)
      · have h := h.1 c6
        refine jm_aloadn d_X6_flaw_175 rfl ?_
        obtain ⟨f7, h⟩ := h
        refine jm_getF (k := 9) (ki := 9) rfl cf_X6 (Nat.le_of_ble_eq_true rfl) f_X6_40 d_X6_flaw_176 rfl rfl f7 (fc_6_9 f7) ?_
        refine jm_iloadn d_X6_flaw_179 rfl ?_
        obtain ⟨f8, h⟩ := h
        refine jm_iaload d_X6_flaw_180 (xc_6_9 f7 f8.1 f8.2) ?_
        refine jm_iconst (v := 4) d_X6_flaw_181 rfl (jm_okI (by decide) (by decide)) ?_
        refine jm_icmp_ne (tgt := 197) d_X6_flaw_182 (by decide) (fun c9 => ?_) (fun c9 => ?_)
        · have h := h.1 c9
          refine jm_iconst (v := 5) d_X6_flaw_197 rfl (jm_okI (by decide) (by decide)) ?_
          exact jm_ret (o := some (jm_I _)) d_X6_flaw_198 rfl ⟨Nat.le_refl _, Nat.le_refl _⟩ jm_r_I h rfl
        · have h := h.2 c9
          refine jm_aloadn d_X6_flaw_185 rfl ?_
          refine jm_getI (k := 1) (ki := 1) cf_X6 (Nat.le_of_ble_eq_true rfl) f_X6_43 d_X6_flaw_186 rfl rfl f7 rfl ?_
          refine jm_aloadn d_X6_flaw_189 rfl ?_
          refine jm_iloadn d_X6_flaw_190 rfl ?_
          refine jm_invV (n1 := jm_N) (mc := 0) (ms := 0) (av := [jm_I _]) w_X6_dueOf l_X6_92 d_X6_flaw_191 rfl f7 ⟨_, _, rfl⟩ ⟨Nat.le_refl _, Nat.le_refl _⟩ (Nat.le_of_ble_eq_true rfl) rfl ?_
          refine jm_Cl.mono h (fun o m10 h hr _ => ?_)
          obtain ⟨r11, rfl⟩ := jm_rokI hr
          have h := h _ rfl
          refine jm_icmp_le (tgt := 199) d_X6_flaw_194 (by decide) (fun c12 => ?_) (fun c12 => ?_)
          · have h := h.1 c12
            refine jm_iload d_X6_flaw_199 rfl ?_
            refine jm_bipush (v := 6) d_X6_flaw_201 rfl (jm_okI (by decide) (by decide)) ?_
            refine jm_icmp_ne (tgt := 214) d_X6_flaw_203 (by decide) (fun c13 => ?_) (fun c13 => ?_)
            · have h := h.1 c13
              refine jm_aloadn d_X6_flaw_214 rfl ?_
              refine jm_getF (k := 4) (ki := 4) rfl cf_X6 (Nat.le_of_ble_eq_true rfl) f_X6_24 d_X6_flaw_215 rfl rfl f7 (fc_6_4 f7) ?_
              refine jm_iloadn d_X6_flaw_218 rfl ?_
              refine jm_iaload d_X6_flaw_219 (xc_6_4 f7 f8.1 f8.2) ?_
              have h := h _ rfl
              refine jm_istore (L' := [some (jm_R _), some (jm_I _), none, some (jm_I _), some (jm_I _), some (jm_I _)]) d_X6_flaw_220 (Nat.le_of_ble_eq_true rfl) rfl ?_
              refine jm_iload d_X6_flaw_222 rfl ?_
              refine jm_iloadn d_X6_flaw_224 rfl ?_
              refine jm_icmp_ne (tgt := 232) d_X6_flaw_225 (by decide) (fun c15 => ?_) (fun c15 => ?_)
              · have h := h.1 c15
                refine jm_bipush (v := 6) d_X6_flaw_232 rfl (jm_okI (by decide) (by decide)) ?_
                exact jm_ret (o := some (jm_I _)) d_X6_flaw_234 rfl ⟨Nat.le_refl _, Nat.le_refl _⟩ jm_r_I h rfl
              · have h := h.2 c15
                refine jm_iconst (v := 0) d_X6_flaw_228 rfl (jm_okI (by decide) (by decide)) ?_
                refine jm_goto (tgt := 234) d_X6_flaw_229 (by decide) ?_
                exact jm_ret (o := some (jm_I _)) d_X6_flaw_234 rfl ⟨Nat.le_refl _, Nat.le_refl _⟩ jm_r_I h rfl
            · have h := h.2 c13
              refine jm_aloadn d_X6_flaw_206 rfl ?_
              refine jm_iloadn d_X6_flaw_207 rfl ?_
              refine jm_invV (n1 := jm_N) (mc := 0) (ms := 0) (av := [jm_I _]) w_X6_promisee l_X6_95 d_X6_flaw_208 rfl f7 ⟨_, _, rfl⟩ ⟨Nat.le_refl _, Nat.le_refl _⟩ (Nat.le_of_ble_eq_true rfl) rfl ?_
              refine jm_Cl.mono h (fun o m16 h hr _ => ?_)
              obtain ⟨r17, rfl⟩ := jm_rokI hr
              have h := h _ rfl
              refine jm_goto (tgt := 220) d_X6_flaw_211 (by decide) ?_
              refine jm_istore (L' := [some (jm_R _), some (jm_I _), none, some (jm_I _), some (jm_I _), some (jm_I _)]) d_X6_flaw_220 (Nat.le_of_ble_eq_true rfl) rfl ?_
              refine jm_iload d_X6_flaw_222 rfl ?_
              refine jm_iloadn d_X6_flaw_224 rfl ?_
              refine jm_icmp_ne (tgt := 232) d_X6_flaw_225 (by decide) (fun c18 => ?_) (fun c18 => ?_)
              · have h := h.1 c18
                refine jm_bipush (v := 6) d_X6_flaw_232 rfl (jm_okI (by decide) (by decide)) ?_
                exact jm_ret (o := some (jm_I _)) d_X6_flaw_234 rfl ⟨Nat.le_refl _, Nat.le_refl _⟩ jm_r_I h rfl
              · have h := h.2 c18
                refine jm_iconst (v := 0) d_X6_flaw_228 rfl (jm_okI (by decide) (by decide)) ?_
                refine jm_goto (tgt := 234) d_X6_flaw_229 (by decide) ?_
                exact jm_ret (o := some (jm_I _)) d_X6_flaw_234 rfl ⟨Nat.le_refl _, Nat.le_refl _⟩ jm_r_I h rfl
          · have h := h.2 c12
            refine jm_iconst (v := 5) d_X6_flaw_197 rfl (jm_okI (by decide) (by decide)) ?_
            exact jm_ret (o := some (jm_I _)) d_X6_flaw_198 rfl ⟨Nat.le_refl _, Nat.le_refl _⟩ jm_r_I h rfl
      · have h := h.2 c6
        refine jm_iconst (v := 0) d_X6_flaw_173 rfl (jm_okI (by decide) (by decide)) ?_
        exact jm_ret (o := some (jm_I _)) d_X6_flaw_174 rfl ⟨Nat.le_refl _, Nat.le_refl _⟩ jm_r_I h rfl
    · have h := h.2 c5
      refine jm_aloadn d_X6_flaw_151 rfl ?_
      obtain ⟨f19, h⟩ := h
      refine jm_getF (k := 9) (ki := 9) rfl cf_X6 (Nat.le_of_ble_eq_true rfl) f_X6_40 d_X6_flaw_152 rfl rfl f19 (fc_6_9 f19) ?_
      refine jm_iloadn d_X6_flaw_155 rfl ?_
      obtain ⟨f20, h⟩ := h
      refine jm_iaload d_X6_flaw_156 (xc_6_9 f19 f20.1 f20.2) ?_
      refine jm_iconst (v := 1) d_X6_flaw_157 rfl (jm_okI (by decide) (by decide)) ?_
      refine jm_icmp_ne (tgt := 165) d_X6_flaw_158 (by decide) (fun c21 => ?_) (fun c21 => ?_)
      · have h := h.1 c21
        refine jm_iconst (v := 5) d_X6_flaw_165 rfl (jm_okI (by decide) (by decide)) ?_
        exact jm_ret (o := some (jm_I _)) d_X6_flaw_166 rfl ⟨Nat.le_refl _, Nat.le_refl _⟩ jm_r_I h rfl
      · have h := h.2 c21
        refine jm_iconst (v := 0) d_X6_flaw_161 rfl (jm_okI (by decide) (by decide)) ?_
        refine jm_goto (tgt := 166) d_X6_flaw_162 (by decide) ?_
        exact jm_ret (o := some (jm_I _)) d_X6_flaw_166 rfl ⟨Nat.le_refl _, Nat.le_refl _⟩ jm_r_I h rfl
/-! ('CombTable$Talk', 'choices', '(I)I') -/
theorem d_X6_choices_0 : decode m_X6_choices.2.1 0 = .ok (.aload_n 0, 1) := by decide +kernel
theorem d_X6_choices_1 : decode m_X6_choices.2.1 1 = .ok (.iload_n 1, 1) := by decide +kernel
theorem d_X6_choices_2 : decode m_X6_choices.2.1 2 = .ok (.invokevirtual 79, 3) := by decide +kernel
theorem d_X6_choices_5 : decode m_X6_choices.2.1 5 = .ok (.ifCond .eq 5, 3) := by decide +kernel
theorem d_X6_choices_8 : decode m_X6_choices.2.1 8 = .ok (.iconst 0, 1) := by decide +kernel
theorem d_X6_choices_9 : decode m_X6_choices.2.1 9 = .ok (.ireturn, 1) := by decide +kernel
theorem d_X6_choices_10 : decode m_X6_choices.2.1 10 = .ok (.iconst 0, 1) := by decide +kernel
theorem d_X6_choices_11 : decode m_X6_choices.2.1 11 = .ok (.istore_n 2, 1) := by decide +kernel
theorem d_X6_choices_12 : decode m_X6_choices.2.1 12 = .ok (.iconst 0, 1) := by decide +kernel
theorem d_X6_choices_13 : decode m_X6_choices.2.1 13 = .ok (.istore_n 3, 1) := by decide +kernel
theorem d_X6_choices_14 : decode m_X6_choices.2.1 14 = .ok (.iload_n 3, 1) := by decide +kernel
theorem d_X6_choices_15 : decode m_X6_choices.2.1 15 = .ok (.aload_n 0, 1) := by decide +kernel
theorem d_X6_choices_16 : decode m_X6_choices.2.1 16 = .ok (.getfield 18, 3) := by decide +kernel
theorem d_X6_choices_19 : decode m_X6_choices.2.1 19 = .ok (.getfield 98, 3) := by decide +kernel
theorem d_X6_choices_22 : decode m_X6_choices.2.1 22 = .ok (.if_icmp .ge 24, 3) := by decide +kernel
theorem d_X6_choices_25 : decode m_X6_choices.2.1 25 = .ok (.aload_n 0, 1) := by decide +kernel
theorem d_X6_choices_26 : decode m_X6_choices.2.1 26 = .ok (.iload_n 1, 1) := by decide +kernel
theorem d_X6_choices_27 : decode m_X6_choices.2.1 27 = .ok (.iload_n 3, 1) := by decide +kernel
theorem d_X6_choices_28 : decode m_X6_choices.2.1 28 = .ok (.invokevirtual 101, 3) := by decide +kernel
theorem d_X6_choices_31 : decode m_X6_choices.2.1 31 = .ok (.ifCond .ne 9, 3) := by decide +kernel
theorem d_X6_choices_34 : decode m_X6_choices.2.1 34 = .ok (.iload_n 2, 1) := by decide +kernel
theorem d_X6_choices_35 : decode m_X6_choices.2.1 35 = .ok (.iconst 1, 1) := by decide +kernel
theorem d_X6_choices_36 : decode m_X6_choices.2.1 36 = .ok (.iload_n 3, 1) := by decide +kernel
theorem d_X6_choices_37 : decode m_X6_choices.2.1 37 = .ok (.ishl, 1) := by decide +kernel
theorem d_X6_choices_38 : decode m_X6_choices.2.1 38 = .ok (.ior, 1) := by decide +kernel
theorem d_X6_choices_39 : decode m_X6_choices.2.1 39 = .ok (.istore_n 2, 1) := by decide +kernel
theorem d_X6_choices_40 : decode m_X6_choices.2.1 40 = .ok (.iinc 3 1, 3) := by decide +kernel
theorem d_X6_choices_43 : decode m_X6_choices.2.1 43 = .ok (.goto (-29), 3) := by decide +kernel
theorem d_X6_choices_46 : decode m_X6_choices.2.1 46 = .ok (.iload_n 2, 1) := by decide +kernel
theorem d_X6_choices_47 : decode m_X6_choices.2.1 47 = .ok (.ireturn, 1) := by decide +kernel
set_option maxRecDepth 20000 in
theorem e_X6_choices {E : jm_E} {d : Nat} {μ : jm_M} {Q : Option jm_V → jm_M → Prop} {v0 v1 : Int} (h : (∀ v ∈ ([jm_R v0, jm_I v1] : List jm_V), jm_ok v) →
  (jm_is jm_N v0 1 6) ∧
  jc E m_X6_repeats d [jm_R v0, jm_I v1] μ (fun (o : Option jm_V) (m1 : jm_M) => ∀ r3 : Int, o = some (jm_I r3) → (r3 = 0 ∨ r3 = 1) →
  ((r3 = 0 →
    jg E m_X6_choices d 14 [some (jm_R v0), some (jm_I v1), some (jm_I 0), some (jm_I 0)] [] m1 Q) ∧
   (¬ (r3 = 0) →
    Q (some (jm_I 0)) m1)))) : jc E m_X6_choices (d + 1) [jm_R v0, jm_I v1] μ Q := by
  refine jm_Cl.of2 (by decide +kernel) (L0 := [some (jm_R v0), some (jm_I v1), none, none]) rfl (Nat.le_of_ble_eq_true rfl) (fun hok => ?_)
  have h := h hok
  refine jm_aloadn d_X6_choices_0 rfl ?_
  refine jm_iloadn d_X6_choices_1 rfl ?_
  obtain ⟨f2, h⟩ := h
  refine jm_invV (n1 := jm_N) (mc := 0) (ms := 0) (av := [jm_I _]) w_X6_repeats l_X6_79 d_X6_choices_2 rfl f2 ⟨_, _, rfl⟩ ⟨Nat.le_refl _, Nat.le_refl _⟩ (Nat.le_of_ble_eq_true rfl) rfl ?_
  refine jm_Cl.mono h (fun o m1 h hr _ => ?_)
  obtain ⟨r3, rfl, z4⟩ := jm_rokZ hr
  have h := h _ rfl z4
  refine jm_if_eq (tgt := 10) d_X6_choices_5 (by decide) (fun c5 => ?_) (fun c5 => ?_)
  · have h := h.1 c5
    refine jm_iconst (v := 0) d_X6_choices_10 rfl (jm_okI (by decide) (by decide)) ?_
    refine jm_istoren (L' := [some (jm_R _), some (jm_I _), some (jm_I _), none]) d_X6_choices_11 (Nat.le_of_ble_eq_true rfl) rfl ?_
    refine jm_iconst (v := 0) d_X6_choices_12 rfl (jm_okI (by decide) (by decide)) ?_
    refine jm_istoren (L' := [some (jm_R _), some (jm_I _), some (jm_I _), some (jm_I _)]) d_X6_choices_13 (Nat.le_of_ble_eq_true rfl) rfl ?_
    exact h
  · have h := h.2 c5
    refine jm_iconst (v := 0) d_X6_choices_8 rfl (jm_okI (by decide) (by decide)) ?_
    exact jm_ret (o := some (jm_I _)) d_X6_choices_9 rfl ⟨Nat.le_refl _, Nat.le_refl _⟩ jm_r_I h rfl
set_option maxRecDepth 20000 in
theorem r_X6_choices_14 {E : jm_E} {d : Nat} {μ : jm_M} {Q : Option jm_V → jm_M → Prop} {v0 v1 v2 v3 : Int} (h :
  (jm_is jm_N v0 1 6) ∧
  (jm_is jm_N (μ v0 0) 1 5) ∧
  (((μ (μ v0 0) 4) ≤ v3 →
    Q (some (jm_I v2)) μ) ∧
   (¬ ((μ (μ v0 0) 4) ≤ v3) →
    jc E m_X6_flaw d [jm_R v0, jm_I v1, jm_I v3] μ (fun (o : Option jm_V) (m4 : jm_M) => ∀ r5 : Int, o = some (jm_I r5) →
    ((r5 ≠ 0 →
      jg E m_X6_choices d 14 [some (jm_R v0), some (jm_I v1), some (jm_I v2), some (jm_I (jm_wr (v3 + 1)))] [] m4 Q) ∧
     (¬ (r5 ≠ 0) →
      ∀ x7 : Int, x7 = jm_or v2 (jm_shl 1 v3) →
      jg E m_X6_choices d 14 [some (jm_R v0), some (jm_I v1), some (jm_I x7), some (jm_I (jm_wr (v3 + 1)))] [] m4 Q)))))) : jg E m_X6_choices d 14 [some (jm_R v0), some (jm_I v1), some (jm_I v2), some (jm_I v3)] [] μ Q := by
  refine jm_iloadn d_X6_choices_14 rfl ?_
  refine jm_aloadn d_X6_choices_15 rfl ?_
  obtain ⟨f1, h⟩ := h
  refine jm_getR (k := 0) (ki := 0) cf_X6 (Nat.le_of_ble_eq_true rfl) f_X6_18 d_X6_choices_16 rfl rfl f1 rfl ?_
  obtain ⟨f2, h⟩ := h
  refine jm_getI (k := 4) (ki := 4) cf_X5 (Nat.le_of_ble_eq_true rfl) f_X6_98 d_X6_choices_19 rfl rfl f2 rfl ?_
  refine jm_icmp_ge (tgt := 46) d_X6_choices_22 (by decide) (fun c3 => ?_) (fun c3 => ?_)
  · have h := h.1 c3
    refine jm_iloadn d_X6_choices_46 rfl ?_
    exact jm_ret (o := some (jm_I _)) d_X6_choices_47 rfl ⟨Nat.le_refl _, Nat.le_refl _⟩ jm_r_I h rfl
  · have h := h.2 c3
    refine jm_aloadn d_X6_choices_25 rfl ?_
    refine jm_iloadn d_X6_choices_26 rfl ?_
    refine jm_iloadn d_X6_choices_27 rfl ?_
    refine jm_invV (n1 := jm_N) (mc := 0) (ms := 0) (av := [jm_I _, jm_I _]) w_X6_flaw l_X6_101 d_X6_choices_28 rfl f1 ⟨_, _, rfl⟩ ⟨Nat.le_refl _, Nat.le_refl _⟩ (Nat.le_of_ble_eq_true rfl) rfl ?_
    refine jm_Cl.mono h (fun o m4 h hr _ => ?_)
    obtain ⟨r5, rfl⟩ := jm_rokI hr
    have h := h _ rfl
    refine jm_if_ne (tgt := 40) d_X6_choices_31 (by decide) (fun c6 => ?_) (fun c6 => ?_)
    · have h := h.1 c6
      refine jm_iinc (L' := [some (jm_R _), some (jm_I _), some (jm_I _), some (jm_I _)]) d_X6_choices_40 rfl rfl (Nat.le_of_ble_eq_true rfl) rfl ?_
      refine jm_goto (tgt := 14) d_X6_choices_43 (by decide) ?_
      exact h
    · have h := h.2 c6
      refine jm_iloadn d_X6_choices_34 rfl ?_
      refine jm_iconst (v := 1) d_X6_choices_35 rfl (jm_okI (by decide) (by decide)) ?_
      refine jm_iloadn d_X6_choices_36 rfl ?_
      refine jm_ishl d_X6_choices_37 ?_
      refine jm_ior d_X6_choices_38 ?_
      have h := h _ rfl
      refine jm_istoren (L' := [some (jm_R _), some (jm_I _), some (jm_I _), some (jm_I _)]) d_X6_choices_39 (Nat.le_of_ble_eq_true rfl) rfl ?_
      refine jm_iinc (L' := [some (jm_R _), some (jm_I _), some (jm_I _), some (jm_I _)]) d_X6_choices_40 rfl rfl (Nat.le_of_ble_eq_true rfl) rfl ?_
      refine jm_goto (tgt := 14) d_X6_choices_43 (by decide) ?_
      exact h
/-! ('CombTable$Talk', 'add', '(II)V') -/
theorem d_X6_add_0 : decode m_X6_add.2.1 0 = .ok (.aload_n 0, 1) := by decide +kernel
theorem d_X6_add_1 : decode m_X6_add.2.1 1 = .ok (.getfield 43, 3) := by decide +kernel
theorem d_X6_add_4 : decode m_X6_add.2.1 4 = .ok (.aload_n 0, 1) := by decide +kernel
theorem d_X6_add_5 : decode m_X6_add.2.1 5 = .ok (.getfield 24, 3) := by decide +kernel
theorem d_X6_add_8 : decode m_X6_add.2.1 8 = .ok (.arraylength, 1) := by decide +kernel
theorem d_X6_add_9 : decode m_X6_add.2.1 9 = .ok (.if_icmp .lt 4, 3) := by decide +kernel
theorem d_X6_add_12 : decode m_X6_add.2.1 12 = .ok (.return_, 1) := by decide +kernel
theorem d_X6_add_13 : decode m_X6_add.2.1 13 = .ok (.aload_n 0, 1) := by decide +kernel
theorem d_X6_add_14 : decode m_X6_add.2.1 14 = .ok (.iload_n 1, 1) := by decide +kernel
theorem d_X6_add_15 : decode m_X6_add.2.1 15 = .ok (.iload_n 2, 1) := by decide +kernel
theorem d_X6_add_16 : decode m_X6_add.2.1 16 = .ok (.invokevirtual 82, 3) := by decide +kernel
theorem d_X6_add_19 : decode m_X6_add.2.1 19 = .ok (.istore_n 3, 1) := by decide +kernel
theorem d_X6_add_20 : decode m_X6_add.2.1 20 = .ok (.aload_n 0, 1) := by decide +kernel
theorem d_X6_add_21 : decode m_X6_add.2.1 21 = .ok (.getfield 18, 3) := by decide +kernel
theorem d_X6_add_24 : decode m_X6_add.2.1 24 = .ok (.iload_n 2, 1) := by decide +kernel
theorem d_X6_add_25 : decode m_X6_add.2.1 25 = .ok (.invokevirtual 85, 3) := by decide +kernel
theorem d_X6_add_28 : decode m_X6_add.2.1 28 = .ok (.istore 4, 2) := by decide +kernel
theorem d_X6_add_30 : decode m_X6_add.2.1 30 = .ok (.aload_n 0, 1) := by decide +kernel
theorem d_X6_add_31 : decode m_X6_add.2.1 31 = .ok (.getfield 24, 3) := by decide +kernel
theorem d_X6_add_34 : decode m_X6_add.2.1 34 = .ok (.aload_n 0, 1) := by decide +kernel
theorem d_X6_add_35 : decode m_X6_add.2.1 35 = .ok (.getfield 43, 3) := by decide +kernel
theorem d_X6_add_38 : decode m_X6_add.2.1 38 = .ok (.iload_n 1, 1) := by decide +kernel
theorem d_X6_add_39 : decode m_X6_add.2.1 39 = .ok (.iastore, 1) := by decide +kernel
theorem d_X6_add_40 : decode m_X6_add.2.1 40 = .ok (.aload_n 0, 1) := by decide +kernel
theorem d_X6_add_41 : decode m_X6_add.2.1 41 = .ok (.getfield 28, 3) := by decide +kernel
theorem d_X6_add_44 : decode m_X6_add.2.1 44 = .ok (.aload_n 0, 1) := by decide +kernel
theorem d_X6_add_45 : decode m_X6_add.2.1 45 = .ok (.getfield 43, 3) := by decide +kernel
theorem d_X6_add_48 : decode m_X6_add.2.1 48 = .ok (.iload_n 2, 1) := by decide +kernel
theorem d_X6_add_49 : decode m_X6_add.2.1 49 = .ok (.iastore, 1) := by decide +kernel
theorem d_X6_add_50 : decode m_X6_add.2.1 50 = .ok (.aload_n 0, 1) := by decide +kernel
theorem d_X6_add_51 : decode m_X6_add.2.1 51 = .ok (.getfield 31, 3) := by decide +kernel
theorem d_X6_add_54 : decode m_X6_add.2.1 54 = .ok (.aload_n 0, 1) := by decide +kernel
theorem d_X6_add_55 : decode m_X6_add.2.1 55 = .ok (.getfield 43, 3) := by decide +kernel
theorem d_X6_add_58 : decode m_X6_add.2.1 58 = .ok (.iload_n 3, 1) := by decide +kernel
theorem d_X6_add_59 : decode m_X6_add.2.1 59 = .ok (.iastore, 1) := by decide +kernel
theorem d_X6_add_60 : decode m_X6_add.2.1 60 = .ok (.aload_n 0, 1) := by decide +kernel
theorem d_X6_add_61 : decode m_X6_add.2.1 61 = .ok (.getfield 40, 3) := by decide +kernel
theorem d_X6_add_64 : decode m_X6_add.2.1 64 = .ok (.aload_n 0, 1) := by decide +kernel
theorem d_X6_add_65 : decode m_X6_add.2.1 65 = .ok (.getfield 43, 3) := by decide +kernel
theorem d_X6_add_68 : decode m_X6_add.2.1 68 = .ok (.iload 4, 2) := by decide +kernel
theorem d_X6_add_70 : decode m_X6_add.2.1 70 = .ok (.iconst 1, 1) := by decide +kernel
theorem d_X6_add_71 : decode m_X6_add.2.1 71 = .ok (.if_icmp .ne 7, 3) := by decide +kernel
theorem d_X6_add_74 : decode m_X6_add.2.1 74 = .ok (.iconst 1, 1) := by decide +kernel
theorem d_X6_add_75 : decode m_X6_add.2.1 75 = .ok (.goto 14, 3) := by decide +kernel
theorem d_X6_add_78 : decode m_X6_add.2.1 78 = .ok (.iload 4, 2) := by decide +kernel
theorem d_X6_add_80 : decode m_X6_add.2.1 80 = .ok (.iconst 2, 1) := by decide +kernel
theorem d_X6_add_81 : decode m_X6_add.2.1 81 = .ok (.if_icmp .ne 7, 3) := by decide +kernel
theorem d_X6_add_84 : decode m_X6_add.2.1 84 = .ok (.iconst 4, 1) := by decide +kernel
theorem d_X6_add_85 : decode m_X6_add.2.1 85 = .ok (.goto 4, 3) := by decide +kernel
theorem d_X6_add_88 : decode m_X6_add.2.1 88 = .ok (.iconst 0, 1) := by decide +kernel
theorem d_X6_add_89 : decode m_X6_add.2.1 89 = .ok (.iastore, 1) := by decide +kernel
theorem d_X6_add_90 : decode m_X6_add.2.1 90 = .ok (.aload_n 0, 1) := by decide +kernel
theorem d_X6_add_91 : decode m_X6_add.2.1 91 = .ok (.iload_n 3, 1) := by decide +kernel
theorem d_X6_add_92 : decode m_X6_add.2.1 92 = .ok (.invokevirtual 61, 3) := by decide +kernel
theorem d_X6_add_95 : decode m_X6_add.2.1 95 = .ok (.ifCond .eq 65, 3) := by decide +kernel
theorem d_X6_add_98 : decode m_X6_add.2.1 98 = .ok (.aload_n 0, 1) := by decide +kernel
theorem d_X6_add_99 : decode m_X6_add.2.1 99 = .ok (.getfield 34, 3) := by decide +kernel
theorem d_X6_add_102 : decode m_X6_add.2.1 102 = .ok (.aload_n 0, 1) := by decide +kernel
theorem d_X6_add_103 : decode m_X6_add.2.1 103 = .ok (.getfield 43, 3) := by decide +kernel
theorem d_X6_add_106 : decode m_X6_add.2.1 106 = .ok (.aload_n 0, 1) := by decide +kernel
theorem d_X6_add_107 : decode m_X6_add.2.1 107 = .ok (.getfield 34, 3) := by decide +kernel
theorem d_X6_add_110 : decode m_X6_add.2.1 110 = .ok (.iload_n 3, 1) := by decide +kernel
theorem d_X6_add_111 : decode m_X6_add.2.1 111 = .ok (.iaload, 1) := by decide +kernel
theorem d_X6_add_112 : decode m_X6_add.2.1 112 = .ok (.iastore, 1) := by decide +kernel
theorem d_X6_add_113 : decode m_X6_add.2.1 113 = .ok (.aload_n 0, 1) := by decide +kernel
theorem d_X6_add_114 : decode m_X6_add.2.1 114 = .ok (.getfield 37, 3) := by decide +kernel
theorem d_X6_add_117 : decode m_X6_add.2.1 117 = .ok (.aload_n 0, 1) := by decide +kernel
theorem d_X6_add_118 : decode m_X6_add.2.1 118 = .ok (.getfield 43, 3) := by decide +kernel
theorem d_X6_add_121 : decode m_X6_add.2.1 121 = .ok (.aload_n 0, 1) := by decide +kernel
theorem d_X6_add_122 : decode m_X6_add.2.1 122 = .ok (.getfield 37, 3) := by decide +kernel
theorem d_X6_add_125 : decode m_X6_add.2.1 125 = .ok (.iload_n 3, 1) := by decide +kernel
theorem d_X6_add_126 : decode m_X6_add.2.1 126 = .ok (.iaload, 1) := by decide +kernel
theorem d_X6_add_127 : decode m_X6_add.2.1 127 = .ok (.iconst 1, 1) := by decide +kernel
theorem d_X6_add_128 : decode m_X6_add.2.1 128 = .ok (.iadd, 1) := by decide +kernel
theorem d_X6_add_129 : decode m_X6_add.2.1 129 = .ok (.iastore, 1) := by decide +kernel
theorem d_X6_add_130 : decode m_X6_add.2.1 130 = .ok (.iload 4, 2) := by decide +kernel
theorem d_X6_add_132 : decode m_X6_add.2.1 132 = .ok (.iconst 2, 1) := by decide +kernel
theorem d_X6_add_133 : decode m_X6_add.2.1 133 = .ok (.if_icmp .lt 60, 3) := by decide +kernel
theorem d_X6_add_136 : decode m_X6_add.2.1 136 = .ok (.aload_n 0, 1) := by decide +kernel
theorem d_X6_add_137 : decode m_X6_add.2.1 137 = .ok (.getfield 40, 3) := by decide +kernel
theorem d_X6_add_140 : decode m_X6_add.2.1 140 = .ok (.iload_n 3, 1) := by decide +kernel
theorem d_X6_add_141 : decode m_X6_add.2.1 141 = .ok (.iload 4, 2) := by decide +kernel
theorem d_X6_add_143 : decode m_X6_add.2.1 143 = .ok (.iconst 3, 1) := by decide +kernel
theorem d_X6_add_144 : decode m_X6_add.2.1 144 = .ok (.if_icmp .gt 8, 3) := by decide +kernel
theorem d_X6_add_147 : decode m_X6_add.2.1 147 = .ok (.iload 4, 2) := by decide +kernel
theorem d_X6_add_149 : decode m_X6_add.2.1 149 = .ok (.goto 7, 3) := by decide +kernel
theorem d_X6_add_152 : decode m_X6_add.2.1 152 = .ok (.iload 4, 2) := by decide +kernel
theorem d_X6_add_154 : decode m_X6_add.2.1 154 = .ok (.iconst 1, 1) := by decide +kernel
theorem d_X6_add_155 : decode m_X6_add.2.1 155 = .ok (.iadd, 1) := by decide +kernel
theorem d_X6_add_156 : decode m_X6_add.2.1 156 = .ok (.iastore, 1) := by decide +kernel
theorem d_X6_add_157 : decode m_X6_add.2.1 157 = .ok (.goto 36, 3) := by decide +kernel
theorem d_X6_add_160 : decode m_X6_add.2.1 160 = .ok (.aload_n 0, 1) := by decide +kernel
theorem d_X6_add_161 : decode m_X6_add.2.1 161 = .ok (.getfield 34, 3) := by decide +kernel
theorem d_X6_add_164 : decode m_X6_add.2.1 164 = .ok (.aload_n 0, 1) := by decide +kernel
theorem d_X6_add_165 : decode m_X6_add.2.1 165 = .ok (.getfield 43, 3) := by decide +kernel
theorem d_X6_add_168 : decode m_X6_add.2.1 168 = .ok (.aload_n 0, 1) := by decide +kernel
theorem d_X6_add_169 : decode m_X6_add.2.1 169 = .ok (.getfield 47, 3) := by decide +kernel
theorem d_X6_add_172 : decode m_X6_add.2.1 172 = .ok (.iastore, 1) := by decide +kernel
theorem d_X6_add_173 : decode m_X6_add.2.1 173 = .ok (.aload_n 0, 1) := by decide +kernel
theorem d_X6_add_174 : decode m_X6_add.2.1 174 = .ok (.getfield 37, 3) := by decide +kernel
theorem d_X6_add_177 : decode m_X6_add.2.1 177 = .ok (.aload_n 0, 1) := by decide +kernel
theorem d_X6_add_178 : decode m_X6_add.2.1 178 = .ok (.getfield 43, 3) := by decide +kernel
theorem d_X6_add_181 : decode m_X6_add.2.1 181 = .ok (.iconst 0, 1) := by decide +kernel
theorem d_X6_add_182 : decode m_X6_add.2.1 182 = .ok (.iastore, 1) := by decide +kernel
theorem d_X6_add_183 : decode m_X6_add.2.1 183 = .ok (.aload_n 0, 1) := by decide +kernel
theorem d_X6_add_184 : decode m_X6_add.2.1 184 = .ok (.dup, 1) := by decide +kernel
theorem d_X6_add_185 : decode m_X6_add.2.1 185 = .ok (.getfield 47, 3) := by decide +kernel
theorem d_X6_add_188 : decode m_X6_add.2.1 188 = .ok (.iconst 1, 1) := by decide +kernel
theorem d_X6_add_189 : decode m_X6_add.2.1 189 = .ok (.iadd, 1) := by decide +kernel
theorem d_X6_add_190 : decode m_X6_add.2.1 190 = .ok (.putfield 47, 3) := by decide +kernel
theorem d_X6_add_193 : decode m_X6_add.2.1 193 = .ok (.aload_n 0, 1) := by decide +kernel
theorem d_X6_add_194 : decode m_X6_add.2.1 194 = .ok (.dup, 1) := by decide +kernel
theorem d_X6_add_195 : decode m_X6_add.2.1 195 = .ok (.getfield 43, 3) := by decide +kernel
theorem d_X6_add_198 : decode m_X6_add.2.1 198 = .ok (.iconst 1, 1) := by decide +kernel
theorem d_X6_add_199 : decode m_X6_add.2.1 199 = .ok (.iadd, 1) := by decide +kernel
theorem d_X6_add_200 : decode m_X6_add.2.1 200 = .ok (.putfield 43, 3) := by decide +kernel
theorem d_X6_add_203 : decode m_X6_add.2.1 203 = .ok (.return_, 1) := by decide +kernel
set_option maxRecDepth 20000 in
theorem e_X6_add {E : jm_E} {d : Nat} {μ : jm_M} {Q : Option jm_V → jm_M → Prop} {v0 v1 v2 : Int} (h : (∀ v ∈ ([jm_R v0, jm_I v1, jm_I v2] : List jm_V), jm_ok v) →
  (jm_is jm_N v0 1 6) ∧
  ((μ v0 1 < ((jm_sn ((v0 + 10)) : Int)) →
    jc E m_X6_heardBy d [jm_R v0, jm_I v1, jm_I v2] μ (fun (o : Option jm_V) (m3 : jm_M) => ∀ r4 : Int, o = some (jm_I r4) →
    (jm_is jm_N (m3 v0 0) 1 5) ∧
    jc E m_X5_doingOf d [jm_R (m3 v0 0), jm_I v2] m3 (fun (o : Option jm_V) (m5 : jm_M) => ∀ r7 : Int, o = some (jm_I r7) →
    (0 ≤ m5 v0 1 ∧ m5 v0 1 < (jm_sn (v0 + 10) : Int)) ∧
    ∀ m9 : jm_M, m9 = (jm_up m5 ((v0 + 10)) (m5 v0 1) v1) →
    (0 ≤ m9 v0 1 ∧ m9 v0 1 < (jm_sn (v0 + 10) : Int)) ∧
    ∀ m11 : jm_M, m11 = (jm_up m9 ((v0 + 11)) (m9 v0 1) v2) →
    (0 ≤ m11 v0 1 ∧ m11 v0 1 < (jm_sn (v0 + 10) : Int)) ∧
    ∀ m13 : jm_M, m13 = (jm_up m11 ((v0 + 12)) (m11 v0 1) r4) →
    ((r7 ≠ 1 →
      ((r7 ≠ 2 →
        (0 ≤ m13 v0 1 ∧ m13 v0 1 < (jm_sn (v0 + 10) : Int)) ∧
        ∀ m17 : jm_M, m17 = (jm_up m13 ((v0 + 15)) (m13 v0 1) 0) →
        jc E m_X6_has d [jm_R v0, jm_I r4] m17 (fun (o : Option jm_V) (m18 : jm_M) => ∀ r19 : Int, o = some (jm_I r19) → (r19 = 0 ∨ r19 = 1) →
        ((r19 = 0 →
          (0 ≤ m18 v0 1 ∧ m18 v0 1 < (jm_sn (v0 + 10) : Int)) ∧
          ∀ m23 : jm_M, m23 = (jm_up m18 ((v0 + 13)) (m18 v0 1) (m18 v0 2)) →
          (0 ≤ m23 v0 1 ∧ m23 v0 1 < (jm_sn (v0 + 10) : Int)) ∧
          ∀ m25 : jm_M, m25 = (jm_up m23 ((v0 + 14)) (m23 v0 1) 0) →
          Q none (jm_up (jm_up m25 v0 2 (jm_wr ((m25 v0 2) + 1))) v0 1 (jm_wr ((m25 v0 1) + 1)))) ∧
         (¬ (r19 = 0) →
          (0 ≤ r4 ∧ r4 < (jm_sn (v0 + 10) : Int)) ∧
          (0 ≤ m18 v0 1 ∧ m18 v0 1 < (jm_sn (v0 + 10) : Int)) ∧
          ∀ m28 : jm_M, m28 = (jm_up m18 ((v0 + 13)) (m18 v0 1) (m18 ((v0 + 13)) r4)) →
          (0 ≤ m28 v0 1 ∧ m28 v0 1 < (jm_sn (v0 + 10) : Int)) ∧
          ∀ m30 : jm_M, m30 = (jm_up m28 ((v0 + 14)) (m28 v0 1) (jm_wr ((m28 ((v0 + 14)) r4) + 1))) →
          ((r7 < 2 →
            Q none (jm_up m30 v0 1 (jm_wr ((m30 v0 1) + 1)))) ∧
           (¬ (r7 < 2) →
            ((3 < r7 →
              ∀ m33 : jm_M, m33 = (jm_up m30 ((v0 + 15)) r4 (jm_wr (r7 + 1))) →
              Q none (jm_up m33 v0 1 (jm_wr ((m33 v0 1) + 1)))) ∧
             (¬ (3 < r7) →
              ∀ m34 : jm_M, m34 = (jm_up m30 ((v0 + 15)) r4 r7) →
              Q none (jm_up m34 v0 1 (jm_wr ((m34 v0 1) + 1))))))))))) ∧
       (¬ (r7 ≠ 2) →
        (0 ≤ m13 v0 1 ∧ m13 v0 1 < (jm_sn (v0 + 10) : Int)) ∧
        ∀ m36 : jm_M, m36 = (jm_up m13 ((v0 + 15)) (m13 v0 1) 4) →
        jc E m_X6_has d [jm_R v0, jm_I r4] m36 (fun (o : Option jm_V) (m37 : jm_M) => ∀ r38 : Int, o = some (jm_I r38) → (r38 = 0 ∨ r38 = 1) →
        ((r38 = 0 →
          (0 ≤ m37 v0 1 ∧ m37 v0 1 < (jm_sn (v0 + 10) : Int)) ∧
          ∀ m42 : jm_M, m42 = (jm_up m37 ((v0 + 13)) (m37 v0 1) (m37 v0 2)) →
          (0 ≤ m42 v0 1 ∧ m42 v0 1 < (jm_sn (v0 + 10) : Int)) ∧
          ∀ m44 : jm_M, m44 = (jm_up m42 ((v0 + 14)) (m42 v0 1) 0) →
          Q none (jm_up (jm_up m44 v0 2 (jm_wr ((m44 v0 2) + 1))) v0 1 (jm_wr ((m44 v0 1) + 1)))) ∧
         (¬ (r38 = 0) →
          (0 ≤ r4 ∧ r4 < (jm_sn (v0 + 10) : Int)) ∧
          (0 ≤ m37 v0 1 ∧ m37 v0 1 < (jm_sn (v0 + 10) : Int)) ∧
          ∀ m47 : jm_M, m47 = (jm_up m37 ((v0 + 13)) (m37 v0 1) (m37 ((v0 + 13)) r4)) →
          (0 ≤ m47 v0 1 ∧ m47 v0 1 < (jm_sn (v0 + 10) : Int)) ∧
          ∀ m49 : jm_M, m49 = (jm_up m47 ((v0 + 14)) (m47 v0 1) (jm_wr ((m47 ((v0 + 14)) r4) + 1))) →
          ((r7 < 2 →
            Q none (jm_up m49 v0 1 (jm_wr ((m49 v0 1) + 1)))) ∧
           (¬ (r7 < 2) →
            ((3 < r7 →
              ∀ m52 : jm_M, m52 = (jm_up m49 ((v0 + 15)) r4 (jm_wr (r7 + 1))) →
              Q none (jm_up m52 v0 1 (jm_wr ((m52 v0 1) + 1)))) ∧
             (¬ (3 < r7) →
              ∀ m53 : jm_M, m53 = (jm_up m49 ((v0 + 15)) r4 r7) →
              Q none (jm_up m53 v0 1 (jm_wr ((m53 v0 1) + 1))))))))))))) ∧
     (¬ (r7 ≠ 1) →
      (0 ≤ m13 v0 1 ∧ m13 v0 1 < (jm_sn (v0 + 10) : Int)) ∧
      ∀ m55 : jm_M, m55 = (jm_up m13 ((v0 + 15)) (m13 v0 1) 1) →
      jc E m_X6_has d [jm_R v0, jm_I r4] m55 (fun (o : Option jm_V) (m56 : jm_M) => ∀ r57 : Int, o = some (jm_I r57) → (r57 = 0 ∨ r57 = 1) →
      ((r57 = 0 →
        (0 ≤ m56 v0 1 ∧ m56 v0 1 < (jm_sn (v0 + 10) : Int)) ∧
        ∀ m61 : jm_M, m61 = (jm_up m56 ((v0 + 13)) (m56 v0 1) (m56 v0 2)) →
        (0 ≤ m61 v0 1 ∧ m61 v0 1 < (jm_sn (v0 + 10) : Int)) ∧
        ∀ m63 : jm_M, m63 = (jm_up m61 ((v0 + 14)) (m61 v0 1) 0) →
        Q none (jm_up (jm_up m63 v0 2 (jm_wr ((m63 v0 2) + 1))) v0 1 (jm_wr ((m63 v0 1) + 1)))) ∧
       (¬ (r57 = 0) →
        (0 ≤ r4 ∧ r4 < (jm_sn (v0 + 10) : Int)) ∧
        (0 ≤ m56 v0 1 ∧ m56 v0 1 < (jm_sn (v0 + 10) : Int)) ∧
        ∀ m66 : jm_M, m66 = (jm_up m56 ((v0 + 13)) (m56 v0 1) (m56 ((v0 + 13)) r4)) →
        (0 ≤ m66 v0 1 ∧ m66 v0 1 < (jm_sn (v0 + 10) : Int)) ∧
        ∀ m68 : jm_M, m68 = (jm_up m66 ((v0 + 14)) (m66 v0 1) (jm_wr ((m66 ((v0 + 14)) r4) + 1))) →
        ((r7 < 2 →
          Q none (jm_up m68 v0 1 (jm_wr ((m68 v0 1) + 1)))) ∧
         (¬ (r7 < 2) →
          ((3 < r7 →
            ∀ m71 : jm_M, m71 = (jm_up m68 ((v0 + 15)) r4 (jm_wr (r7 + 1))) →
            Q none (jm_up m71 v0 1 (jm_wr ((m71 v0 1) + 1)))) ∧
           (¬ (3 < r7) →
            ∀ m72 : jm_M, m72 = (jm_up m68 ((v0 + 15)) r4 r7) →
            Q none (jm_up m72 v0 1 (jm_wr ((m72 v0 1) + 1))))))))))))))) ∧
   (¬ (μ v0 1 < ((jm_sn ((v0 + 10)) : Int))) →
    Q none μ))) : jc E m_X6_add (d + 1) [jm_R v0, jm_I v1, jm_I v2] μ Q := by
  refine jm_Cl.of2 (by decide +kernel) (L0 := [some (jm_R v0), some (jm_I v1), some (jm_I v2), none, none]) rfl (Nat.le_of_ble_eq_true rfl) (fun hok => ?_)
  have h := h hok
  refine jm_aloadn d_X6_add_0 rfl ?_
  obtain ⟨f1, h⟩ := h
  refine jm_getI (k := 1) (ki := 1) cf_X6 (Nat.le_of_ble_eq_true rfl) f_X6_43 d_X6_add_1 rfl rfl f1 rfl ?_
  refine jm_aloadn d_X6_add_4 rfl ?_
  refine jm_getF (k := 4) (ki := 4) rfl cf_X6 (Nat.le_of_ble_eq_true rfl) f_X6_24 d_X6_add_5 rfl rfl f1 (fc_6_4 f1) ?_
  refine jm_alen (Or.inl rfl) (ac_6_4 f1) d_X6_add_8 ?_
  refine jm_icmp_lt (tgt := 13) d_X6_add_9 (by decide) (fun c2 => ?_) (fun c2 => ?_)
  · have h := h.1 c2
    refine jm_aloadn d_X6_add_13 rfl ?_
    refine jm_iloadn d_X6_add_14 rfl ?_
    refine jm_iloadn d_X6_add_15 rfl ?_
    refine jm_invV (n1 := jm_N) (mc := 0) (ms := 0) (av := [jm_I _, jm_I _]) w_X6_heardBy l_X6_82 d_X6_add_16 rfl f1 ⟨_, _, rfl⟩ ⟨Nat.le_refl _, Nat.le_refl _⟩ (Nat.le_of_ble_eq_true rfl) rfl ?_
    refine jm_Cl.mono h (fun o m3 h hr _ => ?_)
    obtain ⟨r4, rfl⟩ := jm_rokI hr
    have h := h _ rfl
    refine jm_istoren (L' := [some (jm_R _), some (jm_I _), some (jm_I _), some (jm_I _), none]) d_X6_add_19 (Nat.le_of_ble_eq_true rfl) rfl ?_
    refine jm_aloadn d_X6_add_20 rfl ?_
    refine jm_getR (k := 0) (ki := 0) cf_X6 (Nat.le_of_ble_eq_true rfl) f_X6_18 d_X6_add_21 rfl rfl f1 rfl ?_
    refine jm_iloadn d_X6_add_24 rfl ?_
    obtain ⟨f6, h⟩ := h
    refine jm_invV (n1 := jm_N) (mc := 0) (ms := 0) (av := [jm_I _]) w_X5_doingOf l_X6_85 d_X6_add_25 rfl f6 ⟨_, _, rfl⟩ ⟨Nat.le_refl _, Nat.le_refl _⟩ (Nat.le_of_ble_eq_true rfl) rfl ?_
    refine jm_Cl.mono h (fun o m5 h hr _ => ?_)
    obtain ⟨r7, rfl⟩ := jm_rokI hr
    have h := h _ rfl
    refine jm_istore (L' := [some (jm_R _), some (jm_I _), some (jm_I _), some (jm_I _), some (jm_I _)]) d_X6_add_28 (Nat.le_of_ble_eq_true rfl) rfl ?_
    refine jm_aloadn d_X6_add_30 rfl ?_
    refine jm_getF (k := 4) (ki := 4) rfl cf_X6 (Nat.le_of_ble_eq_true rfl) f_X6_24 d_X6_add_31 rfl rfl f1 (fc_6_4 f1) ?_
    refine jm_aloadn d_X6_add_34 rfl ?_
    refine jm_getI (k := 1) (ki := 1) cf_X6 (Nat.le_of_ble_eq_true rfl) f_X6_43 d_X6_add_35 rfl rfl f1 rfl ?_
    refine jm_iloadn d_X6_add_38 rfl ?_
    obtain ⟨f8, h⟩ := h
    refine jm_iastore d_X6_add_39 (xc_6_4 f1 f8.1 f8.2) ?_
    have h := h _ rfl
    refine jm_aloadn d_X6_add_40 rfl ?_
    refine jm_getF (k := 5) (ki := 5) rfl cf_X6 (Nat.le_of_ble_eq_true rfl) f_X6_28 d_X6_add_41 rfl rfl f1 (fc_6_5 f1) ?_
    refine jm_aloadn d_X6_add_44 rfl ?_
    refine jm_getI (k := 1) (ki := 1) cf_X6 (Nat.le_of_ble_eq_true rfl) f_X6_43 d_X6_add_45 rfl rfl f1 rfl ?_
    refine jm_iloadn d_X6_add_48 rfl ?_
    obtain ⟨f10, h⟩ := h
    refine jm_iastore d_X6_add_49 (xc_6_5 f1 f10.1 f10.2) ?_
    have h := h _ rfl
    refine jm_aloadn d_X6_add_50 rfl ?_
    refine jm_getF (k := 6) (ki := 6) rfl cf_X6 (Nat.le_of_ble_eq_true rfl) f_X6_31 d_X6_add_51 rfl rfl f1 (fc_6_6 f1) ?_
    refine jm_aloadn d_X6_add_54 rfl ?_
    refine jm_getI (k := 1) (ki := 1) cf_X6 (Nat.le_of_ble_eq_true rfl) f_X6_43 d_X6_add_55 rfl rfl f1 rfl ?_
    refine jm_iloadn d_X6_add_58 rfl ?_
    obtain ⟨f12, h⟩ := h
    refine jm_iastore d_X6_add_59 (xc_6_6 f1 f12.1 f12.2) ?_
    have h := h _ rfl
    refine jm_aloadn d_X6_add_60 rfl ?_
    refine jm_getF (k := 9) (ki := 9) rfl cf_X6 (Nat.le_of_ble_eq_true rfl) f_X6_40 d_X6_add_61 rfl rfl f1 (fc_6_9 f1) ?_
    refine jm_aloadn d_X6_add_64 rfl ?_
    refine jm_getI (k := 1) (ki := 1) cf_X6 (Nat.le_of_ble_eq_true rfl) f_X6_43 d_X6_add_65 rfl rfl f1 rfl ?_
    refine jm_iload d_X6_add_68 rfl ?_
    refine jm_iconst (v := 1) d_X6_add_70 rfl (jm_okI (by decide) (by decide)) ?_
    refine jm_icmp_ne (tgt := 78) d_X6_add_71 (by decide) (fun c14 => ?_) (fun c14 => ?_)
    · have h := h.1 c14
      refine jm_iload d_X6_add_78 rfl ?_
      refine jm_iconst (v := 2) d_X6_add_80 rfl (jm_okI (by decide) (by decide)) ?_
      refine jm_icmp_ne (tgt := 88) d_X6_add_81 (by decide) (fun c15 => ?_) (fun c15 => ?_)
      · have h := h.1 c15
        refine jm_iconst (v := 0) d_X6_add_88 rfl (jm_okI (by decide) (by decide)) ?_
        obtain ⟨f16, h⟩ := h
        refine jm_iastore d_X6_add_89 (xc_6_9 f1 f16.1 f16.2) ?_
        have h := h _ rfl
        refine jm_aloadn d_X6_add_90 rfl ?_
        refine jm_iloadn d_X6_add_91 rfl ?_
        refine jm_invV (n1 := jm_N) (mc := 0) (ms := 0) (av := [jm_I _]) w_X6_has l_X6_61 d_X6_add_92 rfl f1 ⟨_, _, rfl⟩ ⟨Nat.le_refl _, Nat.le_refl _⟩ (Nat.le_of_ble_eq_true rfl) rfl ?_
        refine jm_Cl.mono h (fun o m18 h hr _ => ?_)
        obtain ⟨r19, rfl, z20⟩ := jm_rokZ hr
        have h := h _ rfl z20
        refine jm_if_eq (tgt := 160) d_X6_add_95 (by decide) (fun c21 => ?_) (fun c21 => ?_)
        · have h := h.1 c21
          refine jm_aloadn d_X6_add_160 rfl ?_
          refine jm_getF (k := 7) (ki := 7) rfl cf_X6 (Nat.le_of_ble_eq_true rfl) f_X6_34 d_X6_add_161 rfl rfl f1 (fc_6_7 f1) ?_
          refine jm_aloadn d_X6_add_164 rfl ?_
          refine jm_getI (k := 1) (ki := 1) cf_X6 (Nat.le_of_ble_eq_true rfl) f_X6_43 d_X6_add_165 rfl rfl f1 rfl ?_
          refine jm_aloadn d_X6_add_168 rfl ?_
          refine jm_getI (k := 2) (ki := 2) cf_X6 (Nat.le_of_ble_eq_true rfl) f_X6_47 d_X6_add_169 rfl rfl f1 rfl ?_
          obtain ⟨f22, h⟩ := h
          refine jm_iastore d_X6_add_172 (xc_6_7 f1 f22.1 f22.2) ?_
          have h := h _ rfl
          refine jm_aloadn d_X6_add_173 rfl ?_
          refine jm_getF (k := 8) (ki := 8) rfl cf_X6 (Nat.le_of_ble_eq_true rfl) f_X6_37 d_X6_add_174 rfl rfl f1 (fc_6_8 f1) ?_
          refine jm_aloadn d_X6_add_177 rfl ?_
          refine jm_getI (k := 1) (ki := 1) cf_X6 (Nat.le_of_ble_eq_true rfl) f_X6_43 d_X6_add_178 rfl rfl f1 rfl ?_
          refine jm_iconst (v := 0) d_X6_add_181 rfl (jm_okI (by decide) (by decide)) ?_
          obtain ⟨f24, h⟩ := h
          refine jm_iastore d_X6_add_182 (xc_6_8 f1 f24.1 f24.2) ?_
          have h := h _ rfl
          refine jm_aloadn d_X6_add_183 rfl ?_
          refine jm_dup rfl d_X6_add_184 ?_
          refine jm_getI (k := 2) (ki := 2) cf_X6 (Nat.le_of_ble_eq_true rfl) f_X6_47 d_X6_add_185 rfl rfl f1 rfl ?_
          refine jm_iconst (v := 1) d_X6_add_188 rfl (jm_okI (by decide) (by decide)) ?_
          refine jm_iadd d_X6_add_189 ?_
          refine jm_putI (k := 2) (ki := 2) cf_X6 (Nat.le_of_ble_eq_true rfl) f_X6_47 d_X6_add_190 (fun z => absurd z (by decide)) rfl rfl rfl (fun _ => rfl) f1 ?_
          refine jm_aloadn d_X6_add_193 rfl ?_
          refine jm_dup rfl d_X6_add_194 ?_
          refine jm_getI (k := 1) (ki := 1) cf_X6 (Nat.le_of_ble_eq_true rfl) f_X6_43 d_X6_add_195 rfl rfl f1 ((jm_up_i (by decide)).trans rfl) ?_
          refine jm_iconst (v := 1) d_X6_add_198 rfl (jm_okI (by decide) (by decide)) ?_
          refine jm_iadd d_X6_add_199 ?_
          refine jm_putI (k := 1) (ki := 1) cf_X6 (Nat.le_of_ble_eq_true rfl) f_X6_43 d_X6_add_200 (fun z => absurd z (by decide)) rfl rfl rfl (fun _ => rfl) f1 ?_
          exact jm_ret (o := none) d_X6_add_203 rfl ⟨Nat.le_refl _, Nat.le_refl _⟩ jm_r_V h rfl
        · have h := h.2 c21
          refine jm_aloadn d_X6_add_98 rfl ?_
          refine jm_getF (k := 7) (ki := 7) rfl cf_X6 (Nat.le_of_ble_eq_true rfl) f_X6_34 d_X6_add_99 rfl rfl f1 (fc_6_7 f1) ?_
          refine jm_aloadn d_X6_add_102 rfl ?_
          refine jm_getI (k := 1) (ki := 1) cf_X6 (Nat.le_of_ble_eq_true rfl) f_X6_43 d_X6_add_103 rfl rfl f1 rfl ?_
          refine jm_aloadn d_X6_add_106 rfl ?_
          refine jm_getF (k := 7) (ki := 7) rfl cf_X6 (Nat.le_of_ble_eq_true rfl) f_X6_34 d_X6_add_107 rfl rfl f1 (fc_6_7 f1) ?_
          refine jm_iloadn d_X6_add_110 rfl ?_
          obtain ⟨f26, h⟩ := h
          refine jm_iaload d_X6_add_111 (xc_6_7 f1 f26.1 f26.2) ?_
          obtain ⟨f27, h⟩ := h
          refine jm_iastore d_X6_add_112 (xc_6_7 f1 f27.1 f27.2) ?_
          have h := h _ rfl
          refine jm_aloadn d_X6_add_113 rfl ?_
          refine jm_getF (k := 8) (ki := 8) rfl cf_X6 (Nat.le_of_ble_eq_true rfl) f_X6_37 d_X6_add_114 rfl rfl f1 (fc_6_8 f1) ?_
          refine jm_aloadn d_X6_add_117 rfl ?_
          refine jm_getI (k := 1) (ki := 1) cf_X6 (Nat.le_of_ble_eq_true rfl) f_X6_43 d_X6_add_118 rfl rfl f1 rfl ?_
          refine jm_aloadn d_X6_add_121 rfl ?_
          refine jm_getF (k := 8) (ki := 8) rfl cf_X6 (Nat.le_of_ble_eq_true rfl) f_X6_37 d_X6_add_122 rfl rfl f1 (fc_6_8 f1) ?_
          refine jm_iloadn d_X6_add_125 rfl ?_
          refine jm_iaload d_X6_add_126 (xc_6_8 f1 f26.1 f26.2) ?_
          refine jm_iconst (v := 1) d_X6_add_127 rfl (jm_okI (by decide) (by decide)) ?_
          refine jm_iadd d_X6_add_128 ?_
          obtain ⟨f29, h⟩ := h
          refine jm_iastore d_X6_add_129 (xc_6_8 f1 f29.1 f29.2) ?_
          have h := h _ rfl
          refine jm_iload d_X6_add_130 rfl ?_
          refine jm_iconst (v := 2) d_X6_add_132 rfl (jm_okI (by decide) (by decide)) ?_
          refine jm_icmp_lt (tgt := 193) d_X6_add_133 (by decide) (fun c31 => ?_) (fun c31 => ?_)
          · have h := h.1 c31
            refine jm_aloadn d_X6_add_193 rfl ?_
            refine jm_dup rfl d_X6_add_194 ?_
            refine jm_getI (k := 1) (ki := 1) cf_X6 (Nat.le_of_ble_eq_true rfl) f_X6_43 d_X6_add_195 rfl rfl f1 rfl ?_
            refine jm_iconst (v := 1) d_X6_add_198 rfl (jm_okI (by decide) (by decide)) ?_
            refine jm_iadd d_X6_add_199 ?_
            refine jm_putI (k := 1) (ki := 1) cf_X6 (Nat.le_of_ble_eq_true rfl) f_X6_43 d_X6_add_200 (fun z => absurd z (by decide)) rfl rfl rfl (fun _ => rfl) f1 ?_
            exact jm_ret (o := none) d_X6_add_203 rfl ⟨Nat.le_refl _, Nat.le_refl _⟩ jm_r_V h rfl
          · have h := h.2 c31
            refine jm_aloadn d_X6_add_136 rfl ?_
            refine jm_getF (k := 9) (ki := 9) rfl cf_X6 (Nat.le_of_ble_eq_true rfl) f_X6_40 d_X6_add_137 rfl rfl f1 (fc_6_9 f1) ?_
            refine jm_iloadn d_X6_add_140 rfl ?_
            refine jm_iload d_X6_add_141 rfl ?_
            refine jm_iconst (v := 3) d_X6_add_143 rfl (jm_okI (by decide) (by decide)) ?_
            refine jm_icmp_gt (tgt := 152) d_X6_add_144 (by decide) (fun c32 => ?_) (fun c32 => ?_)
            · have h := h.1 c32
              refine jm_iload d_X6_add_152 rfl ?_
              refine jm_iconst (v := 1) d_X6_add_154 rfl (jm_okI (by decide) (by decide)) ?_
              refine jm_iadd d_X6_add_155 ?_
              refine jm_iastore d_X6_add_156 (xc_6_9 f1 f26.1 f26.2) ?_
              have h := h _ rfl
              refine jm_goto (tgt := 193) d_X6_add_157 (by decide) ?_
              refine jm_aloadn d_X6_add_193 rfl ?_
              refine jm_dup rfl d_X6_add_194 ?_
              refine jm_getI (k := 1) (ki := 1) cf_X6 (Nat.le_of_ble_eq_true rfl) f_X6_43 d_X6_add_195 rfl rfl f1 rfl ?_
              refine jm_iconst (v := 1) d_X6_add_198 rfl (jm_okI (by decide) (by decide)) ?_
              refine jm_iadd d_X6_add_199 ?_
              refine jm_putI (k := 1) (ki := 1) cf_X6 (Nat.le_of_ble_eq_true rfl) f_X6_43 d_X6_add_200 (fun z => absurd z (by decide)) rfl rfl rfl (fun _ => rfl) f1 ?_
              exact jm_ret (o := none) d_X6_add_203 rfl ⟨Nat.le_refl _, Nat.le_refl _⟩ jm_r_V h rfl
            · have h := h.2 c32
              refine jm_iload d_X6_add_147 rfl ?_
              refine jm_goto (tgt := 156) d_X6_add_149 (by decide) ?_
              refine jm_iastore d_X6_add_156 (xc_6_9 f1 f26.1 f26.2) ?_
              have h := h _ rfl
              refine jm_goto (tgt := 193) d_X6_add_157 (by decide) ?_
              refine jm_aloadn d_X6_add_193 rfl ?_
              refine jm_dup rfl d_X6_add_194 ?_
              refine jm_getI (k := 1) (ki := 1) cf_X6 (Nat.le_of_ble_eq_true rfl) f_X6_43 d_X6_add_195 rfl rfl f1 rfl ?_
              refine jm_iconst (v := 1) d_X6_add_198 rfl (jm_okI (by decide) (by decide)) ?_
              refine jm_iadd d_X6_add_199 ?_
              refine jm_putI (k := 1) (ki := 1) cf_X6 (Nat.le_of_ble_eq_true rfl) f_X6_43 d_X6_add_200 (fun z => absurd z (by decide)) rfl rfl rfl (fun _ => rfl) f1 ?_
              exact jm_ret (o := none) d_X6_add_203 rfl ⟨Nat.le_refl _, Nat.le_refl _⟩ jm_r_V h rfl
      · have h := h.2 c15
        refine jm_iconst (v := 4) d_X6_add_84 rfl (jm_okI (by decide) (by decide)) ?_
        refine jm_goto (tgt := 89) d_X6_add_85 (by decide) ?_
        obtain ⟨f35, h⟩ := h
        refine jm_iastore d_X6_add_89 (xc_6_9 f1 f35.1 f35.2) ?_
        have h := h _ rfl
        refine jm_aloadn d_X6_add_90 rfl ?_
        refine jm_iloadn d_X6_add_91 rfl ?_
        refine jm_invV (n1 := jm_N) (mc := 0) (ms := 0) (av := [jm_I _]) w_X6_has l_X6_61 d_X6_add_92 rfl f1 ⟨_, _, rfl⟩ ⟨Nat.le_refl _, Nat.le_refl _⟩ (Nat.le_of_ble_eq_true rfl) rfl ?_
        refine jm_Cl.mono h (fun o m37 h hr _ => ?_)
        obtain ⟨r38, rfl, z39⟩ := jm_rokZ hr
        have h := h _ rfl z39
        refine jm_if_eq (tgt := 160) d_X6_add_95 (by decide) (fun c40 => ?_) (fun c40 => ?_)
        · have h := h.1 c40
          refine jm_aloadn d_X6_add_160 rfl ?_
          refine jm_getF (k := 7) (ki := 7) rfl cf_X6 (Nat.le_of_ble_eq_true rfl) f_X6_34 d_X6_add_161 rfl rfl f1 (fc_6_7 f1) ?_
          refine jm_aloadn d_X6_add_164 rfl ?_
          refine jm_getI (k := 1) (ki := 1) cf_X6 (Nat.le_of_ble_eq_true rfl) f_X6_43 d_X6_add_165 rfl rfl f1 rfl ?_
          refine jm_aloadn d_X6_add_168 rfl ?_
          refine jm_getI (k := 2) (ki := 2) cf_X6 (Nat.le_of_ble_eq_true rfl) f_X6_47 d_X6_add_169 rfl rfl f1 rfl ?_
          obtain ⟨f41, h⟩ := h
          refine jm_iastore d_X6_add_172 (xc_6_7 f1 f41.1 f41.2) ?_
          have h := h _ rfl
          refine jm_aloadn d_X6_add_173 rfl ?_
          refine jm_getF (k := 8) (ki := 8) rfl cf_X6 (Nat.le_of_ble_eq_true rfl) f_X6_37 d_X6_add_174 rfl rfl f1 (fc_6_8 f1) ?_
          refine jm_aloadn d_X6_add_177 rfl ?_
          refine jm_getI (k := 1) (ki := 1) cf_X6 (Nat.le_of_ble_eq_true rfl) f_X6_43 d_X6_add_178 rfl rfl f1 rfl ?_
          refine jm_iconst (v := 0) d_X6_add_181 rfl (jm_okI (by decide) (by decide)) ?_
          obtain ⟨f43, h⟩ := h
          refine jm_iastore d_X6_add_182 (xc_6_8 f1 f43.1 f43.2) ?_
          have h := h _ rfl
          refine jm_aloadn d_X6_add_183 rfl ?_
          refine jm_dup rfl d_X6_add_184 ?_
          refine jm_getI (k := 2) (ki := 2) cf_X6 (Nat.le_of_ble_eq_true rfl) f_X6_47 d_X6_add_185 rfl rfl f1 rfl ?_
          refine jm_iconst (v := 1) d_X6_add_188 rfl (jm_okI (by decide) (by decide)) ?_
          refine jm_iadd d_X6_add_189 ?_
          refine jm_putI (k := 2) (ki := 2) cf_X6 (Nat.le_of_ble_eq_true rfl) f_X6_47 d_X6_add_190 (fun z => absurd z (by decide)) rfl rfl rfl (fun _ => rfl) f1 ?_
          refine jm_aloadn d_X6_add_193 rfl ?_
          refine jm_dup rfl d_X6_add_194 ?_
          refine jm_getI (k := 1) (ki := 1) cf_X6 (Nat.le_of_ble_eq_true rfl) f_X6_43 d_X6_add_195 rfl rfl f1 ((jm_up_i (by decide)).trans rfl) ?_
          refine jm_iconst (v := 1) d_X6_add_198 rfl (jm_okI (by decide) (by decide)) ?_
          refine jm_iadd d_X6_add_199 ?_
          refine jm_putI (k := 1) (ki := 1) cf_X6 (Nat.le_of_ble_eq_true rfl) f_X6_43 d_X6_add_200 (fun z => absurd z (by decide)) rfl rfl rfl (fun _ => rfl) f1 ?_
          exact jm_ret (o := none) d_X6_add_203 rfl ⟨Nat.le_refl _, Nat.le_refl _⟩ jm_r_V h rfl
        · have h := h.2 c40
          refine jm_aloadn d_X6_add_98 rfl ?_
          refine jm_getF (k := 7) (ki := 7) rfl cf_X6 (Nat.le_of_ble_eq_true rfl) f_X6_34 d_X6_add_99 rfl rfl f1 (fc_6_7 f1) ?_
          refine jm_aloadn d_X6_add_102 rfl ?_
          refine jm_getI (k := 1) (ki := 1) cf_X6 (Nat.le_of_ble_eq_true rfl) f_X6_43 d_X6_add_103 rfl rfl f1 rfl ?_
          refine jm_aloadn d_X6_add_106 rfl ?_
          refine jm_getF (k := 7) (ki := 7) rfl cf_X6 (Nat.le_of_ble_eq_true rfl) f_X6_34 d_X6_add_107 rfl rfl f1 (fc_6_7 f1) ?_
          refine jm_iloadn d_X6_add_110 rfl ?_
          obtain ⟨f45, h⟩ := h
          refine jm_iaload d_X6_add_111 (xc_6_7 f1 f45.1 f45.2) ?_
          obtain ⟨f46, h⟩ := h
          refine jm_iastore d_X6_add_112 (xc_6_7 f1 f46.1 f46.2) ?_
          have h := h _ rfl
          refine jm_aloadn d_X6_add_113 rfl ?_
          refine jm_getF (k := 8) (ki := 8) rfl cf_X6 (Nat.le_of_ble_eq_true rfl) f_X6_37 d_X6_add_114 rfl rfl f1 (fc_6_8 f1) ?_
          refine jm_aloadn d_X6_add_117 rfl ?_
          refine jm_getI (k := 1) (ki := 1) cf_X6 (Nat.le_of_ble_eq_true rfl) f_X6_43 d_X6_add_118 rfl rfl f1 rfl ?_
          refine jm_aloadn d_X6_add_121 rfl ?_
          refine jm_getF (k := 8) (ki := 8) rfl cf_X6 (Nat.le_of_ble_eq_true rfl) f_X6_37 d_X6_add_122 rfl rfl f1 (fc_6_8 f1) ?_
          refine jm_iloadn d_X6_add_125 rfl ?_
          refine jm_iaload d_X6_add_126 (xc_6_8 f1 f45.1 f45.2) ?_
          refine jm_iconst (v := 1) d_X6_add_127 rfl (jm_okI (by decide) (by decide)) ?_
          refine jm_iadd d_X6_add_128 ?_
          obtain ⟨f48, h⟩ := h
          refine jm_iastore d_X6_add_129 (xc_6_8 f1 f48.1 f48.2) ?_
          have h := h _ rfl
          refine jm_iload d_X6_add_130 rfl ?_
          refine jm_iconst (v := 2) d_X6_add_132 rfl (jm_okI (by decide) (by decide)) ?_
          refine jm_icmp_lt (tgt := 193) d_X6_add_133 (by decide) (fun c50 => ?_) (fun c50 => ?_)
          · have h := h.1 c50
            refine jm_aloadn d_X6_add_193 rfl ?_
            refine jm_dup rfl d_X6_add_194 ?_
            refine jm_getI (k := 1) (ki := 1) cf_X6 (Nat.le_of_ble_eq_true rfl) f_X6_43 d_X6_add_195 rfl rfl f1 rfl ?_
            refine jm_iconst (v := 1) d_X6_add_198 rfl (jm_okI (by decide) (by decide)) ?_
            refine jm_iadd d_X6_add_199 ?_
            refine jm_putI (k := 1) (ki := 1) cf_X6 (Nat.le_of_ble_eq_true rfl) f_X6_43 d_X6_add_200 (fun z => absurd z (by decide)) rfl rfl rfl (fun _ => rfl) f1 ?_
            exact jm_ret (o := none) d_X6_add_203 rfl ⟨Nat.le_refl _, Nat.le_refl _⟩ jm_r_V h rfl
          · have h := h.2 c50
            refine jm_aloadn d_X6_add_136 rfl ?_
            refine jm_getF (k := 9) (ki := 9) rfl cf_X6 (Nat.le_of_ble_eq_true rfl) f_X6_40 d_X6_add_137 rfl rfl f1 (fc_6_9 f1) ?_
            refine jm_iloadn d_X6_add_140 rfl ?_
            refine jm_iload d_X6_add_141 rfl ?_
            refine jm_iconst (v := 3) d_X6_add_143 rfl (jm_okI (by decide) (by decide)) ?_
            refine jm_icmp_gt (tgt := 152) d_X6_add_144 (by decide) (fun c51 => ?_) (fun c51 => ?_)
            · have h := h.1 c51
              refine jm_iload d_X6_add_152 rfl ?_
              refine jm_iconst (v := 1) d_X6_add_154 rfl (jm_okI (by decide) (by decide)) ?_
              refine jm_iadd d_X6_add_155 ?_
              refine jm_iastore d_X6_add_156 (xc_6_9 f1 f45.1 f45.2) ?_
              have h := h _ rfl
              refine jm_goto (tgt := 193) d_X6_add_157 (by decide) ?_
              refine jm_aloadn d_X6_add_193 rfl ?_
              refine jm_dup rfl d_X6_add_194 ?_
              refine jm_getI (k := 1) (ki := 1) cf_X6 (Nat.le_of_ble_eq_true rfl) f_X6_43 d_X6_add_195 rfl rfl f1 rfl ?_
              refine jm_iconst (v := 1) d_X6_add_198 rfl (jm_okI (by decide) (by decide)) ?_
              refine jm_iadd d_X6_add_199 ?_
              refine jm_putI (k := 1) (ki := 1) cf_X6 (Nat.le_of_ble_eq_true rfl) f_X6_43 d_X6_add_200 (fun z => absurd z (by decide)) rfl rfl rfl (fun _ => rfl) f1 ?_
              exact jm_ret (o := none) d_X6_add_203 rfl ⟨Nat.le_refl _, Nat.le_refl _⟩ jm_r_V h rfl
            · have h := h.2 c51
              refine jm_iload d_X6_add_147 rfl ?_
              refine jm_goto (tgt := 156) d_X6_add_149 (by decide) ?_
              refine jm_iastore d_X6_add_156 (xc_6_9 f1 f45.1 f45.2) ?_
              have h := h _ rfl
              refine jm_goto (tgt := 193) d_X6_add_157 (by decide) ?_
              refine jm_aloadn d_X6_add_193 rfl ?_
              refine jm_dup rfl d_X6_add_194 ?_
              refine jm_getI (k := 1) (ki := 1) cf_X6 (Nat.le_of_ble_eq_true rfl) f_X6_43 d_X6_add_195 rfl rfl f1 rfl ?_
              refine jm_iconst (v := 1) d_X6_add_198 rfl (jm_okI (by decide) (by decide)) ?_
              refine jm_iadd d_X6_add_199 ?_
              refine jm_putI (k := 1) (ki := 1) cf_X6 (Nat.le_of_ble_eq_true rfl) f_X6_43 d_X6_add_200 (fun z => absurd z (by decide)) rfl rfl rfl (fun _ => rfl) f1 ?_
              exact jm_ret (o := none) d_X6_add_203 rfl ⟨Nat.le_refl _, Nat.le_refl _⟩ jm_r_V h rfl
    · have h := h.2 c14
      refine jm_iconst (v := 1) d_X6_add_74 rfl (jm_okI (by decide) (by decide)) ?_
      refine jm_goto (tgt := 89) d_X6_add_75 (by decide) ?_
      obtain ⟨f54, h⟩ := h
      refine jm_iastore d_X6_add_89 (xc_6_9 f1 f54.1 f54.2) ?_
      have h := h _ rfl
      refine jm_aloadn d_X6_add_90 rfl ?_
      refine jm_iloadn d_X6_add_91 rfl ?_
      refine jm_invV (n1 := jm_N) (mc := 0) (ms := 0) (av := [jm_I _]) w_X6_has l_X6_61 d_X6_add_92 rfl f1 ⟨_, _, rfl⟩ ⟨Nat.le_refl _, Nat.le_refl _⟩ (Nat.le_of_ble_eq_true rfl) rfl ?_
      refine jm_Cl.mono h (fun o m56 h hr _ => ?_)
      obtain ⟨r57, rfl, z58⟩ := jm_rokZ hr
      have h := h _ rfl z58
      refine jm_if_eq (tgt := 160) d_X6_add_95 (by decide) (fun c59 => ?_) (fun c59 => ?_)
      · have h := h.1 c59
        refine jm_aloadn d_X6_add_160 rfl ?_
        refine jm_getF (k := 7) (ki := 7) rfl cf_X6 (Nat.le_of_ble_eq_true rfl) f_X6_34 d_X6_add_161 rfl rfl f1 (fc_6_7 f1) ?_
        refine jm_aloadn d_X6_add_164 rfl ?_
        refine jm_getI (k := 1) (ki := 1) cf_X6 (Nat.le_of_ble_eq_true rfl) f_X6_43 d_X6_add_165 rfl rfl f1 rfl ?_
        refine jm_aloadn d_X6_add_168 rfl ?_
        refine jm_getI (k := 2) (ki := 2) cf_X6 (Nat.le_of_ble_eq_true rfl) f_X6_47 d_X6_add_169 rfl rfl f1 rfl ?_
        obtain ⟨f60, h⟩ := h
        refine jm_iastore d_X6_add_172 (xc_6_7 f1 f60.1 f60.2) ?_
        have h := h _ rfl
        refine jm_aloadn d_X6_add_173 rfl ?_
        refine jm_getF (k := 8) (ki := 8) rfl cf_X6 (Nat.le_of_ble_eq_true rfl) f_X6_37 d_X6_add_174 rfl rfl f1 (fc_6_8 f1) ?_
        refine jm_aloadn d_X6_add_177 rfl ?_
        refine jm_getI (k := 1) (ki := 1) cf_X6 (Nat.le_of_ble_eq_true rfl) f_X6_43 d_X6_add_178 rfl rfl f1 rfl ?_
        refine jm_iconst (v := 0) d_X6_add_181 rfl (jm_okI (by decide) (by decide)) ?_
        obtain ⟨f62, h⟩ := h
        refine jm_iastore d_X6_add_182 (xc_6_8 f1 f62.1 f62.2) ?_
        have h := h _ rfl
        refine jm_aloadn d_X6_add_183 rfl ?_
        refine jm_dup rfl d_X6_add_184 ?_
        refine jm_getI (k := 2) (ki := 2) cf_X6 (Nat.le_of_ble_eq_true rfl) f_X6_47 d_X6_add_185 rfl rfl f1 rfl ?_
        refine jm_iconst (v := 1) d_X6_add_188 rfl (jm_okI (by decide) (by decide)) ?_
        refine jm_iadd d_X6_add_189 ?_
        refine jm_putI (k := 2) (ki := 2) cf_X6 (Nat.le_of_ble_eq_true rfl) f_X6_47 d_X6_add_190 (fun z => absurd z (by decide)) rfl rfl rfl (fun _ => rfl) f1 ?_
        refine jm_aloadn d_X6_add_193 rfl ?_
        refine jm_dup rfl d_X6_add_194 ?_
        refine jm_getI (k := 1) (ki := 1) cf_X6 (Nat.le_of_ble_eq_true rfl) f_X6_43 d_X6_add_195 rfl rfl f1 ((jm_up_i (by decide)).trans rfl) ?_
        refine jm_iconst (v := 1) d_X6_add_198 rfl (jm_okI (by decide) (by decide)) ?_
        refine jm_iadd d_X6_add_199 ?_
        refine jm_putI (k := 1) (ki := 1) cf_X6 (Nat.le_of_ble_eq_true rfl) f_X6_43 d_X6_add_200 (fun z => absurd z (by decide)) rfl rfl rfl (fun _ => rfl) f1 ?_
        exact jm_ret (o := none) d_X6_add_203 rfl ⟨Nat.le_refl _, Nat.le_refl _⟩ jm_r_V h rfl
      · have h := h.2 c59
        refine jm_aloadn d_X6_add_98 rfl ?_
        refine jm_getF (k := 7) (ki := 7) rfl cf_X6 (Nat.le_of_ble_eq_true rfl) f_X6_34 d_X6_add_99 rfl rfl f1 (fc_6_7 f1) ?_
        refine jm_aloadn d_X6_add_102 rfl ?_
        refine jm_getI (k := 1) (ki := 1) cf_X6 (Nat.le_of_ble_eq_true rfl) f_X6_43 d_X6_add_103 rfl rfl f1 rfl ?_
        refine jm_aloadn d_X6_add_106 rfl ?_
        refine jm_getF (k := 7) (ki := 7) rfl cf_X6 (Nat.le_of_ble_eq_true rfl) f_X6_34 d_X6_add_107 rfl rfl f1 (fc_6_7 f1) ?_
        refine jm_iloadn d_X6_add_110 rfl ?_
        obtain ⟨f64, h⟩ := h
        refine jm_iaload d_X6_add_111 (xc_6_7 f1 f64.1 f64.2) ?_
        obtain ⟨f65, h⟩ := h
        refine jm_iastore d_X6_add_112 (xc_6_7 f1 f65.1 f65.2) ?_
        have h := h _ rfl
        refine jm_aloadn d_X6_add_113 rfl ?_
        refine jm_getF (k := 8) (ki := 8) rfl cf_X6 (Nat.le_of_ble_eq_true rfl) f_X6_37 d_X6_add_114 rfl rfl f1 (fc_6_8 f1) ?_
        refine jm_aloadn d_X6_add_117 rfl ?_
        refine jm_getI (k := 1) (ki := 1) cf_X6 (Nat.le_of_ble_eq_true rfl) f_X6_43 d_X6_add_118 rfl rfl f1 rfl ?_
        refine jm_aloadn d_X6_add_121 rfl ?_
        refine jm_getF (k := 8) (ki := 8) rfl cf_X6 (Nat.le_of_ble_eq_true rfl) f_X6_37 d_X6_add_122 rfl rfl f1 (fc_6_8 f1) ?_
        refine jm_iloadn d_X6_add_125 rfl ?_
        refine jm_iaload d_X6_add_126 (xc_6_8 f1 f64.1 f64.2) ?_
        refine jm_iconst (v := 1) d_X6_add_127 rfl (jm_okI (by decide) (by decide)) ?_
        refine jm_iadd d_X6_add_128 ?_
        obtain ⟨f67, h⟩ := h
        refine jm_iastore d_X6_add_129 (xc_6_8 f1 f67.1 f67.2) ?_
        have h := h _ rfl
        refine jm_iload d_X6_add_130 rfl ?_
        refine jm_iconst (v := 2) d_X6_add_132 rfl (jm_okI (by decide) (by decide)) ?_
        refine jm_icmp_lt (tgt := 193) d_X6_add_133 (by decide) (fun c69 => ?_) (fun c69 => ?_)
        · have h := h.1 c69
          refine jm_aloadn d_X6_add_193 rfl ?_
          refine jm_dup rfl d_X6_add_194 ?_
          refine jm_getI (k := 1) (ki := 1) cf_X6 (Nat.le_of_ble_eq_true rfl) f_X6_43 d_X6_add_195 rfl rfl f1 rfl ?_
          refine jm_iconst (v := 1) d_X6_add_198 rfl (jm_okI (by decide) (by decide)) ?_
          refine jm_iadd d_X6_add_199 ?_
          refine jm_putI (k := 1) (ki := 1) cf_X6 (Nat.le_of_ble_eq_true rfl) f_X6_43 d_X6_add_200 (fun z => absurd z (by decide)) rfl rfl rfl (fun _ => rfl) f1 ?_
          exact jm_ret (o := none) d_X6_add_203 rfl ⟨Nat.le_refl _, Nat.le_refl _⟩ jm_r_V h rfl
        · have h := h.2 c69
          refine jm_aloadn d_X6_add_136 rfl ?_
          refine jm_getF (k := 9) (ki := 9) rfl cf_X6 (Nat.le_of_ble_eq_true rfl) f_X6_40 d_X6_add_137 rfl rfl f1 (fc_6_9 f1) ?_
          refine jm_iloadn d_X6_add_140 rfl ?_
          refine jm_iload d_X6_add_141 rfl ?_
          refine jm_iconst (v := 3) d_X6_add_143 rfl (jm_okI (by decide) (by decide)) ?_
          refine jm_icmp_gt (tgt := 152) d_X6_add_144 (by decide) (fun c70 => ?_) (fun c70 => ?_)
          · have h := h.1 c70
            refine jm_iload d_X6_add_152 rfl ?_
            refine jm_iconst (v := 1) d_X6_add_154 rfl (jm_okI (by decide) (by decide)) ?_
            refine jm_iadd d_X6_add_155 ?_
            refine jm_iastore d_X6_add_156 (xc_6_9 f1 f64.1 f64.2) ?_
            have h := h _ rfl
            refine jm_goto (tgt := 193) d_X6_add_157 (by decide) ?_
            refine jm_aloadn d_X6_add_193 rfl ?_
            refine jm_dup rfl d_X6_add_194 ?_
            refine jm_getI (k := 1) (ki := 1) cf_X6 (Nat.le_of_ble_eq_true rfl) f_X6_43 d_X6_add_195 rfl rfl f1 rfl ?_
            refine jm_iconst (v := 1) d_X6_add_198 rfl (jm_okI (by decide) (by decide)) ?_
            refine jm_iadd d_X6_add_199 ?_
            refine jm_putI (k := 1) (ki := 1) cf_X6 (Nat.le_of_ble_eq_true rfl) f_X6_43 d_X6_add_200 (fun z => absurd z (by decide)) rfl rfl rfl (fun _ => rfl) f1 ?_
            exact jm_ret (o := none) d_X6_add_203 rfl ⟨Nat.le_refl _, Nat.le_refl _⟩ jm_r_V h rfl
          · have h := h.2 c70
            refine jm_iload d_X6_add_147 rfl ?_
            refine jm_goto (tgt := 156) d_X6_add_149 (by decide) ?_
            refine jm_iastore d_X6_add_156 (xc_6_9 f1 f64.1 f64.2) ?_
            have h := h _ rfl
            refine jm_goto (tgt := 193) d_X6_add_157 (by decide) ?_
            refine jm_aloadn d_X6_add_193 rfl ?_
            refine jm_dup rfl d_X6_add_194 ?_
            refine jm_getI (k := 1) (ki := 1) cf_X6 (Nat.le_of_ble_eq_true rfl) f_X6_43 d_X6_add_195 rfl rfl f1 rfl ?_
            refine jm_iconst (v := 1) d_X6_add_198 rfl (jm_okI (by decide) (by decide)) ?_
            refine jm_iadd d_X6_add_199 ?_
            refine jm_putI (k := 1) (ki := 1) cf_X6 (Nat.le_of_ble_eq_true rfl) f_X6_43 d_X6_add_200 (fun z => absurd z (by decide)) rfl rfl rfl (fun _ => rfl) f1 ?_
            exact jm_ret (o := none) d_X6_add_203 rfl ⟨Nat.le_refl _, Nat.le_refl _⟩ jm_r_V h rfl
  · have h := h.2 c2
    exact jm_ret (o := none) d_X6_add_12 rfl ⟨Nat.le_refl _, Nat.le_refl _⟩ jm_r_V h rfl
/-! ('CombTable$Talk', 'takeBack', '()V') -/
theorem d_X6_takeBack_0 : decode m_X6_takeBack.2.1 0 = .ok (.aload_n 0, 1) := by decide +kernel
theorem d_X6_takeBack_1 : decode m_X6_takeBack.2.1 1 = .ok (.getfield 43, 3) := by decide +kernel
theorem d_X6_takeBack_4 : decode m_X6_takeBack.2.1 4 = .ok (.ifCond .le 15, 3) := by decide +kernel
theorem d_X6_takeBack_7 : decode m_X6_takeBack.2.1 7 = .ok (.aload_n 0, 1) := by decide +kernel
theorem d_X6_takeBack_8 : decode m_X6_takeBack.2.1 8 = .ok (.getfield 43, 3) := by decide +kernel
theorem d_X6_takeBack_11 : decode m_X6_takeBack.2.1 11 = .ok (.aload_n 0, 1) := by decide +kernel
theorem d_X6_takeBack_12 : decode m_X6_takeBack.2.1 12 = .ok (.getfield 24, 3) := by decide +kernel
theorem d_X6_takeBack_15 : decode m_X6_takeBack.2.1 15 = .ok (.arraylength, 1) := by decide +kernel
theorem d_X6_takeBack_16 : decode m_X6_takeBack.2.1 16 = .ok (.if_icmp .le 4, 3) := by decide +kernel
theorem d_X6_takeBack_19 : decode m_X6_takeBack.2.1 19 = .ok (.return_, 1) := by decide +kernel
theorem d_X6_takeBack_20 : decode m_X6_takeBack.2.1 20 = .ok (.aload_n 0, 1) := by decide +kernel
theorem d_X6_takeBack_21 : decode m_X6_takeBack.2.1 21 = .ok (.dup, 1) := by decide +kernel
theorem d_X6_takeBack_22 : decode m_X6_takeBack.2.1 22 = .ok (.getfield 43, 3) := by decide +kernel
theorem d_X6_takeBack_25 : decode m_X6_takeBack.2.1 25 = .ok (.iconst 1, 1) := by decide +kernel
theorem d_X6_takeBack_26 : decode m_X6_takeBack.2.1 26 = .ok (.isub, 1) := by decide +kernel
theorem d_X6_takeBack_27 : decode m_X6_takeBack.2.1 27 = .ok (.putfield 43, 3) := by decide +kernel
theorem d_X6_takeBack_30 : decode m_X6_takeBack.2.1 30 = .ok (.aload_n 0, 1) := by decide +kernel
theorem d_X6_takeBack_31 : decode m_X6_takeBack.2.1 31 = .ok (.getfield 31, 3) := by decide +kernel
theorem d_X6_takeBack_34 : decode m_X6_takeBack.2.1 34 = .ok (.aload_n 0, 1) := by decide +kernel
theorem d_X6_takeBack_35 : decode m_X6_takeBack.2.1 35 = .ok (.getfield 43, 3) := by decide +kernel
theorem d_X6_takeBack_38 : decode m_X6_takeBack.2.1 38 = .ok (.iaload, 1) := by decide +kernel
theorem d_X6_takeBack_39 : decode m_X6_takeBack.2.1 39 = .ok (.istore_n 1, 1) := by decide +kernel
theorem d_X6_takeBack_40 : decode m_X6_takeBack.2.1 40 = .ok (.aload_n 0, 1) := by decide +kernel
theorem d_X6_takeBack_41 : decode m_X6_takeBack.2.1 41 = .ok (.iload_n 1, 1) := by decide +kernel
theorem d_X6_takeBack_42 : decode m_X6_takeBack.2.1 42 = .ok (.invokevirtual 61, 3) := by decide +kernel
theorem d_X6_takeBack_45 : decode m_X6_takeBack.2.1 45 = .ok (.ifCond .ne 14, 3) := by decide +kernel
theorem d_X6_takeBack_48 : decode m_X6_takeBack.2.1 48 = .ok (.aload_n 0, 1) := by decide +kernel
theorem d_X6_takeBack_49 : decode m_X6_takeBack.2.1 49 = .ok (.dup, 1) := by decide +kernel
theorem d_X6_takeBack_50 : decode m_X6_takeBack.2.1 50 = .ok (.getfield 47, 3) := by decide +kernel
theorem d_X6_takeBack_53 : decode m_X6_takeBack.2.1 53 = .ok (.iconst 1, 1) := by decide +kernel
theorem d_X6_takeBack_54 : decode m_X6_takeBack.2.1 54 = .ok (.isub, 1) := by decide +kernel
theorem d_X6_takeBack_55 : decode m_X6_takeBack.2.1 55 = .ok (.putfield 47, 3) := by decide +kernel
theorem d_X6_takeBack_58 : decode m_X6_takeBack.2.1 58 = .ok (.return_, 1) := by decide +kernel
theorem d_X6_takeBack_59 : decode m_X6_takeBack.2.1 59 = .ok (.aload_n 0, 1) := by decide +kernel
theorem d_X6_takeBack_60 : decode m_X6_takeBack.2.1 60 = .ok (.getfield 18, 3) := by decide +kernel
theorem d_X6_takeBack_63 : decode m_X6_takeBack.2.1 63 = .ok (.aload_n 0, 1) := by decide +kernel
theorem d_X6_takeBack_64 : decode m_X6_takeBack.2.1 64 = .ok (.getfield 28, 3) := by decide +kernel
theorem d_X6_takeBack_67 : decode m_X6_takeBack.2.1 67 = .ok (.aload_n 0, 1) := by decide +kernel
theorem d_X6_takeBack_68 : decode m_X6_takeBack.2.1 68 = .ok (.getfield 43, 3) := by decide +kernel
theorem d_X6_takeBack_71 : decode m_X6_takeBack.2.1 71 = .ok (.iaload, 1) := by decide +kernel
theorem d_X6_takeBack_72 : decode m_X6_takeBack.2.1 72 = .ok (.invokevirtual 85, 3) := by decide +kernel
theorem d_X6_takeBack_75 : decode m_X6_takeBack.2.1 75 = .ok (.istore_n 2, 1) := by decide +kernel
theorem d_X6_takeBack_76 : decode m_X6_takeBack.2.1 76 = .ok (.iload_n 2, 1) := by decide +kernel
theorem d_X6_takeBack_77 : decode m_X6_takeBack.2.1 77 = .ok (.iconst 2, 1) := by decide +kernel
theorem d_X6_takeBack_78 : decode m_X6_takeBack.2.1 78 = .ok (.if_icmp .lt 19, 3) := by decide +kernel
theorem d_X6_takeBack_81 : decode m_X6_takeBack.2.1 81 = .ok (.aload_n 0, 1) := by decide +kernel
theorem d_X6_takeBack_82 : decode m_X6_takeBack.2.1 82 = .ok (.getfield 40, 3) := by decide +kernel
theorem d_X6_takeBack_85 : decode m_X6_takeBack.2.1 85 = .ok (.iload_n 1, 1) := by decide +kernel
theorem d_X6_takeBack_86 : decode m_X6_takeBack.2.1 86 = .ok (.iload_n 2, 1) := by decide +kernel
theorem d_X6_takeBack_87 : decode m_X6_takeBack.2.1 87 = .ok (.iconst 3, 1) := by decide +kernel
theorem d_X6_takeBack_88 : decode m_X6_takeBack.2.1 88 = .ok (.if_icmp .gt 7, 3) := by decide +kernel
theorem d_X6_takeBack_91 : decode m_X6_takeBack.2.1 91 = .ok (.iconst 1, 1) := by decide +kernel
theorem d_X6_takeBack_92 : decode m_X6_takeBack.2.1 92 = .ok (.goto 4, 3) := by decide +kernel
theorem d_X6_takeBack_95 : decode m_X6_takeBack.2.1 95 = .ok (.iconst 4, 1) := by decide +kernel
theorem d_X6_takeBack_96 : decode m_X6_takeBack.2.1 96 = .ok (.iastore, 1) := by decide +kernel
theorem d_X6_takeBack_97 : decode m_X6_takeBack.2.1 97 = .ok (.return_, 1) := by decide +kernel
set_option maxRecDepth 20000 in
theorem e_X6_takeBack {E : jm_E} {d : Nat} {μ : jm_M} {Q : Option jm_V → jm_M → Prop} {v0 : Int} (h : (∀ v ∈ ([jm_R v0] : List jm_V), jm_ok v) →
  (jm_is jm_N v0 1 6) ∧
  ((μ v0 1 ≤ 0 →
    Q none μ) ∧
   (¬ (μ v0 1 ≤ 0) →
    ((μ v0 1 ≤ ((jm_sn ((v0 + 10)) : Int)) →
      (0 ≤ jm_wr ((μ v0 1) - 1) ∧ jm_wr ((μ v0 1) - 1) < (jm_sn (v0 + 10) : Int)) ∧
      ∀ x5 : Int, x5 = μ ((v0 + 12)) (jm_wr ((μ v0 1) - 1)) →
      jc E m_X6_has d [jm_R v0, jm_I x5] (jm_up μ v0 1 (jm_wr ((μ v0 1) - 1))) (fun (o : Option jm_V) (m6 : jm_M) => ∀ r7 : Int, o = some (jm_I r7) → (r7 = 0 ∨ r7 = 1) →
      ((r7 ≠ 0 →
        (0 ≤ m6 v0 1 ∧ m6 v0 1 < (jm_sn (v0 + 10) : Int)) ∧
        (jm_is jm_N (m6 v0 0) 1 5) ∧
        jc E m_X5_doingOf d [jm_R (m6 v0 0), jm_I (m6 ((v0 + 11)) (m6 v0 1))] m6 (fun (o : Option jm_V) (m11 : jm_M) => ∀ r13 : Int, o = some (jm_I r13) →
        ((r13 < 2 →
          Q none m11) ∧
         (¬ (r13 < 2) →
          ((3 < r13 →
            (0 ≤ x5 ∧ x5 < (jm_sn (v0 + 10) : Int)) ∧
            ∀ m17 : jm_M, m17 = (jm_up m11 ((v0 + 15)) x5 4) →
            Q none m17) ∧
           (¬ (3 < r13) →
            (0 ≤ x5 ∧ x5 < (jm_sn (v0 + 10) : Int)) ∧
            ∀ m19 : jm_M, m19 = (jm_up m11 ((v0 + 15)) x5 1) →
            Q none m19)))))) ∧
       (¬ (r7 ≠ 0) →
        Q none (jm_up m6 v0 2 (jm_wr ((m6 v0 2) - 1))))))) ∧
     (¬ (μ v0 1 ≤ ((jm_sn ((v0 + 10)) : Int))) →
      Q none μ))))) : jc E m_X6_takeBack (d + 1) [jm_R v0] μ Q := by
  refine jm_Cl.of2 (by decide +kernel) (L0 := [some (jm_R v0), none, none]) rfl (Nat.le_of_ble_eq_true rfl) (fun hok => ?_)
  have h := h hok
  refine jm_aloadn d_X6_takeBack_0 rfl ?_
  obtain ⟨f1, h⟩ := h
  refine jm_getI (k := 1) (ki := 1) cf_X6 (Nat.le_of_ble_eq_true rfl) f_X6_43 d_X6_takeBack_1 rfl rfl f1 rfl ?_
  refine jm_if_le (tgt := 19) d_X6_takeBack_4 (by decide) (fun c2 => ?_) (fun c2 => ?_)
  · have h := h.1 c2
    exact jm_ret (o := none) d_X6_takeBack_19 rfl ⟨Nat.le_refl _, Nat.le_refl _⟩ jm_r_V h rfl
  · have h := h.2 c2
    refine jm_aloadn d_X6_takeBack_7 rfl ?_
    refine jm_getI (k := 1) (ki := 1) cf_X6 (Nat.le_of_ble_eq_true rfl) f_X6_43 d_X6_takeBack_8 rfl rfl f1 rfl ?_
    refine jm_aloadn d_X6_takeBack_11 rfl ?_
    refine jm_getF (k := 4) (ki := 4) rfl cf_X6 (Nat.le_of_ble_eq_true rfl) f_X6_24 d_X6_takeBack_12 rfl rfl f1 (fc_6_4 f1) ?_
    refine jm_alen (Or.inl rfl) (ac_6_4 f1) d_X6_takeBack_15 ?_
    refine jm_icmp_le (tgt := 20) d_X6_takeBack_16 (by decide) (fun c3 => ?_) (fun c3 => ?_)
    · have h := h.1 c3
      refine jm_aloadn d_X6_takeBack_20 rfl ?_
      refine jm_dup rfl d_X6_takeBack_21 ?_
      refine jm_getI (k := 1) (ki := 1) cf_X6 (Nat.le_of_ble_eq_true rfl) f_X6_43 d_X6_takeBack_22 rfl rfl f1 rfl ?_
      refine jm_iconst (v := 1) d_X6_takeBack_25 rfl (jm_okI (by decide) (by decide)) ?_
      refine jm_isub d_X6_takeBack_26 ?_
      refine jm_putI (k := 1) (ki := 1) cf_X6 (Nat.le_of_ble_eq_true rfl) f_X6_43 d_X6_takeBack_27 (fun z => absurd z (by decide)) rfl rfl rfl (fun _ => rfl) f1 ?_
      refine jm_aloadn d_X6_takeBack_30 rfl ?_
      refine jm_getF (k := 6) (ki := 6) rfl cf_X6 (Nat.le_of_ble_eq_true rfl) f_X6_31 d_X6_takeBack_31 rfl rfl f1 (fc_6_6 f1) ?_
      refine jm_aloadn d_X6_takeBack_34 rfl ?_
      refine jm_getI (k := 1) (ki := 1) cf_X6 (Nat.le_of_ble_eq_true rfl) f_X6_43 d_X6_takeBack_35 rfl rfl f1 jm_up_at ?_
      obtain ⟨f4, h⟩ := h
      refine jm_ialoadv d_X6_takeBack_38 (xc_6_6 f1 f4.1 f4.2) ((jm_up_lj (by omega)).trans rfl) ?_
      have h := h _ rfl
      refine jm_istoren (L' := [some (jm_R _), some (jm_I _), none]) d_X6_takeBack_39 (Nat.le_of_ble_eq_true rfl) rfl ?_
      refine jm_aloadn d_X6_takeBack_40 rfl ?_
      refine jm_iloadn d_X6_takeBack_41 rfl ?_
      refine jm_invV (n1 := jm_N) (mc := 0) (ms := 0) (av := [jm_I _]) w_X6_has l_X6_61 d_X6_takeBack_42 rfl f1 ⟨_, _, rfl⟩ ⟨Nat.le_refl _, Nat.le_refl _⟩ (Nat.le_of_ble_eq_true rfl) rfl ?_
      refine jm_Cl.mono h (fun o m6 h hr _ => ?_)
      obtain ⟨r7, rfl, z8⟩ := jm_rokZ hr
      have h := h _ rfl z8
      refine jm_if_ne (tgt := 59) d_X6_takeBack_45 (by decide) (fun c9 => ?_) (fun c9 => ?_)
      · have h := h.1 c9
        refine jm_aloadn d_X6_takeBack_59 rfl ?_
        refine jm_getR (k := 0) (ki := 0) cf_X6 (Nat.le_of_ble_eq_true rfl) f_X6_18 d_X6_takeBack_60 rfl rfl f1 rfl ?_
        refine jm_aloadn d_X6_takeBack_63 rfl ?_
        refine jm_getF (k := 5) (ki := 5) rfl cf_X6 (Nat.le_of_ble_eq_true rfl) f_X6_28 d_X6_takeBack_64 rfl rfl f1 (fc_6_5 f1) ?_
        refine jm_aloadn d_X6_takeBack_67 rfl ?_
        refine jm_getI (k := 1) (ki := 1) cf_X6 (Nat.le_of_ble_eq_true rfl) f_X6_43 d_X6_takeBack_68 rfl rfl f1 rfl ?_
        obtain ⟨f10, h⟩ := h
        refine jm_iaload d_X6_takeBack_71 (xc_6_5 f1 f10.1 f10.2) ?_
        obtain ⟨f12, h⟩ := h
        refine jm_invV (n1 := jm_N) (mc := 0) (ms := 0) (av := [jm_I _]) w_X5_doingOf l_X6_85 d_X6_takeBack_72 rfl f12 ⟨_, _, rfl⟩ ⟨Nat.le_refl _, Nat.le_refl _⟩ (Nat.le_of_ble_eq_true rfl) rfl ?_
        refine jm_Cl.mono h (fun o m11 h hr _ => ?_)
        obtain ⟨r13, rfl⟩ := jm_rokI hr
        have h := h _ rfl
        refine jm_istoren (L' := [some (jm_R _), some (jm_I _), some (jm_I _)]) d_X6_takeBack_75 (Nat.le_of_ble_eq_true rfl) rfl ?_
        refine jm_iloadn d_X6_takeBack_76 rfl ?_
        refine jm_iconst (v := 2) d_X6_takeBack_77 rfl (jm_okI (by decide) (by decide)) ?_
        refine jm_icmp_lt (tgt := 97) d_X6_takeBack_78 (by decide) (fun c14 => ?_) (fun c14 => ?_)
        · have h := h.1 c14
          exact jm_ret (o := none) d_X6_takeBack_97 rfl ⟨Nat.le_refl _, Nat.le_refl _⟩ jm_r_V h rfl
        · have h := h.2 c14
          refine jm_aloadn d_X6_takeBack_81 rfl ?_
          refine jm_getF (k := 9) (ki := 9) rfl cf_X6 (Nat.le_of_ble_eq_true rfl) f_X6_40 d_X6_takeBack_82 rfl rfl f1 (fc_6_9 f1) ?_
          refine jm_iloadn d_X6_takeBack_85 rfl ?_
          refine jm_iloadn d_X6_takeBack_86 rfl ?_
          refine jm_iconst (v := 3) d_X6_takeBack_87 rfl (jm_okI (by decide) (by decide)) ?_
          refine jm_icmp_gt (tgt := 95) d_X6_takeBack_88 (by decide) (fun c15 => ?_) (fun c15 => ?_)
          · have h := h.1 c15
            refine jm_iconst (v := 4) d_X6_takeBack_95 rfl (jm_okI (by decide) (by decide)) ?_
            obtain ⟨f16, h⟩ := h
            refine jm_iastore d_X6_takeBack_96 (xc_6_9 f1 f16.1 f16.2) ?_
            have h := h _ rfl
            exact jm_ret (o := none) d_X6_takeBack_97 rfl ⟨Nat.le_refl _, Nat.le_refl _⟩ jm_r_V h rfl
          · have h := h.2 c15
            refine jm_iconst (v := 1) d_X6_takeBack_91 rfl (jm_okI (by decide) (by decide)) ?_
            refine jm_goto (tgt := 96) d_X6_takeBack_92 (by decide) ?_
            obtain ⟨f18, h⟩ := h
            refine jm_iastore d_X6_takeBack_96 (xc_6_9 f1 f18.1 f18.2) ?_
            have h := h _ rfl
            exact jm_ret (o := none) d_X6_takeBack_97 rfl ⟨Nat.le_refl _, Nat.le_refl _⟩ jm_r_V h rfl
      · have h := h.2 c9
        refine jm_aloadn d_X6_takeBack_48 rfl ?_
        refine jm_dup rfl d_X6_takeBack_49 ?_
        refine jm_getI (k := 2) (ki := 2) cf_X6 (Nat.le_of_ble_eq_true rfl) f_X6_47 d_X6_takeBack_50 rfl rfl f1 rfl ?_
        refine jm_iconst (v := 1) d_X6_takeBack_53 rfl (jm_okI (by decide) (by decide)) ?_
        refine jm_isub d_X6_takeBack_54 ?_
        refine jm_putI (k := 2) (ki := 2) cf_X6 (Nat.le_of_ble_eq_true rfl) f_X6_47 d_X6_takeBack_55 (fun z => absurd z (by decide)) rfl rfl rfl (fun _ => rfl) f1 ?_
        exact jm_ret (o := none) d_X6_takeBack_58 rfl ⟨Nat.le_refl _, Nat.le_refl _⟩ jm_r_V h rfl
    · have h := h.2 c3
      exact jm_ret (o := none) d_X6_takeBack_19 rfl ⟨Nat.le_refl _, Nat.le_refl _⟩ jm_r_V h rfl
/-! ('CombTable$Talk', 'nextOnes', '()I') -/
theorem d_X6_nextOnes_0 : decode m_X6_nextOnes.2.1 0 = .ok (.iconst 0, 1) := by decide +kernel
theorem d_X6_nextOnes_1 : decode m_X6_nextOnes.2.1 1 = .ok (.istore_n 1, 1) := by decide +kernel
theorem d_X6_nextOnes_2 : decode m_X6_nextOnes.2.1 2 = .ok (.iconst 0, 1) := by decide +kernel
theorem d_X6_nextOnes_3 : decode m_X6_nextOnes.2.1 3 = .ok (.istore_n 2, 1) := by decide +kernel
theorem d_X6_nextOnes_4 : decode m_X6_nextOnes.2.1 4 = .ok (.iload_n 2, 1) := by decide +kernel
theorem d_X6_nextOnes_5 : decode m_X6_nextOnes.2.1 5 = .ok (.aload_n 0, 1) := by decide +kernel
theorem d_X6_nextOnes_6 : decode m_X6_nextOnes.2.1 6 = .ok (.getfield 18, 3) := by decide +kernel
theorem d_X6_nextOnes_9 : decode m_X6_nextOnes.2.1 9 = .ok (.getfield 104, 3) := by decide +kernel
theorem d_X6_nextOnes_12 : decode m_X6_nextOnes.2.1 12 = .ok (.if_icmp .ge 20, 3) := by decide +kernel
theorem d_X6_nextOnes_15 : decode m_X6_nextOnes.2.1 15 = .ok (.iload_n 1, 1) := by decide +kernel
theorem d_X6_nextOnes_16 : decode m_X6_nextOnes.2.1 16 = .ok (.aload_n 0, 1) := by decide +kernel
theorem d_X6_nextOnes_17 : decode m_X6_nextOnes.2.1 17 = .ok (.iload_n 2, 1) := by decide +kernel
theorem d_X6_nextOnes_18 : decode m_X6_nextOnes.2.1 18 = .ok (.invokevirtual 107, 3) := by decide +kernel
theorem d_X6_nextOnes_21 : decode m_X6_nextOnes.2.1 21 = .ok (.invokestatic 110, 3) := by decide +kernel
theorem d_X6_nextOnes_24 : decode m_X6_nextOnes.2.1 24 = .ok (.iadd, 1) := by decide +kernel
theorem d_X6_nextOnes_25 : decode m_X6_nextOnes.2.1 25 = .ok (.istore_n 1, 1) := by decide +kernel
theorem d_X6_nextOnes_26 : decode m_X6_nextOnes.2.1 26 = .ok (.iinc 2 1, 3) := by decide +kernel
theorem d_X6_nextOnes_29 : decode m_X6_nextOnes.2.1 29 = .ok (.goto (-25), 3) := by decide +kernel
theorem d_X6_nextOnes_32 : decode m_X6_nextOnes.2.1 32 = .ok (.iload_n 1, 1) := by decide +kernel
theorem d_X6_nextOnes_33 : decode m_X6_nextOnes.2.1 33 = .ok (.ireturn, 1) := by decide +kernel
set_option maxRecDepth 20000 in
theorem e_X6_nextOnes {E : jm_E} {d : Nat} {μ : jm_M} {Q : Option jm_V → jm_M → Prop} {v0 : Int} (h : (∀ v ∈ ([jm_R v0] : List jm_V), jm_ok v) →
  jg E m_X6_nextOnes d 4 [some (jm_R v0), some (jm_I 0), some (jm_I 0)] [] μ Q) : jc E m_X6_nextOnes (d + 1) [jm_R v0] μ Q := by
  refine jm_Cl.of2 (by decide +kernel) (L0 := [some (jm_R v0), none, none]) rfl (Nat.le_of_ble_eq_true rfl) (fun hok => ?_)
  have h := h hok
  refine jm_iconst (v := 0) d_X6_nextOnes_0 rfl (jm_okI (by decide) (by decide)) ?_
  refine jm_istoren (L' := [some (jm_R _), some (jm_I _), none]) d_X6_nextOnes_1 (Nat.le_of_ble_eq_true rfl) rfl ?_
  refine jm_iconst (v := 0) d_X6_nextOnes_2 rfl (jm_okI (by decide) (by decide)) ?_
  refine jm_istoren (L' := [some (jm_R _), some (jm_I _), some (jm_I _)]) d_X6_nextOnes_3 (Nat.le_of_ble_eq_true rfl) rfl ?_
  exact h
set_option maxRecDepth 20000 in
theorem r_X6_nextOnes_4 {E : jm_E} {d : Nat} {μ : jm_M} {Q : Option jm_V → jm_M → Prop} {v0 v1 v2 : Int} (h :
  (jm_is jm_N v0 1 6) ∧
  (jm_is jm_N (μ v0 0) 1 5) ∧
  (((μ (μ v0 0) 1) ≤ v2 →
    Q (some (jm_I v1)) μ) ∧
   (¬ ((μ (μ v0 0) 1) ≤ v2) →
    jc E m_X6_choices d [jm_R v0, jm_I v2] μ (fun (o : Option jm_V) (m4 : jm_M) => ∀ r5 : Int, o = some (jm_I r5) →
    jc E m_J6_bitCount_0f7a4 d [jm_I r5] m4 (fun (o : Option jm_V) (m6 : jm_M) => ∀ r7 : Int, o = some (jm_I r7) →
    ∀ x8 : Int, x8 = jm_wr (v1 + r7) →
    jg E m_X6_nextOnes d 4 [some (jm_R v0), some (jm_I x8), some (jm_I (jm_wr (v2 + 1)))] [] m6 Q))))) : jg E m_X6_nextOnes d 4 [some (jm_R v0), some (jm_I v1), some (jm_I v2)] [] μ Q := by
  refine jm_iloadn d_X6_nextOnes_4 rfl ?_
  refine jm_aloadn d_X6_nextOnes_5 rfl ?_
  obtain ⟨f1, h⟩ := h
  refine jm_getR (k := 0) (ki := 0) cf_X6 (Nat.le_of_ble_eq_true rfl) f_X6_18 d_X6_nextOnes_6 rfl rfl f1 rfl ?_
  obtain ⟨f2, h⟩ := h
  refine jm_getI (k := 1) (ki := 1) cf_X5 (Nat.le_of_ble_eq_true rfl) f_X6_104 d_X6_nextOnes_9 rfl rfl f2 rfl ?_
  refine jm_icmp_ge (tgt := 32) d_X6_nextOnes_12 (by decide) (fun c3 => ?_) (fun c3 => ?_)
  · have h := h.1 c3
    refine jm_iloadn d_X6_nextOnes_32 rfl ?_
    exact jm_ret (o := some (jm_I _)) d_X6_nextOnes_33 rfl ⟨Nat.le_refl _, Nat.le_refl _⟩ jm_r_I h rfl
  · have h := h.2 c3
    refine jm_iloadn d_X6_nextOnes_15 rfl ?_
    refine jm_aloadn d_X6_nextOnes_16 rfl ?_
    refine jm_iloadn d_X6_nextOnes_17 rfl ?_
    refine jm_invV (n1 := jm_N) (mc := 0) (ms := 0) (av := [jm_I _]) w_X6_choices l_X6_107 d_X6_nextOnes_18 rfl f1 ⟨_, _, rfl⟩ ⟨Nat.le_refl _, Nat.le_refl _⟩ (Nat.le_of_ble_eq_true rfl) rfl ?_
    refine jm_Cl.mono h (fun o m4 h hr _ => ?_)
    obtain ⟨r5, rfl⟩ := jm_rokI hr
    have h := h _ rfl
    refine jm_invS (n1 := jm_N) (mc := 0) (ms := 0) (av := [jm_I _]) w_J6_bitCount_0f7a4 l_X6_110 d_X6_nextOnes_21 rfl ⟨Nat.le_refl _, Nat.le_refl _⟩ (Nat.le_of_ble_eq_true rfl) rfl ?_
    refine jm_Cl.mono h (fun o m6 h hr _ => ?_)
    obtain ⟨r7, rfl⟩ := jm_rokI hr
    have h := h _ rfl
    refine jm_iadd d_X6_nextOnes_24 ?_
    have h := h _ rfl
    refine jm_istoren (L' := [some (jm_R _), some (jm_I _), some (jm_I _)]) d_X6_nextOnes_25 (Nat.le_of_ble_eq_true rfl) rfl ?_
    refine jm_iinc (L' := [some (jm_R _), some (jm_I _), some (jm_I _)]) d_X6_nextOnes_26 rfl rfl (Nat.le_of_ble_eq_true rfl) rfl ?_
    refine jm_goto (tgt := 4) d_X6_nextOnes_29 (by decide) ?_
    exact h
/-! ('CombTable$Talk', 'addNext', '(I)V') -/
theorem d_X6_addNext_0 : decode m_X6_addNext.2.1 0 = .ok (.iload_n 1, 1) := by decide +kernel
theorem d_X6_addNext_1 : decode m_X6_addNext.2.1 1 = .ok (.istore_n 2, 1) := by decide +kernel
theorem d_X6_addNext_2 : decode m_X6_addNext.2.1 2 = .ok (.iconst 0, 1) := by decide +kernel
theorem d_X6_addNext_3 : decode m_X6_addNext.2.1 3 = .ok (.istore_n 3, 1) := by decide +kernel
theorem d_X6_addNext_4 : decode m_X6_addNext.2.1 4 = .ok (.iload_n 3, 1) := by decide +kernel
theorem d_X6_addNext_5 : decode m_X6_addNext.2.1 5 = .ok (.aload_n 0, 1) := by decide +kernel
theorem d_X6_addNext_6 : decode m_X6_addNext.2.1 6 = .ok (.getfield 18, 3) := by decide +kernel
theorem d_X6_addNext_9 : decode m_X6_addNext.2.1 9 = .ok (.getfield 104, 3) := by decide +kernel
theorem d_X6_addNext_12 : decode m_X6_addNext.2.1 12 = .ok (.if_icmp .ge 62, 3) := by decide +kernel
theorem d_X6_addNext_15 : decode m_X6_addNext.2.1 15 = .ok (.aload_n 0, 1) := by decide +kernel
theorem d_X6_addNext_16 : decode m_X6_addNext.2.1 16 = .ok (.iload_n 3, 1) := by decide +kernel
theorem d_X6_addNext_17 : decode m_X6_addNext.2.1 17 = .ok (.invokevirtual 107, 3) := by decide +kernel
theorem d_X6_addNext_20 : decode m_X6_addNext.2.1 20 = .ok (.istore 4, 2) := by decide +kernel
theorem d_X6_addNext_22 : decode m_X6_addNext.2.1 22 = .ok (.iconst 0, 1) := by decide +kernel
theorem d_X6_addNext_23 : decode m_X6_addNext.2.1 23 = .ok (.istore 5, 2) := by decide +kernel
theorem d_X6_addNext_25 : decode m_X6_addNext.2.1 25 = .ok (.iload 5, 2) := by decide +kernel
theorem d_X6_addNext_27 : decode m_X6_addNext.2.1 27 = .ok (.aload_n 0, 1) := by decide +kernel
theorem d_X6_addNext_28 : decode m_X6_addNext.2.1 28 = .ok (.getfield 18, 3) := by decide +kernel
theorem d_X6_addNext_31 : decode m_X6_addNext.2.1 31 = .ok (.getfield 98, 3) := by decide +kernel
theorem d_X6_addNext_34 : decode m_X6_addNext.2.1 34 = .ok (.if_icmp .ge 34, 3) := by decide +kernel
theorem d_X6_addNext_37 : decode m_X6_addNext.2.1 37 = .ok (.iload 4, 2) := by decide +kernel
theorem d_X6_addNext_39 : decode m_X6_addNext.2.1 39 = .ok (.iload 5, 2) := by decide +kernel
theorem d_X6_addNext_41 : decode m_X6_addNext.2.1 41 = .ok (.ishr, 1) := by decide +kernel
theorem d_X6_addNext_42 : decode m_X6_addNext.2.1 42 = .ok (.iconst 1, 1) := by decide +kernel
theorem d_X6_addNext_43 : decode m_X6_addNext.2.1 43 = .ok (.iand, 1) := by decide +kernel
theorem d_X6_addNext_44 : decode m_X6_addNext.2.1 44 = .ok (.ifCond .eq 18, 3) := by decide +kernel
theorem d_X6_addNext_47 : decode m_X6_addNext.2.1 47 = .ok (.iload_n 2, 1) := by decide +kernel
theorem d_X6_addNext_48 : decode m_X6_addNext.2.1 48 = .ok (.ifCond .ne 11, 3) := by decide +kernel
theorem d_X6_addNext_51 : decode m_X6_addNext.2.1 51 = .ok (.aload_n 0, 1) := by decide +kernel
theorem d_X6_addNext_52 : decode m_X6_addNext.2.1 52 = .ok (.iload_n 3, 1) := by decide +kernel
theorem d_X6_addNext_53 : decode m_X6_addNext.2.1 53 = .ok (.iload 5, 2) := by decide +kernel
theorem d_X6_addNext_55 : decode m_X6_addNext.2.1 55 = .ok (.invokevirtual 54, 3) := by decide +kernel
theorem d_X6_addNext_58 : decode m_X6_addNext.2.1 58 = .ok (.return_, 1) := by decide +kernel
theorem d_X6_addNext_59 : decode m_X6_addNext.2.1 59 = .ok (.iinc 2 (-1), 3) := by decide +kernel
theorem d_X6_addNext_62 : decode m_X6_addNext.2.1 62 = .ok (.iinc 5 1, 3) := by decide +kernel
theorem d_X6_addNext_65 : decode m_X6_addNext.2.1 65 = .ok (.goto (-40), 3) := by decide +kernel
theorem d_X6_addNext_68 : decode m_X6_addNext.2.1 68 = .ok (.iinc 3 1, 3) := by decide +kernel
theorem d_X6_addNext_71 : decode m_X6_addNext.2.1 71 = .ok (.goto (-67), 3) := by decide +kernel
theorem d_X6_addNext_74 : decode m_X6_addNext.2.1 74 = .ok (.return_, 1) := by decide +kernel
set_option maxRecDepth 20000 in
theorem e_X6_addNext {E : jm_E} {d : Nat} {μ : jm_M} {Q : Option jm_V → jm_M → Prop} {v0 v1 : Int} (h : (∀ v ∈ ([jm_R v0, jm_I v1] : List jm_V), jm_ok v) →
  jg E m_X6_addNext d 4 [some (jm_R v0), none, some (jm_I v1), some (jm_I 0), none, none] [] μ Q) : jc E m_X6_addNext (d + 1) [jm_R v0, jm_I v1] μ Q := by
  refine jm_Cl.of2 (by decide +kernel) (L0 := [some (jm_R v0), some (jm_I v1), none, none, none, none]) rfl (Nat.le_of_ble_eq_true rfl) (fun hok => ?_)
  have h := h hok
  refine jm_iloadn d_X6_addNext_0 rfl ?_
  refine jm_istoren (L' := [some (jm_R _), some (jm_I _), some (jm_I _), none, none, none]) d_X6_addNext_1 (Nat.le_of_ble_eq_true rfl) rfl ?_
  refine jm_iconst (v := 0) d_X6_addNext_2 rfl (jm_okI (by decide) (by decide)) ?_
  refine jm_istoren (L' := [some (jm_R _), some (jm_I _), some (jm_I _), some (jm_I _), none, none]) d_X6_addNext_3 (Nat.le_of_ble_eq_true rfl) rfl ?_
  exact jm_weak2 h (And.intro rfl (And.intro rfl (And.intro rfl trivial)))
set_option maxRecDepth 20000 in
theorem r_X6_addNext_4 {E : jm_E} {d : Nat} {μ : jm_M} {Q : Option jm_V → jm_M → Prop} {v0 v2 v3 : Int} (h :
  (jm_is jm_N v0 1 6) ∧
  (jm_is jm_N (μ v0 0) 1 5) ∧
  (((μ (μ v0 0) 1) ≤ v3 →
    Q none μ) ∧
   (¬ ((μ (μ v0 0) 1) ≤ v3) →
    jc E m_X6_choices d [jm_R v0, jm_I v3] μ (fun (o : Option jm_V) (m4 : jm_M) => ∀ r5 : Int, o = some (jm_I r5) →
    jg E m_X6_addNext d 25 [some (jm_R v0), none, some (jm_I v2), some (jm_I v3), some (jm_I r5), some (jm_I 0)] [] m4 Q)))) : jg E m_X6_addNext d 4 [some (jm_R v0), none, some (jm_I v2), some (jm_I v3), none, none] [] μ Q := by
  refine jm_iloadn d_X6_addNext_4 rfl ?_
  refine jm_aloadn d_X6_addNext_5 rfl ?_
  obtain ⟨f1, h⟩ := h
  refine jm_getR (k := 0) (ki := 0) cf_X6 (Nat.le_of_ble_eq_true rfl) f_X6_18 d_X6_addNext_6 rfl rfl f1 rfl ?_
  obtain ⟨f2, h⟩ := h
  refine jm_getI (k := 1) (ki := 1) cf_X5 (Nat.le_of_ble_eq_true rfl) f_X6_104 d_X6_addNext_9 rfl rfl f2 rfl ?_
  refine jm_icmp_ge (tgt := 74) d_X6_addNext_12 (by decide) (fun c3 => ?_) (fun c3 => ?_)
  · have h := h.1 c3
    exact jm_ret (o := none) d_X6_addNext_74 rfl ⟨Nat.le_refl _, Nat.le_refl _⟩ jm_r_V h rfl
  · have h := h.2 c3
    refine jm_aloadn d_X6_addNext_15 rfl ?_
    refine jm_iloadn d_X6_addNext_16 rfl ?_
    refine jm_invV (n1 := jm_N) (mc := 0) (ms := 0) (av := [jm_I _]) w_X6_choices l_X6_107 d_X6_addNext_17 rfl f1 ⟨_, _, rfl⟩ ⟨Nat.le_refl _, Nat.le_refl _⟩ (Nat.le_of_ble_eq_true rfl) rfl ?_
    refine jm_Cl.mono h (fun o m4 h hr _ => ?_)
    obtain ⟨r5, rfl⟩ := jm_rokI hr
    have h := h _ rfl
    refine jm_istore (L' := [some (jm_R _), none, some (jm_I _), some (jm_I _), some (jm_I _), none]) d_X6_addNext_20 (Nat.le_of_ble_eq_true rfl) rfl ?_
    refine jm_iconst (v := 0) d_X6_addNext_22 rfl (jm_okI (by decide) (by decide)) ?_
    refine jm_istore (L' := [some (jm_R _), none, some (jm_I _), some (jm_I _), some (jm_I _), some (jm_I _)]) d_X6_addNext_23 (Nat.le_of_ble_eq_true rfl) rfl ?_
    exact h
set_option maxRecDepth 20000 in
theorem r_X6_addNext_25 {E : jm_E} {d : Nat} {μ : jm_M} {Q : Option jm_V → jm_M → Prop} {v0 v2 v3 v4 v5 : Int} (h :
  (jm_is jm_N v0 1 6) ∧
  (jm_is jm_N (μ v0 0) 1 5) ∧
  (((μ (μ v0 0) 4) ≤ v5 →
    jg E m_X6_addNext d 4 [some (jm_R v0), none, some (jm_I v2), some (jm_I (jm_wr (v3 + 1))), none, none] [] μ Q) ∧
   (¬ ((μ (μ v0 0) 4) ≤ v5) →
    (((jm_and (jm_shr v4 v5) 1) = 0 →
      jg E m_X6_addNext d 25 [some (jm_R v0), none, some (jm_I v2), some (jm_I v3), some (jm_I v4), some (jm_I (jm_wr (v5 + 1)))] [] μ Q) ∧
     (¬ ((jm_and (jm_shr v4 v5) 1) = 0) →
      ((v2 ≠ 0 →
        jg E m_X6_addNext d 25 [some (jm_R v0), none, some (jm_I (jm_wr (v2 + (-1)))), some (jm_I v3), some (jm_I v4), some (jm_I (jm_wr (v5 + 1)))] [] μ Q) ∧
       (¬ (v2 ≠ 0) →
        jc E m_X6_add d [jm_R v0, jm_I v3, jm_I v5] μ (fun (o : Option jm_V) (m6 : jm_M) => o = none →
        Q none m6)))))))) : jg E m_X6_addNext d 25 [some (jm_R v0), none, some (jm_I v2), some (jm_I v3), some (jm_I v4), some (jm_I v5)] [] μ Q := by
  refine jm_iload d_X6_addNext_25 rfl ?_
  refine jm_aloadn d_X6_addNext_27 rfl ?_
  obtain ⟨f1, h⟩ := h
  refine jm_getR (k := 0) (ki := 0) cf_X6 (Nat.le_of_ble_eq_true rfl) f_X6_18 d_X6_addNext_28 rfl rfl f1 rfl ?_
  obtain ⟨f2, h⟩ := h
  refine jm_getI (k := 4) (ki := 4) cf_X5 (Nat.le_of_ble_eq_true rfl) f_X6_98 d_X6_addNext_31 rfl rfl f2 rfl ?_
  refine jm_icmp_ge (tgt := 68) d_X6_addNext_34 (by decide) (fun c3 => ?_) (fun c3 => ?_)
  · have h := h.1 c3
    refine jm_iinc (L' := [some (jm_R _), none, some (jm_I _), some (jm_I _), some (jm_I _), some (jm_I _)]) d_X6_addNext_68 rfl rfl (Nat.le_of_ble_eq_true rfl) rfl ?_
    refine jm_goto (tgt := 4) d_X6_addNext_71 (by decide) ?_
    exact jm_weak2 h (And.intro rfl (And.intro rfl (And.intro rfl trivial)))
  · have h := h.2 c3
    refine jm_iload d_X6_addNext_37 rfl ?_
    refine jm_iload d_X6_addNext_39 rfl ?_
    refine jm_ishr d_X6_addNext_41 ?_
    refine jm_iconst (v := 1) d_X6_addNext_42 rfl (jm_okI (by decide) (by decide)) ?_
    refine jm_iand d_X6_addNext_43 ?_
    refine jm_if_eq (tgt := 62) d_X6_addNext_44 (by decide) (fun c4 => ?_) (fun c4 => ?_)
    · have h := h.1 c4
      refine jm_iinc (L' := [some (jm_R _), none, some (jm_I _), some (jm_I _), some (jm_I _), some (jm_I _)]) d_X6_addNext_62 rfl rfl (Nat.le_of_ble_eq_true rfl) rfl ?_
      refine jm_goto (tgt := 25) d_X6_addNext_65 (by decide) ?_
      exact h
    · have h := h.2 c4
      refine jm_iloadn d_X6_addNext_47 rfl ?_
      refine jm_if_ne (tgt := 59) d_X6_addNext_48 (by decide) (fun c5 => ?_) (fun c5 => ?_)
      · have h := h.1 c5
        refine jm_iinc (L' := [some (jm_R _), none, some (jm_I _), some (jm_I _), some (jm_I _), some (jm_I _)]) d_X6_addNext_59 rfl rfl (Nat.le_of_ble_eq_true rfl) rfl ?_
        refine jm_iinc (L' := [some (jm_R _), none, some (jm_I _), some (jm_I _), some (jm_I _), some (jm_I _)]) d_X6_addNext_62 rfl rfl (Nat.le_of_ble_eq_true rfl) rfl ?_
        refine jm_goto (tgt := 25) d_X6_addNext_65 (by decide) ?_
        exact h
      · have h := h.2 c5
        refine jm_aloadn d_X6_addNext_51 rfl ?_
        refine jm_iloadn d_X6_addNext_52 rfl ?_
        refine jm_iload d_X6_addNext_53 rfl ?_
        refine jm_invV (n1 := jm_N) (mc := 0) (ms := 0) (av := [jm_I _, jm_I _]) w_X6_add l_X6_54 d_X6_addNext_55 rfl f1 ⟨_, _, rfl⟩ ⟨Nat.le_refl _, Nat.le_refl _⟩ (Nat.le_of_ble_eq_true rfl) rfl ?_
        refine jm_Cl.mono h (fun o m6 h hr _ => ?_)
        obtain rfl := jm_rokV hr
        have h := h rfl
        exact jm_ret (o := none) d_X6_addNext_58 rfl ⟨Nat.le_refl _, Nat.le_refl _⟩ jm_r_V h rfl
/-! ('CombTable$Talk', 'stateOf', '(I)I') -/
theorem d_X6_stateOf_0 : decode m_X6_stateOf.2.1 0 = .ok (.aload_n 0, 1) := by decide +kernel
theorem d_X6_stateOf_1 : decode m_X6_stateOf.2.1 1 = .ok (.iload_n 1, 1) := by decide +kernel
theorem d_X6_stateOf_2 : decode m_X6_stateOf.2.1 2 = .ok (.invokevirtual 61, 3) := by decide +kernel
theorem d_X6_stateOf_5 : decode m_X6_stateOf.2.1 5 = .ok (.ifCond .ne 5, 3) := by decide +kernel
theorem d_X6_stateOf_8 : decode m_X6_stateOf.2.1 8 = .ok (.iconst 0, 1) := by decide +kernel
theorem d_X6_stateOf_9 : decode m_X6_stateOf.2.1 9 = .ok (.ireturn, 1) := by decide +kernel
theorem d_X6_stateOf_10 : decode m_X6_stateOf.2.1 10 = .ok (.aload_n 0, 1) := by decide +kernel
theorem d_X6_stateOf_11 : decode m_X6_stateOf.2.1 11 = .ok (.getfield 40, 3) := by decide +kernel
theorem d_X6_stateOf_14 : decode m_X6_stateOf.2.1 14 = .ok (.iload_n 1, 1) := by decide +kernel
theorem d_X6_stateOf_15 : decode m_X6_stateOf.2.1 15 = .ok (.iaload, 1) := by decide +kernel
theorem d_X6_stateOf_16 : decode m_X6_stateOf.2.1 16 = .ok (.iconst 4, 1) := by decide +kernel
theorem d_X6_stateOf_17 : decode m_X6_stateOf.2.1 17 = .ok (.if_icmp .ne 22, 3) := by decide +kernel
theorem d_X6_stateOf_20 : decode m_X6_stateOf.2.1 20 = .ok (.aload_n 0, 1) := by decide +kernel
theorem d_X6_stateOf_21 : decode m_X6_stateOf.2.1 21 = .ok (.getfield 43, 3) := by decide +kernel
theorem d_X6_stateOf_24 : decode m_X6_stateOf.2.1 24 = .ok (.iconst 1, 1) := by decide +kernel
theorem d_X6_stateOf_25 : decode m_X6_stateOf.2.1 25 = .ok (.isub, 1) := by decide +kernel
theorem d_X6_stateOf_26 : decode m_X6_stateOf.2.1 26 = .ok (.aload_n 0, 1) := by decide +kernel
theorem d_X6_stateOf_27 : decode m_X6_stateOf.2.1 27 = .ok (.iload_n 1, 1) := by decide +kernel
theorem d_X6_stateOf_28 : decode m_X6_stateOf.2.1 28 = .ok (.invokevirtual 92, 3) := by decide +kernel
theorem d_X6_stateOf_31 : decode m_X6_stateOf.2.1 31 = .ok (.if_icmp .le 8, 3) := by decide +kernel
theorem d_X6_stateOf_34 : decode m_X6_stateOf.2.1 34 = .ok (.bipush 8, 2) := by decide +kernel
theorem d_X6_stateOf_36 : decode m_X6_stateOf.2.1 36 = .ok (.goto 9, 3) := by decide +kernel
theorem d_X6_stateOf_39 : decode m_X6_stateOf.2.1 39 = .ok (.aload_n 0, 1) := by decide +kernel
theorem d_X6_stateOf_40 : decode m_X6_stateOf.2.1 40 = .ok (.getfield 40, 3) := by decide +kernel
theorem d_X6_stateOf_43 : decode m_X6_stateOf.2.1 43 = .ok (.iload_n 1, 1) := by decide +kernel
theorem d_X6_stateOf_44 : decode m_X6_stateOf.2.1 44 = .ok (.iaload, 1) := by decide +kernel
theorem d_X6_stateOf_45 : decode m_X6_stateOf.2.1 45 = .ok (.ireturn, 1) := by decide +kernel
set_option maxRecDepth 20000 in
theorem e_X6_stateOf {E : jm_E} {d : Nat} {μ : jm_M} {Q : Option jm_V → jm_M → Prop} {v0 v1 : Int} (h : (∀ v ∈ ([jm_R v0, jm_I v1] : List jm_V), jm_ok v) →
  (jm_is jm_N v0 1 6) ∧
  jc E m_X6_has d [jm_R v0, jm_I v1] μ (fun (o : Option jm_V) (m1 : jm_M) => ∀ r3 : Int, o = some (jm_I r3) → (r3 = 0 ∨ r3 = 1) →
  ((r3 ≠ 0 →
    (0 ≤ v1 ∧ v1 < (jm_sn (v0 + 10) : Int)) ∧
    (((m1 ((v0 + 15)) v1) ≠ 4 →
      Q (some (jm_I (m1 ((v0 + 15)) v1))) m1) ∧
     (¬ ((m1 ((v0 + 15)) v1) ≠ 4) →
      jc E m_X6_dueOf d [jm_R v0, jm_I v1] m1 (fun (o : Option jm_V) (m8 : jm_M) => ∀ r9 : Int, o = some (jm_I r9) →
      (((jm_wr ((m1 v0 1) - 1)) ≤ r9 →
        Q (some (jm_I (m8 ((v0 + 15)) v1))) m8) ∧
       (¬ ((jm_wr ((m1 v0 1) - 1)) ≤ r9) →
        Q (some (jm_I 8)) m8)))))) ∧
   (¬ (r3 ≠ 0) →
    Q (some (jm_I 0)) m1)))) : jc E m_X6_stateOf (d + 1) [jm_R v0, jm_I v1] μ Q := by
  refine jm_Cl.of2 (by decide +kernel) (L0 := [some (jm_R v0), some (jm_I v1)]) rfl (Nat.le_of_ble_eq_true rfl) (fun hok => ?_)
  have h := h hok
  refine jm_aloadn d_X6_stateOf_0 rfl ?_
  refine jm_iloadn d_X6_stateOf_1 rfl ?_
  obtain ⟨f2, h⟩ := h
  refine jm_invV (n1 := jm_N) (mc := 0) (ms := 0) (av := [jm_I _]) w_X6_has l_X6_61 d_X6_stateOf_2 rfl f2 ⟨_, _, rfl⟩ ⟨Nat.le_refl _, Nat.le_refl _⟩ (Nat.le_of_ble_eq_true rfl) rfl ?_
  refine jm_Cl.mono h (fun o m1 h hr _ => ?_)
  obtain ⟨r3, rfl, z4⟩ := jm_rokZ hr
  have h := h _ rfl z4
  refine jm_if_ne (tgt := 10) d_X6_stateOf_5 (by decide) (fun c5 => ?_) (fun c5 => ?_)
  · have h := h.1 c5
    refine jm_aloadn d_X6_stateOf_10 rfl ?_
    refine jm_getF (k := 9) (ki := 9) rfl cf_X6 (Nat.le_of_ble_eq_true rfl) f_X6_40 d_X6_stateOf_11 rfl rfl f2 (fc_6_9 f2) ?_
    refine jm_iloadn d_X6_stateOf_14 rfl ?_
    obtain ⟨f6, h⟩ := h
    refine jm_iaload d_X6_stateOf_15 (xc_6_9 f2 f6.1 f6.2) ?_
    refine jm_iconst (v := 4) d_X6_stateOf_16 rfl (jm_okI (by decide) (by decide)) ?_
    refine jm_icmp_ne (tgt := 39) d_X6_stateOf_17 (by decide) (fun c7 => ?_) (fun c7 => ?_)
    · have h := h.1 c7
      refine jm_aloadn d_X6_stateOf_39 rfl ?_
      refine jm_getF (k := 9) (ki := 9) rfl cf_X6 (Nat.le_of_ble_eq_true rfl) f_X6_40 d_X6_stateOf_40 rfl rfl f2 (fc_6_9 f2) ?_
      refine jm_iloadn d_X6_stateOf_43 rfl ?_
      refine jm_iaload d_X6_stateOf_44 (xc_6_9 f2 f6.1 f6.2) ?_
      exact jm_ret (o := some (jm_I _)) d_X6_stateOf_45 rfl ⟨Nat.le_refl _, Nat.le_refl _⟩ jm_r_I h rfl
    · have h := h.2 c7
      refine jm_aloadn d_X6_stateOf_20 rfl ?_
      refine jm_getI (k := 1) (ki := 1) cf_X6 (Nat.le_of_ble_eq_true rfl) f_X6_43 d_X6_stateOf_21 rfl rfl f2 rfl ?_
      refine jm_iconst (v := 1) d_X6_stateOf_24 rfl (jm_okI (by decide) (by decide)) ?_
      refine jm_isub d_X6_stateOf_25 ?_
      refine jm_aloadn d_X6_stateOf_26 rfl ?_
      refine jm_iloadn d_X6_stateOf_27 rfl ?_
      refine jm_invV (n1 := jm_N) (mc := 0) (ms := 0) (av := [jm_I _]) w_X6_dueOf l_X6_92 d_X6_stateOf_28 rfl f2 ⟨_, _, rfl⟩ ⟨Nat.le_refl _, Nat.le_refl _⟩ (Nat.le_of_ble_eq_true rfl) rfl ?_
      refine jm_Cl.mono h (fun o m8 h hr _ => ?_)
      obtain ⟨r9, rfl⟩ := jm_rokI hr
      have h := h _ rfl
      refine jm_icmp_le (tgt := 39) d_X6_stateOf_31 (by decide) (fun c10 => ?_) (fun c10 => ?_)
      · have h := h.1 c10
        refine jm_aloadn d_X6_stateOf_39 rfl ?_
        refine jm_getF (k := 9) (ki := 9) rfl cf_X6 (Nat.le_of_ble_eq_true rfl) f_X6_40 d_X6_stateOf_40 rfl rfl f2 (fc_6_9 f2) ?_
        refine jm_iloadn d_X6_stateOf_43 rfl ?_
        refine jm_iaload d_X6_stateOf_44 (xc_6_9 f2 f6.1 f6.2) ?_
        exact jm_ret (o := some (jm_I _)) d_X6_stateOf_45 rfl ⟨Nat.le_refl _, Nat.le_refl _⟩ jm_r_I h rfl
      · have h := h.2 c10
        refine jm_bipush (v := 8) d_X6_stateOf_34 rfl (jm_okI (by decide) (by decide)) ?_
        refine jm_goto (tgt := 45) d_X6_stateOf_36 (by decide) ?_
        exact jm_ret (o := some (jm_I _)) d_X6_stateOf_45 rfl ⟨Nat.le_refl _, Nat.le_refl _⟩ jm_r_I h rfl
  · have h := h.2 c5
    refine jm_iconst (v := 0) d_X6_stateOf_8 rfl (jm_okI (by decide) (by decide)) ?_
    exact jm_ret (o := some (jm_I _)) d_X6_stateOf_9 rfl ⟨Nat.le_refl _, Nat.le_refl _⟩ jm_r_I h rfl
/-! ('CombTable$Talk', 'promisee', '(I)I') -/
theorem d_X6_promisee_0 : decode m_X6_promisee.2.1 0 = .ok (.aload_n 0, 1) := by decide +kernel
theorem d_X6_promisee_1 : decode m_X6_promisee.2.1 1 = .ok (.iload_n 1, 1) := by decide +kernel
theorem d_X6_promisee_2 : decode m_X6_promisee.2.1 2 = .ok (.invokevirtual 61, 3) := by decide +kernel
theorem d_X6_promisee_5 : decode m_X6_promisee.2.1 5 = .ok (.ifCond .eq 13, 3) := by decide +kernel
theorem d_X6_promisee_8 : decode m_X6_promisee.2.1 8 = .ok (.aload_n 0, 1) := by decide +kernel
theorem d_X6_promisee_9 : decode m_X6_promisee.2.1 9 = .ok (.getfield 40, 3) := by decide +kernel
theorem d_X6_promisee_12 : decode m_X6_promisee.2.1 12 = .ok (.iload_n 1, 1) := by decide +kernel
theorem d_X6_promisee_13 : decode m_X6_promisee.2.1 13 = .ok (.iaload, 1) := by decide +kernel
theorem d_X6_promisee_14 : decode m_X6_promisee.2.1 14 = .ok (.iconst 4, 1) := by decide +kernel
theorem d_X6_promisee_15 : decode m_X6_promisee.2.1 15 = .ok (.if_icmp .ge 5, 3) := by decide +kernel
theorem d_X6_promisee_18 : decode m_X6_promisee.2.1 18 = .ok (.iconst (-1), 1) := by decide +kernel
theorem d_X6_promisee_19 : decode m_X6_promisee.2.1 19 = .ok (.ireturn, 1) := by decide +kernel
theorem d_X6_promisee_20 : decode m_X6_promisee.2.1 20 = .ok (.aload_n 0, 1) := by decide +kernel
theorem d_X6_promisee_21 : decode m_X6_promisee.2.1 21 = .ok (.getfield 31, 3) := by decide +kernel
theorem d_X6_promisee_24 : decode m_X6_promisee.2.1 24 = .ok (.iload_n 1, 1) := by decide +kernel
theorem d_X6_promisee_25 : decode m_X6_promisee.2.1 25 = .ok (.iaload, 1) := by decide +kernel
theorem d_X6_promisee_26 : decode m_X6_promisee.2.1 26 = .ok (.istore_n 2, 1) := by decide +kernel
theorem d_X6_promisee_27 : decode m_X6_promisee.2.1 27 = .ok (.aload_n 0, 1) := by decide +kernel
theorem d_X6_promisee_28 : decode m_X6_promisee.2.1 28 = .ok (.iload_n 2, 1) := by decide +kernel
theorem d_X6_promisee_29 : decode m_X6_promisee.2.1 29 = .ok (.invokevirtual 61, 3) := by decide +kernel
theorem d_X6_promisee_32 : decode m_X6_promisee.2.1 32 = .ok (.ifCond .eq 12, 3) := by decide +kernel
theorem d_X6_promisee_35 : decode m_X6_promisee.2.1 35 = .ok (.aload_n 0, 1) := by decide +kernel
theorem d_X6_promisee_36 : decode m_X6_promisee.2.1 36 = .ok (.getfield 24, 3) := by decide +kernel
theorem d_X6_promisee_39 : decode m_X6_promisee.2.1 39 = .ok (.iload_n 2, 1) := by decide +kernel
theorem d_X6_promisee_40 : decode m_X6_promisee.2.1 40 = .ok (.iaload, 1) := by decide +kernel
theorem d_X6_promisee_41 : decode m_X6_promisee.2.1 41 = .ok (.goto 4, 3) := by decide +kernel
theorem d_X6_promisee_44 : decode m_X6_promisee.2.1 44 = .ok (.iconst (-1), 1) := by decide +kernel
theorem d_X6_promisee_45 : decode m_X6_promisee.2.1 45 = .ok (.ireturn, 1) := by decide +kernel
set_option maxRecDepth 20000 in
theorem e_X6_promisee {E : jm_E} {d : Nat} {μ : jm_M} {Q : Option jm_V → jm_M → Prop} {v0 v1 : Int} (h : (∀ v ∈ ([jm_R v0, jm_I v1] : List jm_V), jm_ok v) →
  (jm_is jm_N v0 1 6) ∧
  jc E m_X6_has d [jm_R v0, jm_I v1] μ (fun (o : Option jm_V) (m1 : jm_M) => ∀ r3 : Int, o = some (jm_I r3) → (r3 = 0 ∨ r3 = 1) →
  ((r3 = 0 →
    Q (some (jm_I ((-1)))) m1) ∧
   (¬ (r3 = 0) →
    (0 ≤ v1 ∧ v1 < (jm_sn (v0 + 10) : Int)) ∧
    ((4 ≤ (m1 ((v0 + 15)) v1) →
      ∀ x8 : Int, x8 = m1 ((v0 + 12)) v1 →
      jc E m_X6_has d [jm_R v0, jm_I x8] m1 (fun (o : Option jm_V) (m9 : jm_M) => ∀ r10 : Int, o = some (jm_I r10) → (r10 = 0 ∨ r10 = 1) →
      ((r10 = 0 →
        Q (some (jm_I ((-1)))) m9) ∧
       (¬ (r10 = 0) →
        (0 ≤ x8 ∧ x8 < (jm_sn (v0 + 10) : Int)) ∧
        Q (some (jm_I (m9 ((v0 + 10)) x8))) m9)))) ∧
     (¬ (4 ≤ (m1 ((v0 + 15)) v1)) →
      Q (some (jm_I ((-1)))) m1)))))) : jc E m_X6_promisee (d + 1) [jm_R v0, jm_I v1] μ Q := by
  refine jm_Cl.of2 (by decide +kernel) (L0 := [some (jm_R v0), some (jm_I v1), none]) rfl (Nat.le_of_ble_eq_true rfl) (fun hok => ?_)
  have h := h hok
  refine jm_aloadn d_X6_promisee_0 rfl ?_
  refine jm_iloadn d_X6_promisee_1 rfl ?_
  obtain ⟨f2, h⟩ := h
  refine jm_invV (n1 := jm_N) (mc := 0) (ms := 0) (av := [jm_I _]) w_X6_has l_X6_61 d_X6_promisee_2 rfl f2 ⟨_, _, rfl⟩ ⟨Nat.le_refl _, Nat.le_refl _⟩ (Nat.le_of_ble_eq_true rfl) rfl ?_
  refine jm_Cl.mono h (fun o m1 h hr _ => ?_)
  obtain ⟨r3, rfl, z4⟩ := jm_rokZ hr
  have h := h _ rfl z4
  refine jm_if_eq (tgt := 18) d_X6_promisee_5 (by decide) (fun c5 => ?_) (fun c5 => ?_)
  · have h := h.1 c5
    refine jm_iconst (v := (-1)) d_X6_promisee_18 rfl (jm_okI (by decide) (by decide)) ?_
    exact jm_ret (o := some (jm_I _)) d_X6_promisee_19 rfl ⟨Nat.le_refl _, Nat.le_refl _⟩ jm_r_I h rfl
  · have h := h.2 c5
    refine jm_aloadn d_X6_promisee_8 rfl ?_
    refine jm_getF (k := 9) (ki := 9) rfl cf_X6 (Nat.le_of_ble_eq_true rfl) f_X6_40 d_X6_promisee_9 rfl rfl f2 (fc_6_9 f2) ?_
    refine jm_iloadn d_X6_promisee_12 rfl ?_
    obtain ⟨f6, h⟩ := h
    refine jm_iaload d_X6_promisee_13 (xc_6_9 f2 f6.1 f6.2) ?_
    refine jm_iconst (v := 4) d_X6_promisee_14 rfl (jm_okI (by decide) (by decide)) ?_
    refine jm_icmp_ge (tgt := 20) d_X6_promisee_15 (by decide) (fun c7 => ?_) (fun c7 => ?_)
    · have h := h.1 c7
      refine jm_aloadn d_X6_promisee_20 rfl ?_
      refine jm_getF (k := 6) (ki := 6) rfl cf_X6 (Nat.le_of_ble_eq_true rfl) f_X6_31 d_X6_promisee_21 rfl rfl f2 (fc_6_6 f2) ?_
      refine jm_iloadn d_X6_promisee_24 rfl ?_
      refine jm_iaload d_X6_promisee_25 (xc_6_6 f2 f6.1 f6.2) ?_
      have h := h _ rfl
      refine jm_istoren (L' := [some (jm_R _), some (jm_I _), some (jm_I _)]) d_X6_promisee_26 (Nat.le_of_ble_eq_true rfl) rfl ?_
      refine jm_aloadn d_X6_promisee_27 rfl ?_
      refine jm_iloadn d_X6_promisee_28 rfl ?_
      refine jm_invV (n1 := jm_N) (mc := 0) (ms := 0) (av := [jm_I _]) w_X6_has l_X6_61 d_X6_promisee_29 rfl f2 ⟨_, _, rfl⟩ ⟨Nat.le_refl _, Nat.le_refl _⟩ (Nat.le_of_ble_eq_true rfl) rfl ?_
      refine jm_Cl.mono h (fun o m9 h hr _ => ?_)
      obtain ⟨r10, rfl, z11⟩ := jm_rokZ hr
      have h := h _ rfl z11
      refine jm_if_eq (tgt := 44) d_X6_promisee_32 (by decide) (fun c12 => ?_) (fun c12 => ?_)
      · have h := h.1 c12
        refine jm_iconst (v := (-1)) d_X6_promisee_44 rfl (jm_okI (by decide) (by decide)) ?_
        exact jm_ret (o := some (jm_I _)) d_X6_promisee_45 rfl ⟨Nat.le_refl _, Nat.le_refl _⟩ jm_r_I h rfl
      · have h := h.2 c12
        refine jm_aloadn d_X6_promisee_35 rfl ?_
        refine jm_getF (k := 4) (ki := 4) rfl cf_X6 (Nat.le_of_ble_eq_true rfl) f_X6_24 d_X6_promisee_36 rfl rfl f2 (fc_6_4 f2) ?_
        refine jm_iloadn d_X6_promisee_39 rfl ?_
        obtain ⟨f13, h⟩ := h
        refine jm_iaload d_X6_promisee_40 (xc_6_4 f2 f13.1 f13.2) ?_
        refine jm_goto (tgt := 45) d_X6_promisee_41 (by decide) ?_
        exact jm_ret (o := some (jm_I _)) d_X6_promisee_45 rfl ⟨Nat.le_refl _, Nat.le_refl _⟩ jm_r_I h rfl
    · have h := h.2 c7
      refine jm_iconst (v := (-1)) d_X6_promisee_18 rfl (jm_okI (by decide) (by decide)) ?_
      exact jm_ret (o := some (jm_I _)) d_X6_promisee_19 rfl ⟨Nat.le_refl _, Nat.le_refl _⟩ jm_r_I h rfl
/-! ('CombTable$Talk', 'dueOf', '(I)I') -/
theorem d_X6_dueOf_0 : decode m_X6_dueOf.2.1 0 = .ok (.iload_n 1, 1) := by decide +kernel
theorem d_X6_dueOf_1 : decode m_X6_dueOf.2.1 1 = .ok (.ifCond .lt 29, 3) := by decide +kernel
theorem d_X6_dueOf_4 : decode m_X6_dueOf.2.1 4 = .ok (.iload_n 1, 1) := by decide +kernel
theorem d_X6_dueOf_5 : decode m_X6_dueOf.2.1 5 = .ok (.aload_n 0, 1) := by decide +kernel
theorem d_X6_dueOf_6 : decode m_X6_dueOf.2.1 6 = .ok (.getfield 43, 3) := by decide +kernel
theorem d_X6_dueOf_9 : decode m_X6_dueOf.2.1 9 = .ok (.if_icmp .ge 21, 3) := by decide +kernel
theorem d_X6_dueOf_12 : decode m_X6_dueOf.2.1 12 = .ok (.iload_n 1, 1) := by decide +kernel
theorem d_X6_dueOf_13 : decode m_X6_dueOf.2.1 13 = .ok (.aload_n 0, 1) := by decide +kernel
theorem d_X6_dueOf_14 : decode m_X6_dueOf.2.1 14 = .ok (.getfield 18, 3) := by decide +kernel
theorem d_X6_dueOf_17 : decode m_X6_dueOf.2.1 17 = .ok (.aload_n 0, 1) := by decide +kernel
theorem d_X6_dueOf_18 : decode m_X6_dueOf.2.1 18 = .ok (.getfield 28, 3) := by decide +kernel
theorem d_X6_dueOf_21 : decode m_X6_dueOf.2.1 21 = .ok (.iload_n 1, 1) := by decide +kernel
theorem d_X6_dueOf_22 : decode m_X6_dueOf.2.1 22 = .ok (.iaload, 1) := by decide +kernel
theorem d_X6_dueOf_23 : decode m_X6_dueOf.2.1 23 = .ok (.invokevirtual 118, 3) := by decide +kernel
theorem d_X6_dueOf_26 : decode m_X6_dueOf.2.1 26 = .ok (.iadd, 1) := by decide +kernel
theorem d_X6_dueOf_27 : decode m_X6_dueOf.2.1 27 = .ok (.goto 4, 3) := by decide +kernel
theorem d_X6_dueOf_30 : decode m_X6_dueOf.2.1 30 = .ok (.iconst (-1), 1) := by decide +kernel
theorem d_X6_dueOf_31 : decode m_X6_dueOf.2.1 31 = .ok (.ireturn, 1) := by decide +kernel
set_option maxRecDepth 20000 in
theorem e_X6_dueOf {E : jm_E} {d : Nat} {μ : jm_M} {Q : Option jm_V → jm_M → Prop} {v0 v1 : Int} (h : (∀ v ∈ ([jm_R v0, jm_I v1] : List jm_V), jm_ok v) →
  ((v1 < 0 →
    Q (some (jm_I ((-1)))) μ) ∧
   (¬ (v1 < 0) →
    (jm_is jm_N v0 1 6) ∧
    ((μ v0 1 ≤ v1 →
      Q (some (jm_I ((-1)))) μ) ∧
     (¬ (μ v0 1 ≤ v1) →
      (0 ≤ v1 ∧ v1 < (jm_sn (v0 + 10) : Int)) ∧
      (jm_is jm_N (μ v0 0) 1 5) ∧
      jc E m_X5_spanOf d [jm_R (μ v0 0), jm_I (μ ((v0 + 11)) v1)] μ (fun (o : Option jm_V) (m5 : jm_M) => ∀ r7 : Int, o = some (jm_I r7) →
      Q (some (jm_I (jm_wr (v1 + r7)))) m5)))))) : jc E m_X6_dueOf (d + 1) [jm_R v0, jm_I v1] μ Q := by
  refine jm_Cl.of2 (by decide +kernel) (L0 := [some (jm_R v0), some (jm_I v1)]) rfl (Nat.le_of_ble_eq_true rfl) (fun hok => ?_)
  have h := h hok
  refine jm_iloadn d_X6_dueOf_0 rfl ?_
  refine jm_if_lt (tgt := 30) d_X6_dueOf_1 (by decide) (fun c1 => ?_) (fun c1 => ?_)
  · have h := h.1 c1
    refine jm_iconst (v := (-1)) d_X6_dueOf_30 rfl (jm_okI (by decide) (by decide)) ?_
    exact jm_ret (o := some (jm_I _)) d_X6_dueOf_31 rfl ⟨Nat.le_refl _, Nat.le_refl _⟩ jm_r_I h rfl
  · have h := h.2 c1
    refine jm_iloadn d_X6_dueOf_4 rfl ?_
    refine jm_aloadn d_X6_dueOf_5 rfl ?_
    obtain ⟨f2, h⟩ := h
    refine jm_getI (k := 1) (ki := 1) cf_X6 (Nat.le_of_ble_eq_true rfl) f_X6_43 d_X6_dueOf_6 rfl rfl f2 rfl ?_
    refine jm_icmp_ge (tgt := 30) d_X6_dueOf_9 (by decide) (fun c3 => ?_) (fun c3 => ?_)
    · have h := h.1 c3
      refine jm_iconst (v := (-1)) d_X6_dueOf_30 rfl (jm_okI (by decide) (by decide)) ?_
      exact jm_ret (o := some (jm_I _)) d_X6_dueOf_31 rfl ⟨Nat.le_refl _, Nat.le_refl _⟩ jm_r_I h rfl
    · have h := h.2 c3
      refine jm_iloadn d_X6_dueOf_12 rfl ?_
      refine jm_aloadn d_X6_dueOf_13 rfl ?_
      refine jm_getR (k := 0) (ki := 0) cf_X6 (Nat.le_of_ble_eq_true rfl) f_X6_18 d_X6_dueOf_14 rfl rfl f2 rfl ?_
      refine jm_aloadn d_X6_dueOf_17 rfl ?_
      refine jm_getF (k := 5) (ki := 5) rfl cf_X6 (Nat.le_of_ble_eq_true rfl) f_X6_28 d_X6_dueOf_18 rfl rfl f2 (fc_6_5 f2) ?_
      refine jm_iloadn d_X6_dueOf_21 rfl ?_
      obtain ⟨f4, h⟩ := h
      refine jm_iaload d_X6_dueOf_22 (xc_6_5 f2 f4.1 f4.2) ?_
      obtain ⟨f6, h⟩ := h
      refine jm_invV (n1 := jm_N) (mc := 0) (ms := 0) (av := [jm_I _]) w_X5_spanOf l_X6_118 d_X6_dueOf_23 rfl f6 ⟨_, _, rfl⟩ ⟨Nat.le_refl _, Nat.le_refl _⟩ (Nat.le_of_ble_eq_true rfl) rfl ?_
      refine jm_Cl.mono h (fun o m5 h hr _ => ?_)
      obtain ⟨r7, rfl⟩ := jm_rokI hr
      have h := h _ rfl
      refine jm_iadd d_X6_dueOf_26 ?_
      refine jm_goto (tgt := 31) d_X6_dueOf_27 (by decide) ?_
      exact jm_ret (o := some (jm_I _)) d_X6_dueOf_31 rfl ⟨Nat.le_refl _, Nat.le_refl _⟩ jm_r_I h rfl
/-! ('CombTable$Talk', 'tell', '(II)I') -/
theorem d_X6_tell_0 : decode m_X6_tell.2.1 0 = .ok (.aload_n 0, 1) := by decide +kernel
theorem d_X6_tell_1 : decode m_X6_tell.2.1 1 = .ok (.iload_n 1, 1) := by decide +kernel
theorem d_X6_tell_2 : decode m_X6_tell.2.1 2 = .ok (.invokevirtual 61, 3) := by decide +kernel
theorem d_X6_tell_5 : decode m_X6_tell.2.1 5 = .ok (.ifCond .ne 5, 3) := by decide +kernel
theorem d_X6_tell_8 : decode m_X6_tell.2.1 8 = .ok (.iconst (-1), 1) := by decide +kernel
theorem d_X6_tell_9 : decode m_X6_tell.2.1 9 = .ok (.ireturn, 1) := by decide +kernel
theorem d_X6_tell_10 : decode m_X6_tell.2.1 10 = .ok (.iload_n 2, 1) := by decide +kernel
theorem d_X6_tell_11 : decode m_X6_tell.2.1 11 = .ok (.tableswitch 88 0 6 #[41, 48, 55, 62, 69, 76, 82], 41) := by decide +kernel
theorem d_X6_tell_52 : decode m_X6_tell.2.1 52 = .ok (.aload_n 0, 1) := by decide +kernel
theorem d_X6_tell_53 : decode m_X6_tell.2.1 53 = .ok (.getfield 24, 3) := by decide +kernel
theorem d_X6_tell_56 : decode m_X6_tell.2.1 56 = .ok (.iload_n 1, 1) := by decide +kernel
theorem d_X6_tell_57 : decode m_X6_tell.2.1 57 = .ok (.iaload, 1) := by decide +kernel
theorem d_X6_tell_58 : decode m_X6_tell.2.1 58 = .ok (.ireturn, 1) := by decide +kernel
theorem d_X6_tell_59 : decode m_X6_tell.2.1 59 = .ok (.aload_n 0, 1) := by decide +kernel
theorem d_X6_tell_60 : decode m_X6_tell.2.1 60 = .ok (.getfield 28, 3) := by decide +kernel
theorem d_X6_tell_63 : decode m_X6_tell.2.1 63 = .ok (.iload_n 1, 1) := by decide +kernel
theorem d_X6_tell_64 : decode m_X6_tell.2.1 64 = .ok (.iaload, 1) := by decide +kernel
theorem d_X6_tell_65 : decode m_X6_tell.2.1 65 = .ok (.ireturn, 1) := by decide +kernel
theorem d_X6_tell_66 : decode m_X6_tell.2.1 66 = .ok (.aload_n 0, 1) := by decide +kernel
theorem d_X6_tell_67 : decode m_X6_tell.2.1 67 = .ok (.getfield 31, 3) := by decide +kernel
theorem d_X6_tell_70 : decode m_X6_tell.2.1 70 = .ok (.iload_n 1, 1) := by decide +kernel
theorem d_X6_tell_71 : decode m_X6_tell.2.1 71 = .ok (.iaload, 1) := by decide +kernel
theorem d_X6_tell_72 : decode m_X6_tell.2.1 72 = .ok (.ireturn, 1) := by decide +kernel
theorem d_X6_tell_73 : decode m_X6_tell.2.1 73 = .ok (.aload_n 0, 1) := by decide +kernel
theorem d_X6_tell_74 : decode m_X6_tell.2.1 74 = .ok (.getfield 34, 3) := by decide +kernel
theorem d_X6_tell_77 : decode m_X6_tell.2.1 77 = .ok (.iload_n 1, 1) := by decide +kernel
theorem d_X6_tell_78 : decode m_X6_tell.2.1 78 = .ok (.iaload, 1) := by decide +kernel
theorem d_X6_tell_79 : decode m_X6_tell.2.1 79 = .ok (.ireturn, 1) := by decide +kernel
theorem d_X6_tell_80 : decode m_X6_tell.2.1 80 = .ok (.aload_n 0, 1) := by decide +kernel
theorem d_X6_tell_81 : decode m_X6_tell.2.1 81 = .ok (.getfield 37, 3) := by decide +kernel
theorem d_X6_tell_84 : decode m_X6_tell.2.1 84 = .ok (.iload_n 1, 1) := by decide +kernel
theorem d_X6_tell_85 : decode m_X6_tell.2.1 85 = .ok (.iaload, 1) := by decide +kernel
theorem d_X6_tell_86 : decode m_X6_tell.2.1 86 = .ok (.ireturn, 1) := by decide +kernel
theorem d_X6_tell_87 : decode m_X6_tell.2.1 87 = .ok (.aload_n 0, 1) := by decide +kernel
theorem d_X6_tell_88 : decode m_X6_tell.2.1 88 = .ok (.iload_n 1, 1) := by decide +kernel
theorem d_X6_tell_89 : decode m_X6_tell.2.1 89 = .ok (.invokevirtual 115, 3) := by decide +kernel
theorem d_X6_tell_92 : decode m_X6_tell.2.1 92 = .ok (.ireturn, 1) := by decide +kernel
theorem d_X6_tell_93 : decode m_X6_tell.2.1 93 = .ok (.aload_n 0, 1) := by decide +kernel
theorem d_X6_tell_94 : decode m_X6_tell.2.1 94 = .ok (.iload_n 1, 1) := by decide +kernel
theorem d_X6_tell_95 : decode m_X6_tell.2.1 95 = .ok (.invokevirtual 95, 3) := by decide +kernel
theorem d_X6_tell_98 : decode m_X6_tell.2.1 98 = .ok (.ireturn, 1) := by decide +kernel
theorem d_X6_tell_99 : decode m_X6_tell.2.1 99 = .ok (.aload_n 0, 1) := by decide +kernel
theorem d_X6_tell_100 : decode m_X6_tell.2.1 100 = .ok (.getfield 40, 3) := by decide +kernel
theorem d_X6_tell_103 : decode m_X6_tell.2.1 103 = .ok (.iload_n 1, 1) := by decide +kernel
theorem d_X6_tell_104 : decode m_X6_tell.2.1 104 = .ok (.iaload, 1) := by decide +kernel
theorem d_X6_tell_105 : decode m_X6_tell.2.1 105 = .ok (.iconst 4, 1) := by decide +kernel
theorem d_X6_tell_106 : decode m_X6_tell.2.1 106 = .ok (.if_icmp .lt 11, 3) := by decide +kernel
theorem d_X6_tell_109 : decode m_X6_tell.2.1 109 = .ok (.aload_n 0, 1) := by decide +kernel
theorem d_X6_tell_110 : decode m_X6_tell.2.1 110 = .ok (.iload_n 1, 1) := by decide +kernel
theorem d_X6_tell_111 : decode m_X6_tell.2.1 111 = .ok (.invokevirtual 92, 3) := by decide +kernel
theorem d_X6_tell_114 : decode m_X6_tell.2.1 114 = .ok (.goto 4, 3) := by decide +kernel
theorem d_X6_tell_117 : decode m_X6_tell.2.1 117 = .ok (.iconst (-1), 1) := by decide +kernel
theorem d_X6_tell_118 : decode m_X6_tell.2.1 118 = .ok (.ireturn, 1) := by decide +kernel
set_option maxRecDepth 20000 in
theorem e_X6_tell {E : jm_E} {d : Nat} {μ : jm_M} {Q : Option jm_V → jm_M → Prop} {v0 v1 v2 : Int} (h : (∀ v ∈ ([jm_R v0, jm_I v1, jm_I v2] : List jm_V), jm_ok v) →
  (jm_is jm_N v0 1 6) ∧
  jc E m_X6_has d [jm_R v0, jm_I v1] μ (fun (o : Option jm_V) (m1 : jm_M) => ∀ r3 : Int, o = some (jm_I r3) → (r3 = 0 ∨ r3 = 1) →
  ((r3 ≠ 0 →
    ((v2 = 0 →
      (0 ≤ v1 ∧ v1 < (jm_sn (v0 + 10) : Int)) ∧
      Q (some (jm_I (m1 ((v0 + 10)) v1))) m1) ∧
     (¬ (v2 = 0) →
      ((v2 = 1 →
        (0 ≤ v1 ∧ v1 < (jm_sn (v0 + 10) : Int)) ∧
        Q (some (jm_I (m1 ((v0 + 11)) v1))) m1) ∧
       (¬ (v2 = 1) →
        ((v2 = 2 →
          (0 ≤ v1 ∧ v1 < (jm_sn (v0 + 10) : Int)) ∧
          Q (some (jm_I (m1 ((v0 + 12)) v1))) m1) ∧
         (¬ (v2 = 2) →
          ((v2 = 3 →
            (0 ≤ v1 ∧ v1 < (jm_sn (v0 + 10) : Int)) ∧
            Q (some (jm_I (m1 ((v0 + 13)) v1))) m1) ∧
           (¬ (v2 = 3) →
            ((v2 = 4 →
              (0 ≤ v1 ∧ v1 < (jm_sn (v0 + 10) : Int)) ∧
              Q (some (jm_I (m1 ((v0 + 14)) v1))) m1) ∧
             (¬ (v2 = 4) →
              ((v2 = 5 →
                jc E m_X6_stateOf d [jm_R v0, jm_I v1] m1 (fun (o : Option jm_V) (m17 : jm_M) => ∀ r18 : Int, o = some (jm_I r18) →
                Q (some (jm_I r18)) m17)) ∧
               (¬ (v2 = 5) →
                ((v2 = 6 →
                  jc E m_X6_promisee d [jm_R v0, jm_I v1] m1 (fun (o : Option jm_V) (m20 : jm_M) => ∀ r21 : Int, o = some (jm_I r21) →
                  Q (some (jm_I r21)) m20)) ∧
                 (¬ (v2 = 6) →
                  (0 ≤ v1 ∧ v1 < (jm_sn (v0 + 10) : Int)) ∧
                  (((m1 ((v0 + 15)) v1) < 4 →
                    Q (some (jm_I ((-1)))) m1) ∧
                   (¬ ((m1 ((v0 + 15)) v1) < 4) →
                    jc E m_X6_dueOf d [jm_R v0, jm_I v1] m1 (fun (o : Option jm_V) (m24 : jm_M) => ∀ r25 : Int, o = some (jm_I r25) →
                    Q (some (jm_I r25)) m24)))))))))))))))))) ∧
   (¬ (r3 ≠ 0) →
    Q (some (jm_I ((-1)))) m1)))) : jc E m_X6_tell (d + 1) [jm_R v0, jm_I v1, jm_I v2] μ Q := by
  refine jm_Cl.of2 (by decide +kernel) (L0 := [some (jm_R v0), some (jm_I v1), some (jm_I v2)]) rfl (Nat.le_of_ble_eq_true rfl) (fun hok => ?_)
  have h := h hok
  refine jm_aloadn d_X6_tell_0 rfl ?_
  refine jm_iloadn d_X6_tell_1 rfl ?_
  obtain ⟨f2, h⟩ := h
  refine jm_invV (n1 := jm_N) (mc := 0) (ms := 0) (av := [jm_I _]) w_X6_has l_X6_61 d_X6_tell_2 rfl f2 ⟨_, _, rfl⟩ ⟨Nat.le_refl _, Nat.le_refl _⟩ (Nat.le_of_ble_eq_true rfl) rfl ?_
  refine jm_Cl.mono h (fun o m1 h hr _ => ?_)
  obtain ⟨r3, rfl, z4⟩ := jm_rokZ hr
  have h := h _ rfl z4
  refine jm_if_ne (tgt := 10) d_X6_tell_5 (by decide) (fun c5 => ?_) (fun c5 => ?_)
  · have h := h.1 c5
    refine jm_iloadn d_X6_tell_10 rfl ?_
    by_cases c6 : v2 = 0
    · have h := h.1 c6
      refine jm_table (tgt := 52) (off := 41) d_X6_tell_11 (by rw [c6]; decide) (by rw [c6]; decide) (by rw [c6]; rfl) (by decide) ?_
      refine jm_aloadn d_X6_tell_52 rfl ?_
      refine jm_getF (k := 4) (ki := 4) rfl cf_X6 (Nat.le_of_ble_eq_true rfl) f_X6_24 d_X6_tell_53 rfl rfl f2 (fc_6_4 f2) ?_
      refine jm_iloadn d_X6_tell_56 rfl ?_
      obtain ⟨f7, h⟩ := h
      refine jm_iaload d_X6_tell_57 (xc_6_4 f2 f7.1 f7.2) ?_
      exact jm_ret (o := some (jm_I _)) d_X6_tell_58 rfl ⟨Nat.le_refl _, Nat.le_refl _⟩ jm_r_I h rfl
    · have h := h.2 c6
      by_cases c8 : v2 = 1
      · have h := h.1 c8
        refine jm_table (tgt := 59) (off := 48) d_X6_tell_11 (by rw [c8]; decide) (by rw [c8]; decide) (by rw [c8]; rfl) (by decide) ?_
        refine jm_aloadn d_X6_tell_59 rfl ?_
        refine jm_getF (k := 5) (ki := 5) rfl cf_X6 (Nat.le_of_ble_eq_true rfl) f_X6_28 d_X6_tell_60 rfl rfl f2 (fc_6_5 f2) ?_
        refine jm_iloadn d_X6_tell_63 rfl ?_
        obtain ⟨f9, h⟩ := h
        refine jm_iaload d_X6_tell_64 (xc_6_5 f2 f9.1 f9.2) ?_
        exact jm_ret (o := some (jm_I _)) d_X6_tell_65 rfl ⟨Nat.le_refl _, Nat.le_refl _⟩ jm_r_I h rfl
      · have h := h.2 c8
        by_cases c10 : v2 = 2
        · have h := h.1 c10
          refine jm_table (tgt := 66) (off := 55) d_X6_tell_11 (by rw [c10]; decide) (by rw [c10]; decide) (by rw [c10]; rfl) (by decide) ?_
          refine jm_aloadn d_X6_tell_66 rfl ?_
          refine jm_getF (k := 6) (ki := 6) rfl cf_X6 (Nat.le_of_ble_eq_true rfl) f_X6_31 d_X6_tell_67 rfl rfl f2 (fc_6_6 f2) ?_
          refine jm_iloadn d_X6_tell_70 rfl ?_
          obtain ⟨f11, h⟩ := h
          refine jm_iaload d_X6_tell_71 (xc_6_6 f2 f11.1 f11.2) ?_
          exact jm_ret (o := some (jm_I _)) d_X6_tell_72 rfl ⟨Nat.le_refl _, Nat.le_refl _⟩ jm_r_I h rfl
        · have h := h.2 c10
          by_cases c12 : v2 = 3
          · have h := h.1 c12
            refine jm_table (tgt := 73) (off := 62) d_X6_tell_11 (by rw [c12]; decide) (by rw [c12]; decide) (by rw [c12]; rfl) (by decide) ?_
            refine jm_aloadn d_X6_tell_73 rfl ?_
            refine jm_getF (k := 7) (ki := 7) rfl cf_X6 (Nat.le_of_ble_eq_true rfl) f_X6_34 d_X6_tell_74 rfl rfl f2 (fc_6_7 f2) ?_
            refine jm_iloadn d_X6_tell_77 rfl ?_
            obtain ⟨f13, h⟩ := h
            refine jm_iaload d_X6_tell_78 (xc_6_7 f2 f13.1 f13.2) ?_
            exact jm_ret (o := some (jm_I _)) d_X6_tell_79 rfl ⟨Nat.le_refl _, Nat.le_refl _⟩ jm_r_I h rfl
          · have h := h.2 c12
            by_cases c14 : v2 = 4
            · have h := h.1 c14
              refine jm_table (tgt := 80) (off := 69) d_X6_tell_11 (by rw [c14]; decide) (by rw [c14]; decide) (by rw [c14]; rfl) (by decide) ?_
              refine jm_aloadn d_X6_tell_80 rfl ?_
              refine jm_getF (k := 8) (ki := 8) rfl cf_X6 (Nat.le_of_ble_eq_true rfl) f_X6_37 d_X6_tell_81 rfl rfl f2 (fc_6_8 f2) ?_
              refine jm_iloadn d_X6_tell_84 rfl ?_
              obtain ⟨f15, h⟩ := h
              refine jm_iaload d_X6_tell_85 (xc_6_8 f2 f15.1 f15.2) ?_
              exact jm_ret (o := some (jm_I _)) d_X6_tell_86 rfl ⟨Nat.le_refl _, Nat.le_refl _⟩ jm_r_I h rfl
            · have h := h.2 c14
              by_cases c16 : v2 = 5
              · have h := h.1 c16
                refine jm_table (tgt := 87) (off := 76) d_X6_tell_11 (by rw [c16]; decide) (by rw [c16]; decide) (by rw [c16]; rfl) (by decide) ?_
                refine jm_aloadn d_X6_tell_87 rfl ?_
                refine jm_iloadn d_X6_tell_88 rfl ?_
                refine jm_invV (n1 := jm_N) (mc := 0) (ms := 0) (av := [jm_I _]) w_X6_stateOf l_X6_115 d_X6_tell_89 rfl f2 ⟨_, _, rfl⟩ ⟨Nat.le_refl _, Nat.le_refl _⟩ (Nat.le_of_ble_eq_true rfl) rfl ?_
                refine jm_Cl.mono h (fun o m17 h hr _ => ?_)
                obtain ⟨r18, rfl⟩ := jm_rokI hr
                have h := h _ rfl
                exact jm_ret (o := some (jm_I _)) d_X6_tell_92 rfl ⟨Nat.le_refl _, Nat.le_refl _⟩ jm_r_I h rfl
              · have h := h.2 c16
                by_cases c19 : v2 = 6
                · have h := h.1 c19
                  refine jm_table (tgt := 93) (off := 82) d_X6_tell_11 (by rw [c19]; decide) (by rw [c19]; decide) (by rw [c19]; rfl) (by decide) ?_
                  refine jm_aloadn d_X6_tell_93 rfl ?_
                  refine jm_iloadn d_X6_tell_94 rfl ?_
                  refine jm_invV (n1 := jm_N) (mc := 0) (ms := 0) (av := [jm_I _]) w_X6_promisee l_X6_95 d_X6_tell_95 rfl f2 ⟨_, _, rfl⟩ ⟨Nat.le_refl _, Nat.le_refl _⟩ (Nat.le_of_ble_eq_true rfl) rfl ?_
                  refine jm_Cl.mono h (fun o m20 h hr _ => ?_)
                  obtain ⟨r21, rfl⟩ := jm_rokI hr
                  have h := h _ rfl
                  exact jm_ret (o := some (jm_I _)) d_X6_tell_98 rfl ⟨Nat.le_refl _, Nat.le_refl _⟩ jm_r_I h rfl
                · have h := h.2 c19
                  refine jm_tableD (tgt := 99) d_X6_tell_11 (jm_tb2 (jm_tb1 (jm_tb1 (jm_tb1 (jm_tb1 (jm_tb1 (jm_tb1 (jm_tb1 (jm_tb0 0) c6) c8) c10) c12) c14) c16) c19) rfl) (by decide) ?_
                  refine jm_aloadn d_X6_tell_99 rfl ?_
                  refine jm_getF (k := 9) (ki := 9) rfl cf_X6 (Nat.le_of_ble_eq_true rfl) f_X6_40 d_X6_tell_100 rfl rfl f2 (fc_6_9 f2) ?_
                  refine jm_iloadn d_X6_tell_103 rfl ?_
                  obtain ⟨f22, h⟩ := h
                  refine jm_iaload d_X6_tell_104 (xc_6_9 f2 f22.1 f22.2) ?_
                  refine jm_iconst (v := 4) d_X6_tell_105 rfl (jm_okI (by decide) (by decide)) ?_
                  refine jm_icmp_lt (tgt := 117) d_X6_tell_106 (by decide) (fun c23 => ?_) (fun c23 => ?_)
                  · have h := h.1 c23
                    refine jm_iconst (v := (-1)) d_X6_tell_117 rfl (jm_okI (by decide) (by decide)) ?_
                    exact jm_ret (o := some (jm_I _)) d_X6_tell_118 rfl ⟨Nat.le_refl _, Nat.le_refl _⟩ jm_r_I h rfl
                  · have h := h.2 c23
                    refine jm_aloadn d_X6_tell_109 rfl ?_
                    refine jm_iloadn d_X6_tell_110 rfl ?_
                    refine jm_invV (n1 := jm_N) (mc := 0) (ms := 0) (av := [jm_I _]) w_X6_dueOf l_X6_92 d_X6_tell_111 rfl f2 ⟨_, _, rfl⟩ ⟨Nat.le_refl _, Nat.le_refl _⟩ (Nat.le_of_ble_eq_true rfl) rfl ?_
                    refine jm_Cl.mono h (fun o m24 h hr _ => ?_)
                    obtain ⟨r25, rfl⟩ := jm_rokI hr
                    have h := h _ rfl
                    refine jm_goto (tgt := 118) d_X6_tell_114 (by decide) ?_
                    exact jm_ret (o := some (jm_I _)) d_X6_tell_118 rfl ⟨Nat.le_refl _, Nat.le_refl _⟩ jm_r_I h rfl
  · have h := h.2 c5
    refine jm_iconst (v := (-1)) d_X6_tell_8 rfl (jm_okI (by decide) (by decide)) ?_
    exact jm_ret (o := some (jm_I _)) d_X6_tell_9 rfl ⟨Nat.le_refl _, Nat.le_refl _⟩ jm_r_I h rfl
