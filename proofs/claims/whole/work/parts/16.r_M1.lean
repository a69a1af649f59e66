/-! ('CombTableModel', 'bad', '(I)Z') -/
theorem d_X11_bad_0 : decode m_X11_bad.2.1 0 = .ok (.aload_n 0, 1) := by decide +kernel
theorem d_X11_bad_1 : decode m_X11_bad.2.1 1 = .ok (.aload_n 0, 1) := by decide +kernel
theorem d_X11_bad_2 : decode m_X11_bad.2.1 2 = .ok (.getfield 128, 3) := by decide +kernel
theorem d_X11_bad_5 : decode m_X11_bad.2.1 5 = .ok (.iconst 1, 1) := by decide +kernel
theorem d_X11_bad_6 : decode m_X11_bad.2.1 6 = .ok (.if_icmp .ne 7, 3) := by decide +kernel
theorem d_X11_bad_9 : decode m_X11_bad.2.1 9 = .ok (.iconst 1, 1) := by decide +kernel
theorem d_X11_bad_10 : decode m_X11_bad.2.1 10 = .ok (.goto 4, 3) := by decide +kernel
theorem d_X11_bad_13 : decode m_X11_bad.2.1 13 = .ok (.iload_n 1, 1) := by decide +kernel
theorem d_X11_bad_14 : decode m_X11_bad.2.1 14 = .ok (.putfield 168, 3) := by decide +kernel
theorem d_X11_bad_17 : decode m_X11_bad.2.1 17 = .ok (.aload_n 0, 1) := by decide +kernel
theorem d_X11_bad_18 : decode m_X11_bad.2.1 18 = .ok (.aload_n 0, 1) := by decide +kernel
theorem d_X11_bad_19 : decode m_X11_bad.2.1 19 = .ok (.getfield 122, 3) := by decide +kernel
theorem d_X11_bad_22 : decode m_X11_bad.2.1 22 = .ok (.putfield 171, 3) := by decide +kernel
theorem d_X11_bad_25 : decode m_X11_bad.2.1 25 = .ok (.iconst 0, 1) := by decide +kernel
theorem d_X11_bad_26 : decode m_X11_bad.2.1 26 = .ok (.ireturn, 1) := by decide +kernel
set_option maxRecDepth 20000 in
theorem e_X11_bad {E : jm_E} {d : Nat} {μ : jm_M} {Q : Option jm_V → jm_M → Prop} {v1 : Int} (h : (∀ v ∈ ([jm_R 133, jm_I v1] : List jm_V), jm_ok v) →
  ((μ 133 7 ≠ 1 →
    Q (some (jm_I 0)) (jm_up (jm_up μ 133 10 v1) 133 11 (μ 133 6))) ∧
   (¬ (μ 133 7 ≠ 1) →
    Q (some (jm_I 0)) (jm_up (jm_up μ 133 10 1) 133 11 (μ 133 6))))) : jc E m_X11_bad (d + 1) [jm_R 133, jm_I v1] μ Q := by
  refine jm_Cl.of2 (by decide +kernel) (L0 := [some (jm_R 133), some (jm_I v1)]) rfl (Nat.le_of_ble_eq_true rfl) (fun hok => ?_)
  have h := h hok
  refine jm_aloadn d_X11_bad_0 rfl ?_
  refine jm_aloadn d_X11_bad_1 rfl ?_
  refine jm_getI (k := 7) (ki := 7) cf_X11 (Nat.le_of_ble_eq_true rfl) f_X11_128 d_X11_bad_2 rfl rfl is_133 rfl ?_
  refine jm_iconst (v := 1) d_X11_bad_5 rfl (jm_okI (by decide) (by decide)) ?_
  refine jm_icmp_ne (tgt := 13) d_X11_bad_6 (by decide) (fun c1 => ?_) (fun c1 => ?_)
  · have h := h.1 c1
    refine jm_iloadn d_X11_bad_13 rfl ?_
    refine jm_putI (k := 10) (ki := 10) cf_X11 (Nat.le_of_ble_eq_true rfl) f_X11_168 d_X11_bad_14 (fun z => absurd z (by decide)) rfl rfl rfl (fun _ => rfl) is_133 ?_
    refine jm_aloadn d_X11_bad_17 rfl ?_
    refine jm_aloadn d_X11_bad_18 rfl ?_
    refine jm_getI (k := 6) (ki := 6) cf_X11 (Nat.le_of_ble_eq_true rfl) f_X11_122 d_X11_bad_19 rfl rfl is_133 ((jm_up_i (by decide)).trans rfl) ?_
    refine jm_putI (k := 11) (ki := 11) cf_X11 (Nat.le_of_ble_eq_true rfl) f_X11_171 d_X11_bad_22 (fun z => absurd z (by decide)) rfl rfl rfl (fun _ => rfl) is_133 ?_
    refine jm_iconst (v := 0) d_X11_bad_25 rfl (jm_okI (by decide) (by decide)) ?_
    exact jm_ret (o := some (jm_I _)) d_X11_bad_26 rfl ⟨Nat.le_refl _, Nat.le_refl _⟩ (jm_r_Z (by decide)) h rfl
  · have h := h.2 c1
    refine jm_iconst (v := 1) d_X11_bad_9 rfl (jm_okI (by decide) (by decide)) ?_
    refine jm_goto (tgt := 14) d_X11_bad_10 (by decide) ?_
    refine jm_putI (k := 10) (ki := 10) cf_X11 (Nat.le_of_ble_eq_true rfl) f_X11_168 d_X11_bad_14 (fun z => absurd z (by decide)) rfl rfl rfl (fun _ => rfl) is_133 ?_
    refine jm_aloadn d_X11_bad_17 rfl ?_
    refine jm_aloadn d_X11_bad_18 rfl ?_
    refine jm_getI (k := 6) (ki := 6) cf_X11 (Nat.le_of_ble_eq_true rfl) f_X11_122 d_X11_bad_19 rfl rfl is_133 ((jm_up_i (by decide)).trans rfl) ?_
    refine jm_putI (k := 11) (ki := 11) cf_X11 (Nat.le_of_ble_eq_true rfl) f_X11_171 d_X11_bad_22 (fun z => absurd z (by decide)) rfl rfl rfl (fun _ => rfl) is_133 ?_
    refine jm_iconst (v := 0) d_X11_bad_25 rfl (jm_okI (by decide) (by decide)) ?_
    exact jm_ret (o := some (jm_I _)) d_X11_bad_26 rfl ⟨Nat.le_refl _, Nat.le_refl _⟩ (jm_r_Z (by decide)) h rfl
/-! ('CombTableModel', 'readNumber', '(II)Z') -/
theorem d_X11_readNumber_0 : decode m_X11_readNumber.2.1 0 = .ok (.aload_n 0, 1) := by decide +kernel
theorem d_X11_readNumber_1 : decode m_X11_readNumber.2.1 1 = .ok (.getfield 128, 3) := by decide +kernel
theorem d_X11_readNumber_4 : decode m_X11_readNumber.2.1 4 = .ok (.iconst 3, 1) := by decide +kernel
theorem d_X11_readNumber_5 : decode m_X11_readNumber.2.1 5 = .ok (.if_icmp .eq 9, 3) := by decide +kernel
theorem d_X11_readNumber_8 : decode m_X11_readNumber.2.1 8 = .ok (.aload_n 0, 1) := by decide +kernel
theorem d_X11_readNumber_9 : decode m_X11_readNumber.2.1 9 = .ok (.iconst 1, 1) := by decide +kernel
theorem d_X11_readNumber_10 : decode m_X11_readNumber.2.1 10 = .ok (.invokevirtual 174, 3) := by decide +kernel
theorem d_X11_readNumber_13 : decode m_X11_readNumber.2.1 13 = .ok (.ireturn, 1) := by decide +kernel
theorem d_X11_readNumber_14 : decode m_X11_readNumber.2.1 14 = .ok (.aload_n 0, 1) := by decide +kernel
theorem d_X11_readNumber_15 : decode m_X11_readNumber.2.1 15 = .ok (.getfield 145, 3) := by decide +kernel
theorem d_X11_readNumber_18 : decode m_X11_readNumber.2.1 18 = .ok (.iload_n 1, 1) := by decide +kernel
theorem d_X11_readNumber_19 : decode m_X11_readNumber.2.1 19 = .ok (.iload_n 2, 1) := by decide +kernel
theorem d_X11_readNumber_20 : decode m_X11_readNumber.2.1 20 = .ok (.invokestatic 177, 3) := by decide +kernel
theorem d_X11_readNumber_23 : decode m_X11_readNumber.2.1 23 = .ok (.ifCond .ne 9, 3) := by decide +kernel
theorem d_X11_readNumber_26 : decode m_X11_readNumber.2.1 26 = .ok (.aload_n 0, 1) := by decide +kernel
theorem d_X11_readNumber_27 : decode m_X11_readNumber.2.1 27 = .ok (.iconst 2, 1) := by decide +kernel
theorem d_X11_readNumber_28 : decode m_X11_readNumber.2.1 28 = .ok (.invokevirtual 174, 3) := by decide +kernel
theorem d_X11_readNumber_31 : decode m_X11_readNumber.2.1 31 = .ok (.ireturn, 1) := by decide +kernel
theorem d_X11_readNumber_32 : decode m_X11_readNumber.2.1 32 = .ok (.aload_n 0, 1) := by decide +kernel
theorem d_X11_readNumber_33 : decode m_X11_readNumber.2.1 33 = .ok (.aload_n 0, 1) := by decide +kernel
theorem d_X11_readNumber_34 : decode m_X11_readNumber.2.1 34 = .ok (.getfield 145, 3) := by decide +kernel
theorem d_X11_readNumber_37 : decode m_X11_readNumber.2.1 37 = .ok (.putfield 181, 3) := by decide +kernel
theorem d_X11_readNumber_40 : decode m_X11_readNumber.2.1 40 = .ok (.aload_n 0, 1) := by decide +kernel
theorem d_X11_readNumber_41 : decode m_X11_readNumber.2.1 41 = .ok (.invokevirtual 184, 3) := by decide +kernel
theorem d_X11_readNumber_44 : decode m_X11_readNumber.2.1 44 = .ok (.iconst 1, 1) := by decide +kernel
theorem d_X11_readNumber_45 : decode m_X11_readNumber.2.1 45 = .ok (.ireturn, 1) := by decide +kernel
set_option maxRecDepth 20000 in
theorem e_X11_readNumber {E : jm_E} {d : Nat} {μ : jm_M} {Q : Option jm_V → jm_M → Prop} {v1 v2 : Int} (h : (∀ v ∈ ([jm_R 133, jm_I v1, jm_I v2] : List jm_V), jm_ok v) →
  ((μ 133 7 = 3 →
    jc E m_X11_isIn d [jm_I (μ 133 8), jm_I v1, jm_I v2] μ (fun (o : Option jm_V) (m2 : jm_M) => ∀ r3 : Int, o = some (jm_I r3) → (r3 = 0 ∨ r3 = 1) →
    ((r3 ≠ 0 →
      jc E m_X11_go d [jm_R 133] (jm_up m2 133 13 (m2 133 8)) (fun (o : Option jm_V) (m6 : jm_M) => o = none →
      Q (some (jm_I 1)) m6)) ∧
     (¬ (r3 ≠ 0) →
      jc E m_X11_bad d [jm_R 133, jm_I 2] m2 (fun (o : Option jm_V) (m7 : jm_M) => ∀ r8 : Int, o = some (jm_I r8) → (r8 = 0 ∨ r8 = 1) →
      Q (some (jm_I r8)) m7))))) ∧
   (¬ (μ 133 7 = 3) →
    jc E m_X11_bad d [jm_R 133, jm_I 1] μ (fun (o : Option jm_V) (m10 : jm_M) => ∀ r11 : Int, o = some (jm_I r11) → (r11 = 0 ∨ r11 = 1) →
    Q (some (jm_I r11)) m10)))) : jc E m_X11_readNumber (d + 1) [jm_R 133, jm_I v1, jm_I v2] μ Q := by
  refine jm_Cl.of2 (by decide +kernel) (L0 := [some (jm_R 133), some (jm_I v1), some (jm_I v2)]) rfl (Nat.le_of_ble_eq_true rfl) (fun hok => ?_)
  have h := h hok
  refine jm_aloadn d_X11_readNumber_0 rfl ?_
  refine jm_getI (k := 7) (ki := 7) cf_X11 (Nat.le_of_ble_eq_true rfl) f_X11_128 d_X11_readNumber_1 rfl rfl is_133 rfl ?_
  refine jm_iconst (v := 3) d_X11_readNumber_4 rfl (jm_okI (by decide) (by decide)) ?_
  refine jm_icmp_eq (tgt := 14) d_X11_readNumber_5 (by decide) (fun c1 => ?_) (fun c1 => ?_)
  · have h := h.1 c1
    refine jm_aloadn d_X11_readNumber_14 rfl ?_
    refine jm_getI (k := 8) (ki := 8) cf_X11 (Nat.le_of_ble_eq_true rfl) f_X11_145 d_X11_readNumber_15 rfl rfl is_133 rfl ?_
    refine jm_iloadn d_X11_readNumber_18 rfl ?_
    refine jm_iloadn d_X11_readNumber_19 rfl ?_
    refine jm_invS (n1 := jm_N) (mc := 0) (ms := 0) (av := [jm_I _, jm_I _, jm_I _]) w_X11_isIn l_X11_177 d_X11_readNumber_20 rfl ⟨Nat.le_refl _, Nat.le_refl _⟩ (Nat.le_of_ble_eq_true rfl) rfl ?_
    refine jm_Cl.mono h (fun o m2 h hr _ => ?_)
    obtain ⟨r3, rfl, z4⟩ := jm_rokZ hr
    have h := h _ rfl z4
    refine jm_if_ne (tgt := 32) d_X11_readNumber_23 (by decide) (fun c5 => ?_) (fun c5 => ?_)
    · have h := h.1 c5
      refine jm_aloadn d_X11_readNumber_32 rfl ?_
      refine jm_aloadn d_X11_readNumber_33 rfl ?_
      refine jm_getI (k := 8) (ki := 8) cf_X11 (Nat.le_of_ble_eq_true rfl) f_X11_145 d_X11_readNumber_34 rfl rfl is_133 rfl ?_
      refine jm_putI (k := 13) (ki := 13) cf_X11 (Nat.le_of_ble_eq_true rfl) f_X11_181 d_X11_readNumber_37 (fun z => absurd z (by decide)) rfl rfl rfl (fun _ => rfl) is_133 ?_
      refine jm_aloadn d_X11_readNumber_40 rfl ?_
      refine jm_invV (n1 := jm_N) (mc := 0) (ms := 0) (av := []) w_X11_go l_X11_184 d_X11_readNumber_41 rfl is_133 ⟨_, _, rfl⟩ ⟨Nat.le_refl _, Nat.le_refl _⟩ (Nat.le_of_ble_eq_true rfl) rfl ?_
      refine jm_Cl.mono h (fun o m6 h hr _ => ?_)
      obtain rfl := jm_rokV hr
      have h := h rfl
      refine jm_iconst (v := 1) d_X11_readNumber_44 rfl (jm_okI (by decide) (by decide)) ?_
      exact jm_ret (o := some (jm_I _)) d_X11_readNumber_45 rfl ⟨Nat.le_refl _, Nat.le_refl _⟩ (jm_r_Z (by decide)) h rfl
    · have h := h.2 c5
      refine jm_aloadn d_X11_readNumber_26 rfl ?_
      refine jm_iconst (v := 2) d_X11_readNumber_27 rfl (jm_okI (by decide) (by decide)) ?_
      refine jm_invV (n1 := jm_N) (mc := 0) (ms := 0) (av := [jm_I _]) w_X11_bad l_X11_174 d_X11_readNumber_28 rfl is_133 ⟨_, _, rfl⟩ ⟨Nat.le_refl _, Nat.le_refl _⟩ (Nat.le_of_ble_eq_true rfl) rfl ?_
      refine jm_Cl.mono h (fun o m7 h hr _ => ?_)
      obtain ⟨r8, rfl, z9⟩ := jm_rokZ hr
      have h := h _ rfl z9
      exact jm_ret (o := some (jm_I _)) d_X11_readNumber_31 rfl ⟨Nat.le_refl _, Nat.le_refl _⟩ (jm_r_Z z9) h rfl
  · have h := h.2 c1
    refine jm_aloadn d_X11_readNumber_8 rfl ?_
    refine jm_iconst (v := 1) d_X11_readNumber_9 rfl (jm_okI (by decide) (by decide)) ?_
    refine jm_invV (n1 := jm_N) (mc := 0) (ms := 0) (av := [jm_I _]) w_X11_bad l_X11_174 d_X11_readNumber_10 rfl is_133 ⟨_, _, rfl⟩ ⟨Nat.le_refl _, Nat.le_refl _⟩ (Nat.le_of_ble_eq_true rfl) rfl ?_
    refine jm_Cl.mono h (fun o m10 h hr _ => ?_)
    obtain ⟨r11, rfl, z12⟩ := jm_rokZ hr
    have h := h _ rfl z12
    exact jm_ret (o := some (jm_I _)) d_X11_readNumber_13 rfl ⟨Nat.le_refl _, Nat.le_refl _⟩ (jm_r_Z z12) h rfl
/-! ('CombTableModel', 'readEnd', '()Z') -/
theorem d_X11_readEnd_0 : decode m_X11_readEnd.2.1 0 = .ok (.aload_n 0, 1) := by decide +kernel
theorem d_X11_readEnd_1 : decode m_X11_readEnd.2.1 1 = .ok (.bipush 59, 2) := by decide +kernel
theorem d_X11_readEnd_3 : decode m_X11_readEnd.2.1 3 = .ok (.invokevirtual 187, 3) := by decide +kernel
theorem d_X11_readEnd_6 : decode m_X11_readEnd.2.1 6 = .ok (.ifCond .ne 9, 3) := by decide +kernel
theorem d_X11_readEnd_9 : decode m_X11_readEnd.2.1 9 = .ok (.aload_n 0, 1) := by decide +kernel
theorem d_X11_readEnd_10 : decode m_X11_readEnd.2.1 10 = .ok (.iconst 1, 1) := by decide +kernel
theorem d_X11_readEnd_11 : decode m_X11_readEnd.2.1 11 = .ok (.invokevirtual 174, 3) := by decide +kernel
theorem d_X11_readEnd_14 : decode m_X11_readEnd.2.1 14 = .ok (.ireturn, 1) := by decide +kernel
theorem d_X11_readEnd_15 : decode m_X11_readEnd.2.1 15 = .ok (.aload_n 0, 1) := by decide +kernel
theorem d_X11_readEnd_16 : decode m_X11_readEnd.2.1 16 = .ok (.invokevirtual 184, 3) := by decide +kernel
theorem d_X11_readEnd_19 : decode m_X11_readEnd.2.1 19 = .ok (.iconst 1, 1) := by decide +kernel
theorem d_X11_readEnd_20 : decode m_X11_readEnd.2.1 20 = .ok (.ireturn, 1) := by decide +kernel
set_option maxRecDepth 20000 in
theorem e_X11_readEnd {E : jm_E} {d : Nat} {μ : jm_M} {Q : Option jm_V → jm_M → Prop}  (h : (∀ v ∈ ([jm_R 133] : List jm_V), jm_ok v) →
  jc E m_X11_isSign d [jm_R 133, jm_I 59] μ (fun (o : Option jm_V) (m1 : jm_M) => ∀ r2 : Int, o = some (jm_I r2) → (r2 = 0 ∨ r2 = 1) →
  ((r2 ≠ 0 →
    jc E m_X11_go d [jm_R 133] m1 (fun (o : Option jm_V) (m5 : jm_M) => o = none →
    Q (some (jm_I 1)) m5)) ∧
   (¬ (r2 ≠ 0) →
    jc E m_X11_bad d [jm_R 133, jm_I 1] m1 (fun (o : Option jm_V) (m6 : jm_M) => ∀ r7 : Int, o = some (jm_I r7) → (r7 = 0 ∨ r7 = 1) →
    Q (some (jm_I r7)) m6))))) : jc E m_X11_readEnd (d + 1) [jm_R 133] μ Q := by
  refine jm_Cl.of2 (by decide +kernel) (L0 := [some (jm_R 133)]) rfl (Nat.le_of_ble_eq_true rfl) (fun hok => ?_)
  have h := h hok
  refine jm_aloadn d_X11_readEnd_0 rfl ?_
  refine jm_bipush (v := 59) d_X11_readEnd_1 rfl (jm_okI (by decide) (by decide)) ?_
  refine jm_invV (n1 := jm_N) (mc := 0) (ms := 0) (av := [jm_I _]) w_X11_isSign l_X11_187 d_X11_readEnd_3 rfl is_133 ⟨_, _, rfl⟩ ⟨Nat.le_refl _, Nat.le_refl _⟩ (Nat.le_of_ble_eq_true rfl) rfl ?_
  refine jm_Cl.mono h (fun o m1 h hr _ => ?_)
  obtain ⟨r2, rfl, z3⟩ := jm_rokZ hr
  have h := h _ rfl z3
  refine jm_if_ne (tgt := 15) d_X11_readEnd_6 (by decide) (fun c4 => ?_) (fun c4 => ?_)
  · have h := h.1 c4
    refine jm_aloadn d_X11_readEnd_15 rfl ?_
    refine jm_invV (n1 := jm_N) (mc := 0) (ms := 0) (av := []) w_X11_go l_X11_184 d_X11_readEnd_16 rfl is_133 ⟨_, _, rfl⟩ ⟨Nat.le_refl _, Nat.le_refl _⟩ (Nat.le_of_ble_eq_true rfl) rfl ?_
    refine jm_Cl.mono h (fun o m5 h hr _ => ?_)
    obtain rfl := jm_rokV hr
    have h := h rfl
    refine jm_iconst (v := 1) d_X11_readEnd_19 rfl (jm_okI (by decide) (by decide)) ?_
    exact jm_ret (o := some (jm_I _)) d_X11_readEnd_20 rfl ⟨Nat.le_refl _, Nat.le_refl _⟩ (jm_r_Z (by decide)) h rfl
  · have h := h.2 c4
    refine jm_aloadn d_X11_readEnd_9 rfl ?_
    refine jm_iconst (v := 1) d_X11_readEnd_10 rfl (jm_okI (by decide) (by decide)) ?_
    refine jm_invV (n1 := jm_N) (mc := 0) (ms := 0) (av := [jm_I _]) w_X11_bad l_X11_174 d_X11_readEnd_11 rfl is_133 ⟨_, _, rfl⟩ ⟨Nat.le_refl _, Nat.le_refl _⟩ (Nat.le_of_ble_eq_true rfl) rfl ?_
    refine jm_Cl.mono h (fun o m6 h hr _ => ?_)
    obtain ⟨r7, rfl, z8⟩ := jm_rokZ hr
    have h := h _ rfl z8
    exact jm_ret (o := some (jm_I _)) d_X11_readEnd_14 rfl ⟨Nat.le_refl _, Nat.le_refl _⟩ (jm_r_Z z8) h rfl
/-! ('CombTableModel', 'begin', '(I)V') -/
theorem d_X11_begin_0 : decode m_X11_begin.2.1 0 = .ok (.aload_n 0, 1) := by decide +kernel
theorem d_X11_begin_1 : decode m_X11_begin.2.1 1 = .ok (.iconst 0, 1) := by decide +kernel
theorem d_X11_begin_2 : decode m_X11_begin.2.1 2 = .ok (.putfield 106, 3) := by decide +kernel
theorem d_X11_begin_5 : decode m_X11_begin.2.1 5 = .ok (.aload_n 0, 1) := by decide +kernel
theorem d_X11_begin_6 : decode m_X11_begin.2.1 6 = .ok (.aload_n 0, 1) := by decide +kernel
theorem d_X11_begin_7 : decode m_X11_begin.2.1 7 = .ok (.invokevirtual 190, 3) := by decide +kernel
theorem d_X11_begin_10 : decode m_X11_begin.2.1 10 = .ok (.putfield 116, 3) := by decide +kernel
theorem d_X11_begin_13 : decode m_X11_begin.2.1 13 = .ok (.aload_n 0, 1) := by decide +kernel
theorem d_X11_begin_14 : decode m_X11_begin.2.1 14 = .ok (.iload_n 1, 1) := by decide +kernel
theorem d_X11_begin_15 : decode m_X11_begin.2.1 15 = .ok (.putfield 125, 3) := by decide +kernel
theorem d_X11_begin_18 : decode m_X11_begin.2.1 18 = .ok (.aload_n 0, 1) := by decide +kernel
theorem d_X11_begin_19 : decode m_X11_begin.2.1 19 = .ok (.iconst 0, 1) := by decide +kernel
theorem d_X11_begin_20 : decode m_X11_begin.2.1 20 = .ok (.putfield 168, 3) := by decide +kernel
theorem d_X11_begin_23 : decode m_X11_begin.2.1 23 = .ok (.aload_n 0, 1) := by decide +kernel
theorem d_X11_begin_24 : decode m_X11_begin.2.1 24 = .ok (.iconst 0, 1) := by decide +kernel
theorem d_X11_begin_25 : decode m_X11_begin.2.1 25 = .ok (.putfield 119, 3) := by decide +kernel
theorem d_X11_begin_28 : decode m_X11_begin.2.1 28 = .ok (.aload_n 0, 1) := by decide +kernel
theorem d_X11_begin_29 : decode m_X11_begin.2.1 29 = .ok (.invokevirtual 184, 3) := by decide +kernel
theorem d_X11_begin_32 : decode m_X11_begin.2.1 32 = .ok (.return_, 1) := by decide +kernel
set_option maxRecDepth 20000 in
theorem e_X11_begin {E : jm_E} {d : Nat} {μ : jm_M} {Q : Option jm_V → jm_M → Prop} {v1 : Int} (h : (∀ v ∈ ([jm_R 133, jm_I v1] : List jm_V), jm_ok v) →
  jc E m_X11_take d [jm_R 133] (jm_up μ 133 0 0) (fun (o : Option jm_V) (m1 : jm_M) => ∀ r2 : Int, o = some (jm_I r2) →
  jc E m_X11_go d [jm_R 133] (jm_up (jm_up (jm_up (jm_up m1 133 3 r2) 133 4 v1) 133 10 0) 133 5 0) (fun (o : Option jm_V) (m3 : jm_M) => o = none →
  Q none m3))) : jc E m_X11_begin (d + 1) [jm_R 133, jm_I v1] μ Q := by
  refine jm_Cl.of2 (by decide +kernel) (L0 := [some (jm_R 133), some (jm_I v1)]) rfl (Nat.le_of_ble_eq_true rfl) (fun hok => ?_)
  have h := h hok
  refine jm_aloadn d_X11_begin_0 rfl ?_
  refine jm_iconst (v := 0) d_X11_begin_1 rfl (jm_okI (by decide) (by decide)) ?_
  refine jm_putI (k := 0) (ki := 0) cf_X11 (Nat.le_of_ble_eq_true rfl) f_X11_106 d_X11_begin_2 (fun z => absurd z (by decide)) rfl rfl rfl (fun _ => rfl) is_133 ?_
  refine jm_aloadn d_X11_begin_5 rfl ?_
  refine jm_aloadn d_X11_begin_6 rfl ?_
  refine jm_invV (n1 := jm_N) (mc := 0) (ms := 0) (av := []) w_X11_take l_X11_190 d_X11_begin_7 rfl is_133 ⟨_, _, rfl⟩ ⟨Nat.le_refl _, Nat.le_refl _⟩ (Nat.le_of_ble_eq_true rfl) rfl ?_
  refine jm_Cl.mono h (fun o m1 h hr _ => ?_)
  obtain ⟨r2, rfl⟩ := jm_rokI hr
  have h := h _ rfl
  refine jm_putI (k := 3) (ki := 3) cf_X11 (Nat.le_of_ble_eq_true rfl) f_X11_116 d_X11_begin_10 (fun z => absurd z (by decide)) rfl rfl rfl (fun _ => rfl) is_133 ?_
  refine jm_aloadn d_X11_begin_13 rfl ?_
  refine jm_iloadn d_X11_begin_14 rfl ?_
  refine jm_putI (k := 4) (ki := 4) cf_X11 (Nat.le_of_ble_eq_true rfl) f_X11_125 d_X11_begin_15 (fun z => absurd z (by decide)) rfl rfl rfl (fun _ => rfl) is_133 ?_
  refine jm_aloadn d_X11_begin_18 rfl ?_
  refine jm_iconst (v := 0) d_X11_begin_19 rfl (jm_okI (by decide) (by decide)) ?_
  refine jm_putI (k := 10) (ki := 10) cf_X11 (Nat.le_of_ble_eq_true rfl) f_X11_168 d_X11_begin_20 (fun z => absurd z (by decide)) rfl rfl rfl (fun _ => rfl) is_133 ?_
  refine jm_aloadn d_X11_begin_23 rfl ?_
  refine jm_iconst (v := 0) d_X11_begin_24 rfl (jm_okI (by decide) (by decide)) ?_
  refine jm_putI (k := 5) (ki := 5) cf_X11 (Nat.le_of_ble_eq_true rfl) f_X11_119 d_X11_begin_25 (fun z => absurd z (by decide)) rfl rfl rfl (fun _ => rfl) is_133 ?_
  refine jm_aloadn d_X11_begin_28 rfl ?_
  refine jm_invV (n1 := jm_N) (mc := 0) (ms := 0) (av := []) w_X11_go l_X11_184 d_X11_begin_29 rfl is_133 ⟨_, _, rfl⟩ ⟨Nat.le_refl _, Nat.le_refl _⟩ (Nat.le_of_ble_eq_true rfl) rfl ?_
  refine jm_Cl.mono h (fun o m3 h hr _ => ?_)
  obtain rfl := jm_rokV hr
  have h := h rfl
  exact jm_ret (o := none) d_X11_begin_32 rfl ⟨Nat.le_refl _, Nat.le_refl _⟩ jm_r_V h rfl
/-! ('CombTableModel', 'findIn', '([JII)I') -/
theorem d_X11_findIn_0 : decode m_X11_findIn.2.1 0 = .ok (.iconst 0, 1) := by decide +kernel
theorem d_X11_findIn_1 : decode m_X11_findIn.2.1 1 = .ok (.istore 4, 2) := by decide +kernel
theorem d_X11_findIn_3 : decode m_X11_findIn.2.1 3 = .ok (.iload 4, 2) := by decide +kernel
theorem d_X11_findIn_5 : decode m_X11_findIn.2.1 5 = .ok (.iload_n 3, 1) := by decide +kernel
theorem d_X11_findIn_6 : decode m_X11_findIn.2.1 6 = .ok (.if_icmp .ge 26, 3) := by decide +kernel
theorem d_X11_findIn_9 : decode m_X11_findIn.2.1 9 = .ok (.aload_n 1, 1) := by decide +kernel
theorem d_X11_findIn_10 : decode m_X11_findIn.2.1 10 = .ok (.iload_n 2, 1) := by decide +kernel
theorem d_X11_findIn_11 : decode m_X11_findIn.2.1 11 = .ok (.iload 4, 2) := by decide +kernel
theorem d_X11_findIn_13 : decode m_X11_findIn.2.1 13 = .ok (.iadd, 1) := by decide +kernel
theorem d_X11_findIn_14 : decode m_X11_findIn.2.1 14 = .ok (.laload, 1) := by decide +kernel
theorem d_X11_findIn_15 : decode m_X11_findIn.2.1 15 = .ok (.aload_n 0, 1) := by decide +kernel
theorem d_X11_findIn_16 : decode m_X11_findIn.2.1 16 = .ok (.getfield 141, 3) := by decide +kernel
theorem d_X11_findIn_19 : decode m_X11_findIn.2.1 19 = .ok (.lcmp, 1) := by decide +kernel
theorem d_X11_findIn_20 : decode m_X11_findIn.2.1 20 = .ok (.ifCond .ne 6, 3) := by decide +kernel
theorem d_X11_findIn_23 : decode m_X11_findIn.2.1 23 = .ok (.iload 4, 2) := by decide +kernel
theorem d_X11_findIn_25 : decode m_X11_findIn.2.1 25 = .ok (.ireturn, 1) := by decide +kernel
theorem d_X11_findIn_26 : decode m_X11_findIn.2.1 26 = .ok (.iinc 4 1, 3) := by decide +kernel
theorem d_X11_findIn_29 : decode m_X11_findIn.2.1 29 = .ok (.goto (-26), 3) := by decide +kernel
theorem d_X11_findIn_32 : decode m_X11_findIn.2.1 32 = .ok (.iconst (-1), 1) := by decide +kernel
theorem d_X11_findIn_33 : decode m_X11_findIn.2.1 33 = .ok (.ireturn, 1) := by decide +kernel
set_option maxRecDepth 20000 in
theorem e_X11_findIn {E : jm_E} {d : Nat} {μ : jm_M} {Q : Option jm_V → jm_M → Prop} {v1 v2 v3 : Int} (h : (∀ v ∈ ([jm_R 133, jm_R v1, jm_I v2, jm_I v3] : List jm_V), jm_ok v) →
  jg E m_X11_findIn d 3 [some (jm_R 133), some (jm_R v1), some (jm_I v2), some (jm_I v3), some (jm_I 0)] [] μ Q) : jc E m_X11_findIn (d + 1) [jm_R 133, jm_R v1, jm_I v2, jm_I v3] μ Q := by
  refine jm_Cl.of2 (by decide +kernel) (L0 := [some (jm_R 133), some (jm_R v1), some (jm_I v2), some (jm_I v3), none]) rfl (Nat.le_of_ble_eq_true rfl) (fun hok => ?_)
  have h := h hok
  refine jm_iconst (v := 0) d_X11_findIn_0 rfl (jm_okI (by decide) (by decide)) ?_
  refine jm_istore (L' := [some (jm_R _), some (jm_R _), some (jm_I _), some (jm_I _), some (jm_I _)]) d_X11_findIn_1 (Nat.le_of_ble_eq_true rfl) rfl ?_
  exact h
set_option maxRecDepth 20000 in
theorem r_X11_findIn_3 {E : jm_E} {d : Nat} {μ : jm_M} {Q : Option jm_V → jm_M → Prop} {v1 v2 v3 v4 : Int} (h :
  ((v3 ≤ v4 →
    Q (some (jm_I ((-1)))) μ) ∧
   (¬ (v3 ≤ v4) →
    (jm_ix jm_N v1 3 (jm_wr (v2 + v4))) ∧
    (((jm_cmp (μ v1 (jm_wr (v2 + v4))) (μ 133 12)) ≠ 0 →
      jg E m_X11_findIn d 3 [some (jm_R 133), some (jm_R v1), some (jm_I v2), some (jm_I v3), some (jm_I (jm_wr (v4 + 1)))] [] μ Q) ∧
     (¬ ((jm_cmp (μ v1 (jm_wr (v2 + v4))) (μ 133 12)) ≠ 0) →
      Q (some (jm_I v4)) μ))))) : jg E m_X11_findIn d 3 [some (jm_R 133), some (jm_R v1), some (jm_I v2), some (jm_I v3), some (jm_I v4)] [] μ Q := by
  refine jm_iload d_X11_findIn_3 rfl ?_
  refine jm_iloadn d_X11_findIn_5 rfl ?_
  refine jm_icmp_ge (tgt := 32) d_X11_findIn_6 (by decide) (fun c1 => ?_) (fun c1 => ?_)
  · have h := h.1 c1
    refine jm_iconst (v := (-1)) d_X11_findIn_32 rfl (jm_okI (by decide) (by decide)) ?_
    exact jm_ret (o := some (jm_I _)) d_X11_findIn_33 rfl ⟨Nat.le_refl _, Nat.le_refl _⟩ jm_r_I h rfl
  · have h := h.2 c1
    refine jm_aloadn d_X11_findIn_9 rfl ?_
    refine jm_iloadn d_X11_findIn_10 rfl ?_
    refine jm_iload d_X11_findIn_11 rfl ?_
    refine jm_iadd d_X11_findIn_13 ?_
    obtain ⟨f2, h⟩ := h
    refine jm_laload d_X11_findIn_14 f2 ?_
    refine jm_aloadn d_X11_findIn_15 rfl ?_
    refine jm_getL (k := 12) (ki := 12) cf_X11 (Nat.le_of_ble_eq_true rfl) f_X11_141 d_X11_findIn_16 rfl rfl is_133 rfl ?_
    refine jm_lcmp d_X11_findIn_19 ?_
    refine jm_if_ne (tgt := 26) d_X11_findIn_20 (by decide) (fun c3 => ?_) (fun c3 => ?_)
    · have h := h.1 c3
      refine jm_iinc (L' := [some (jm_R _), some (jm_R _), some (jm_I _), some (jm_I _), some (jm_I _)]) d_X11_findIn_26 rfl rfl (Nat.le_of_ble_eq_true rfl) rfl ?_
      refine jm_goto (tgt := 3) d_X11_findIn_29 (by decide) ?_
      exact h
    · have h := h.2 c3
      refine jm_iload d_X11_findIn_23 rfl ?_
      exact jm_ret (o := some (jm_I _)) d_X11_findIn_25 rfl ⟨Nat.le_refl _, Nat.le_refl _⟩ jm_r_I h rfl
/-! ('CombTableModel', 'readNew', '(I)Z') -/
theorem d_X11_readNew_0 : decode m_X11_readNew.2.1 0 = .ok (.aload_n 0, 1) := by decide +kernel
theorem d_X11_readNew_1 : decode m_X11_readNew.2.1 1 = .ok (.invokevirtual 194, 3) := by decide +kernel
theorem d_X11_readNew_4 : decode m_X11_readNew.2.1 4 = .ok (.ifCond .ne 9, 3) := by decide +kernel
theorem d_X11_readNew_7 : decode m_X11_readNew.2.1 7 = .ok (.aload_n 0, 1) := by decide +kernel
theorem d_X11_readNew_8 : decode m_X11_readNew.2.1 8 = .ok (.iconst 1, 1) := by decide +kernel
theorem d_X11_readNew_9 : decode m_X11_readNew.2.1 9 = .ok (.invokevirtual 174, 3) := by decide +kernel
theorem d_X11_readNew_12 : decode m_X11_readNew.2.1 12 = .ok (.ireturn, 1) := by decide +kernel
theorem d_X11_readNew_13 : decode m_X11_readNew.2.1 13 = .ok (.aload_n 0, 1) := by decide +kernel
theorem d_X11_readNew_14 : decode m_X11_readNew.2.1 14 = .ok (.aload_n 0, 1) := by decide +kernel
theorem d_X11_readNew_15 : decode m_X11_readNew.2.1 15 = .ok (.getfield 29, 3) := by decide +kernel
theorem d_X11_readNew_18 : decode m_X11_readNew.2.1 18 = .ok (.iconst 0, 1) := by decide +kernel
theorem d_X11_readNew_19 : decode m_X11_readNew.2.1 19 = .ok (.aload_n 0, 1) := by decide +kernel
theorem d_X11_readNew_20 : decode m_X11_readNew.2.1 20 = .ok (.getfield 16, 3) := by decide +kernel
theorem d_X11_readNew_23 : decode m_X11_readNew.2.1 23 = .ok (.iconst 0, 1) := by decide +kernel
theorem d_X11_readNew_24 : decode m_X11_readNew.2.1 24 = .ok (.iaload, 1) := by decide +kernel
theorem d_X11_readNew_25 : decode m_X11_readNew.2.1 25 = .ok (.invokevirtual 198, 3) := by decide +kernel
theorem d_X11_readNew_28 : decode m_X11_readNew.2.1 28 = .ok (.iconst (-1), 1) := by decide +kernel
theorem d_X11_readNew_29 : decode m_X11_readNew.2.1 29 = .ok (.if_icmp .ne 23, 3) := by decide +kernel
theorem d_X11_readNew_32 : decode m_X11_readNew.2.1 32 = .ok (.aload_n 0, 1) := by decide +kernel
theorem d_X11_readNew_33 : decode m_X11_readNew.2.1 33 = .ok (.aload_n 0, 1) := by decide +kernel
theorem d_X11_readNew_34 : decode m_X11_readNew.2.1 34 = .ok (.getfield 29, 3) := by decide +kernel
theorem d_X11_readNew_37 : decode m_X11_readNew.2.1 37 = .ok (.bipush 8, 2) := by decide +kernel
theorem d_X11_readNew_39 : decode m_X11_readNew.2.1 39 = .ok (.aload_n 0, 1) := by decide +kernel
theorem d_X11_readNew_40 : decode m_X11_readNew.2.1 40 = .ok (.getfield 16, 3) := by decide +kernel
theorem d_X11_readNew_43 : decode m_X11_readNew.2.1 43 = .ok (.iconst 1, 1) := by decide +kernel
theorem d_X11_readNew_44 : decode m_X11_readNew.2.1 44 = .ok (.iaload, 1) := by decide +kernel
theorem d_X11_readNew_45 : decode m_X11_readNew.2.1 45 = .ok (.invokevirtual 198, 3) := by decide +kernel
theorem d_X11_readNew_48 : decode m_X11_readNew.2.1 48 = .ok (.iconst (-1), 1) := by decide +kernel
theorem d_X11_readNew_49 : decode m_X11_readNew.2.1 49 = .ok (.if_icmp .eq 9, 3) := by decide +kernel
theorem d_X11_readNew_52 : decode m_X11_readNew.2.1 52 = .ok (.aload_n 0, 1) := by decide +kernel
theorem d_X11_readNew_53 : decode m_X11_readNew.2.1 53 = .ok (.iconst 3, 1) := by decide +kernel
theorem d_X11_readNew_54 : decode m_X11_readNew.2.1 54 = .ok (.invokevirtual 174, 3) := by decide +kernel
theorem d_X11_readNew_57 : decode m_X11_readNew.2.1 57 = .ok (.ireturn, 1) := by decide +kernel
theorem d_X11_readNew_58 : decode m_X11_readNew.2.1 58 = .ok (.aload_n 0, 1) := by decide +kernel
theorem d_X11_readNew_59 : decode m_X11_readNew.2.1 59 = .ok (.getfield 29, 3) := by decide +kernel
theorem d_X11_readNew_62 : decode m_X11_readNew.2.1 62 = .ok (.iload_n 1, 1) := by decide +kernel
theorem d_X11_readNew_63 : decode m_X11_readNew.2.1 63 = .ok (.aload_n 0, 1) := by decide +kernel
theorem d_X11_readNew_64 : decode m_X11_readNew.2.1 64 = .ok (.getfield 141, 3) := by decide +kernel
theorem d_X11_readNew_67 : decode m_X11_readNew.2.1 67 = .ok (.lastore, 1) := by decide +kernel
theorem d_X11_readNew_68 : decode m_X11_readNew.2.1 68 = .ok (.aload_n 0, 1) := by decide +kernel
theorem d_X11_readNew_69 : decode m_X11_readNew.2.1 69 = .ok (.invokevirtual 184, 3) := by decide +kernel
theorem d_X11_readNew_72 : decode m_X11_readNew.2.1 72 = .ok (.iconst 1, 1) := by decide +kernel
theorem d_X11_readNew_73 : decode m_X11_readNew.2.1 73 = .ok (.ireturn, 1) := by decide +kernel
set_option maxRecDepth 20000 in
theorem e_X11_readNew {E : jm_E} {d : Nat} {μ : jm_M} {Q : Option jm_V → jm_M → Prop} {v1 : Int} (h : (∀ v ∈ ([jm_R 133, jm_I v1] : List jm_V), jm_ok v) →
  jc E m_X11_isName d [jm_R 133] μ (fun (o : Option jm_V) (m1 : jm_M) => ∀ r2 : Int, o = some (jm_I r2) → (r2 = 0 ∨ r2 = 1) →
  ((r2 ≠ 0 →
    jc E m_X11_findIn d [jm_R 133, jm_R 140, jm_I 0, jm_I (m1 136 0)] m1 (fun (o : Option jm_V) (m5 : jm_M) => ∀ r6 : Int, o = some (jm_I r6) →
    ((r6 ≠ ((-1)) →
      jc E m_X11_bad d [jm_R 133, jm_I 3] m5 (fun (o : Option jm_V) (m8 : jm_M) => ∀ r9 : Int, o = some (jm_I r9) → (r9 = 0 ∨ r9 = 1) →
      Q (some (jm_I r9)) m8)) ∧
     (¬ (r6 ≠ ((-1))) →
      jc E m_X11_findIn d [jm_R 133, jm_R 140, jm_I 8, jm_I (m5 136 1)] m5 (fun (o : Option jm_V) (m11 : jm_M) => ∀ r12 : Int, o = some (jm_I r12) →
      ((r12 = ((-1)) →
        (0 ≤ v1 ∧ v1 < 18) ∧
        ∀ m15 : jm_M, m15 = (jm_up m11 140 v1 (m11 133 12)) →
        jc E m_X11_go d [jm_R 133] m15 (fun (o : Option jm_V) (m16 : jm_M) => o = none →
        Q (some (jm_I 1)) m16)) ∧
       (¬ (r12 = ((-1))) →
        jc E m_X11_bad d [jm_R 133, jm_I 3] m11 (fun (o : Option jm_V) (m17 : jm_M) => ∀ r18 : Int, o = some (jm_I r18) → (r18 = 0 ∨ r18 = 1) →
        Q (some (jm_I r18)) m17)))))))) ∧
   (¬ (r2 ≠ 0) →
    jc E m_X11_bad d [jm_R 133, jm_I 1] m1 (fun (o : Option jm_V) (m20 : jm_M) => ∀ r21 : Int, o = some (jm_I r21) → (r21 = 0 ∨ r21 = 1) →
    Q (some (jm_I r21)) m20))))) : jc E m_X11_readNew (d + 1) [jm_R 133, jm_I v1] μ Q := by
  refine jm_Cl.of2 (by decide +kernel) (L0 := [some (jm_R 133), some (jm_I v1)]) rfl (Nat.le_of_ble_eq_true rfl) (fun hok => ?_)
  have h := h hok
  refine jm_aloadn d_X11_readNew_0 rfl ?_
  refine jm_invV (n1 := jm_N) (mc := 0) (ms := 0) (av := []) w_X11_isName l_X11_194 d_X11_readNew_1 rfl is_133 ⟨_, _, rfl⟩ ⟨Nat.le_refl _, Nat.le_refl _⟩ (Nat.le_of_ble_eq_true rfl) rfl ?_
  refine jm_Cl.mono h (fun o m1 h hr _ => ?_)
  obtain ⟨r2, rfl, z3⟩ := jm_rokZ hr
  have h := h _ rfl z3
  refine jm_if_ne (tgt := 13) d_X11_readNew_4 (by decide) (fun c4 => ?_) (fun c4 => ?_)
  · have h := h.1 c4
    refine jm_aloadn d_X11_readNew_13 rfl ?_
    refine jm_aloadn d_X11_readNew_14 rfl ?_
    refine jm_getF (k := 19) (ki := 19) rfl cf_X11 (Nat.le_of_ble_eq_true rfl) f_X11_29 d_X11_readNew_15 rfl rfl is_133 fr_133_19 ?_
    refine jm_iconst (v := 0) d_X11_readNew_18 rfl (jm_okI (by decide) (by decide)) ?_
    refine jm_aloadn d_X11_readNew_19 rfl ?_
    refine jm_getF (k := 15) (ki := 15) rfl cf_X11 (Nat.le_of_ble_eq_true rfl) f_X11_16 d_X11_readNew_20 rfl rfl is_133 fr_133_15 ?_
    refine jm_iconst (v := 0) d_X11_readNew_23 rfl (jm_okI (by decide) (by decide)) ?_
    refine jm_iaload d_X11_readNew_24 (ixl_136 (by decide) (by decide)) ?_
    refine jm_invV (n1 := jm_N) (mc := 0) (ms := 0) (av := [jm_R _, jm_I _, jm_I _]) w_X11_findIn l_X11_198 d_X11_readNew_25 rfl is_133 ⟨_, _, rfl⟩ ⟨Nat.le_refl _, Nat.le_refl _⟩ (Nat.le_of_ble_eq_true rfl) rfl ?_
    refine jm_Cl.mono h (fun o m5 h hr _ => ?_)
    obtain ⟨r6, rfl⟩ := jm_rokI hr
    have h := h _ rfl
    refine jm_iconst (v := (-1)) d_X11_readNew_28 rfl (jm_okI (by decide) (by decide)) ?_
    refine jm_icmp_ne (tgt := 52) d_X11_readNew_29 (by decide) (fun c7 => ?_) (fun c7 => ?_)
    · have h := h.1 c7
      refine jm_aloadn d_X11_readNew_52 rfl ?_
      refine jm_iconst (v := 3) d_X11_readNew_53 rfl (jm_okI (by decide) (by decide)) ?_
      refine jm_invV (n1 := jm_N) (mc := 0) (ms := 0) (av := [jm_I _]) w_X11_bad l_X11_174 d_X11_readNew_54 rfl is_133 ⟨_, _, rfl⟩ ⟨Nat.le_refl _, Nat.le_refl _⟩ (Nat.le_of_ble_eq_true rfl) rfl ?_
      refine jm_Cl.mono h (fun o m8 h hr _ => ?_)
      obtain ⟨r9, rfl, z10⟩ := jm_rokZ hr
      have h := h _ rfl z10
      exact jm_ret (o := some (jm_I _)) d_X11_readNew_57 rfl ⟨Nat.le_refl _, Nat.le_refl _⟩ (jm_r_Z z10) h rfl
    · have h := h.2 c7
      refine jm_aloadn d_X11_readNew_32 rfl ?_
      refine jm_aloadn d_X11_readNew_33 rfl ?_
      refine jm_getF (k := 19) (ki := 19) rfl cf_X11 (Nat.le_of_ble_eq_true rfl) f_X11_29 d_X11_readNew_34 rfl rfl is_133 fr_133_19 ?_
      refine jm_bipush (v := 8) d_X11_readNew_37 rfl (jm_okI (by decide) (by decide)) ?_
      refine jm_aloadn d_X11_readNew_39 rfl ?_
      refine jm_getF (k := 15) (ki := 15) rfl cf_X11 (Nat.le_of_ble_eq_true rfl) f_X11_16 d_X11_readNew_40 rfl rfl is_133 fr_133_15 ?_
      refine jm_iconst (v := 1) d_X11_readNew_43 rfl (jm_okI (by decide) (by decide)) ?_
      refine jm_iaload d_X11_readNew_44 (ixl_136 (by decide) (by decide)) ?_
      refine jm_invV (n1 := jm_N) (mc := 0) (ms := 0) (av := [jm_R _, jm_I _, jm_I _]) w_X11_findIn l_X11_198 d_X11_readNew_45 rfl is_133 ⟨_, _, rfl⟩ ⟨Nat.le_refl _, Nat.le_refl _⟩ (Nat.le_of_ble_eq_true rfl) rfl ?_
      refine jm_Cl.mono h (fun o m11 h hr _ => ?_)
      obtain ⟨r12, rfl⟩ := jm_rokI hr
      have h := h _ rfl
      refine jm_iconst (v := (-1)) d_X11_readNew_48 rfl (jm_okI (by decide) (by decide)) ?_
      refine jm_icmp_eq (tgt := 58) d_X11_readNew_49 (by decide) (fun c13 => ?_) (fun c13 => ?_)
      · have h := h.1 c13
        refine jm_aloadn d_X11_readNew_58 rfl ?_
        refine jm_getF (k := 19) (ki := 19) rfl cf_X11 (Nat.le_of_ble_eq_true rfl) f_X11_29 d_X11_readNew_59 rfl rfl is_133 fr_133_19 ?_
        refine jm_iloadn d_X11_readNew_62 rfl ?_
        refine jm_aloadn d_X11_readNew_63 rfl ?_
        refine jm_getL (k := 12) (ki := 12) cf_X11 (Nat.le_of_ble_eq_true rfl) f_X11_141 d_X11_readNew_64 rfl rfl is_133 rfl ?_
        obtain ⟨f14, h⟩ := h
        refine jm_lastore d_X11_readNew_67 (ixl_140 f14.1 f14.2) ?_
        have h := h _ rfl
        refine jm_aloadn d_X11_readNew_68 rfl ?_
        refine jm_invV (n1 := jm_N) (mc := 0) (ms := 0) (av := []) w_X11_go l_X11_184 d_X11_readNew_69 rfl is_133 ⟨_, _, rfl⟩ ⟨Nat.le_refl _, Nat.le_refl _⟩ (Nat.le_of_ble_eq_true rfl) rfl ?_
        refine jm_Cl.mono h (fun o m16 h hr _ => ?_)
        obtain rfl := jm_rokV hr
        have h := h rfl
        refine jm_iconst (v := 1) d_X11_readNew_72 rfl (jm_okI (by decide) (by decide)) ?_
        exact jm_ret (o := some (jm_I _)) d_X11_readNew_73 rfl ⟨Nat.le_refl _, Nat.le_refl _⟩ (jm_r_Z (by decide)) h rfl
      · have h := h.2 c13
        refine jm_aloadn d_X11_readNew_52 rfl ?_
        refine jm_iconst (v := 3) d_X11_readNew_53 rfl (jm_okI (by decide) (by decide)) ?_
        refine jm_invV (n1 := jm_N) (mc := 0) (ms := 0) (av := [jm_I _]) w_X11_bad l_X11_174 d_X11_readNew_54 rfl is_133 ⟨_, _, rfl⟩ ⟨Nat.le_refl _, Nat.le_refl _⟩ (Nat.le_of_ble_eq_true rfl) rfl ?_
        refine jm_Cl.mono h (fun o m17 h hr _ => ?_)
        obtain ⟨r18, rfl, z19⟩ := jm_rokZ hr
        have h := h _ rfl z19
        exact jm_ret (o := some (jm_I _)) d_X11_readNew_57 rfl ⟨Nat.le_refl _, Nat.le_refl _⟩ (jm_r_Z z19) h rfl
  · have h := h.2 c4
    refine jm_aloadn d_X11_readNew_7 rfl ?_
    refine jm_iconst (v := 1) d_X11_readNew_8 rfl (jm_okI (by decide) (by decide)) ?_
    refine jm_invV (n1 := jm_N) (mc := 0) (ms := 0) (av := [jm_I _]) w_X11_bad l_X11_174 d_X11_readNew_9 rfl is_133 ⟨_, _, rfl⟩ ⟨Nat.le_refl _, Nat.le_refl _⟩ (Nat.le_of_ble_eq_true rfl) rfl ?_
    refine jm_Cl.mono h (fun o m20 h hr _ => ?_)
    obtain ⟨r21, rfl, z22⟩ := jm_rokZ hr
    have h := h _ rfl z22
    exact jm_ret (o := some (jm_I _)) d_X11_readNew_12 rfl ⟨Nat.le_refl _, Nat.le_refl _⟩ (jm_r_Z z22) h rfl
/-! ('CombTableModel', 'readWho', '()Z') -/
theorem d_X11_readWho_0 : decode m_X11_readWho.2.1 0 = .ok (.aload_n 0, 1) := by decide +kernel
theorem d_X11_readWho_1 : decode m_X11_readWho.2.1 1 = .ok (.getfield 16, 3) := by decide +kernel
theorem d_X11_readWho_4 : decode m_X11_readWho.2.1 4 = .ok (.iconst 0, 1) := by decide +kernel
theorem d_X11_readWho_5 : decode m_X11_readWho.2.1 5 = .ok (.iaload, 1) := by decide +kernel
theorem d_X11_readWho_6 : decode m_X11_readWho.2.1 6 = .ok (.istore_n 1, 1) := by decide +kernel
theorem d_X11_readWho_7 : decode m_X11_readWho.2.1 7 = .ok (.iload_n 1, 1) := by decide +kernel
theorem d_X11_readWho_8 : decode m_X11_readWho.2.1 8 = .ok (.bipush 8, 2) := by decide +kernel
theorem d_X11_readWho_10 : decode m_X11_readWho.2.1 10 = .ok (.if_icmp .ne 9, 3) := by decide +kernel
theorem d_X11_readWho_13 : decode m_X11_readWho.2.1 13 = .ok (.aload_n 0, 1) := by decide +kernel
theorem d_X11_readWho_14 : decode m_X11_readWho.2.1 14 = .ok (.iconst 4, 1) := by decide +kernel
theorem d_X11_readWho_15 : decode m_X11_readWho.2.1 15 = .ok (.invokevirtual 174, 3) := by decide +kernel
theorem d_X11_readWho_18 : decode m_X11_readWho.2.1 18 = .ok (.ireturn, 1) := by decide +kernel
theorem d_X11_readWho_19 : decode m_X11_readWho.2.1 19 = .ok (.aload_n 0, 1) := by decide +kernel
theorem d_X11_readWho_20 : decode m_X11_readWho.2.1 20 = .ok (.invokevirtual 184, 3) := by decide +kernel
theorem d_X11_readWho_23 : decode m_X11_readWho.2.1 23 = .ok (.aload_n 0, 1) := by decide +kernel
theorem d_X11_readWho_24 : decode m_X11_readWho.2.1 24 = .ok (.iload_n 1, 1) := by decide +kernel
theorem d_X11_readWho_25 : decode m_X11_readWho.2.1 25 = .ok (.invokevirtual 202, 3) := by decide +kernel
theorem d_X11_readWho_28 : decode m_X11_readWho.2.1 28 = .ok (.ifCond .eq 13, 3) := by decide +kernel
theorem d_X11_readWho_31 : decode m_X11_readWho.2.1 31 = .ok (.aload_n 0, 1) := by decide +kernel
theorem d_X11_readWho_32 : decode m_X11_readWho.2.1 32 = .ok (.iconst 1, 1) := by decide +kernel
theorem d_X11_readWho_33 : decode m_X11_readWho.2.1 33 = .ok (.bipush 6, 2) := by decide +kernel
theorem d_X11_readWho_35 : decode m_X11_readWho.2.1 35 = .ok (.invokevirtual 205, 3) := by decide +kernel
theorem d_X11_readWho_38 : decode m_X11_readWho.2.1 38 = .ok (.ifCond .ne 5, 3) := by decide +kernel
theorem d_X11_readWho_41 : decode m_X11_readWho.2.1 41 = .ok (.iconst 0, 1) := by decide +kernel
theorem d_X11_readWho_42 : decode m_X11_readWho.2.1 42 = .ok (.ireturn, 1) := by decide +kernel
theorem d_X11_readWho_43 : decode m_X11_readWho.2.1 43 = .ok (.aload_n 0, 1) := by decide +kernel
theorem d_X11_readWho_44 : decode m_X11_readWho.2.1 44 = .ok (.getfield 16, 3) := by decide +kernel
theorem d_X11_readWho_47 : decode m_X11_readWho.2.1 47 = .ok (.bipush 12, 2) := by decide +kernel
theorem d_X11_readWho_49 : decode m_X11_readWho.2.1 49 = .ok (.iload_n 1, 1) := by decide +kernel
theorem d_X11_readWho_50 : decode m_X11_readWho.2.1 50 = .ok (.iadd, 1) := by decide +kernel
theorem d_X11_readWho_51 : decode m_X11_readWho.2.1 51 = .ok (.aload_n 0, 1) := by decide +kernel
theorem d_X11_readWho_52 : decode m_X11_readWho.2.1 52 = .ok (.getfield 181, 3) := by decide +kernel
theorem d_X11_readWho_55 : decode m_X11_readWho.2.1 55 = .ok (.iastore, 1) := by decide +kernel
theorem d_X11_readWho_56 : decode m_X11_readWho.2.1 56 = .ok (.aload_n 0, 1) := by decide +kernel
theorem d_X11_readWho_57 : decode m_X11_readWho.2.1 57 = .ok (.getfield 16, 3) := by decide +kernel
theorem d_X11_readWho_60 : decode m_X11_readWho.2.1 60 = .ok (.iconst 0, 1) := by decide +kernel
theorem d_X11_readWho_61 : decode m_X11_readWho.2.1 61 = .ok (.dup2, 1) := by decide +kernel
theorem d_X11_readWho_62 : decode m_X11_readWho.2.1 62 = .ok (.iaload, 1) := by decide +kernel
theorem d_X11_readWho_63 : decode m_X11_readWho.2.1 63 = .ok (.iconst 1, 1) := by decide +kernel
theorem d_X11_readWho_64 : decode m_X11_readWho.2.1 64 = .ok (.iadd, 1) := by decide +kernel
theorem d_X11_readWho_65 : decode m_X11_readWho.2.1 65 = .ok (.iastore, 1) := by decide +kernel
theorem d_X11_readWho_66 : decode m_X11_readWho.2.1 66 = .ok (.iconst 1, 1) := by decide +kernel
theorem d_X11_readWho_67 : decode m_X11_readWho.2.1 67 = .ok (.ireturn, 1) := by decide +kernel
set_option maxRecDepth 20000 in
theorem e_X11_readWho {E : jm_E} {d : Nat} {μ : jm_M} {Q : Option jm_V → jm_M → Prop}  (h : (∀ v ∈ ([jm_R 133] : List jm_V), jm_ok v) →
  ∀ x1 : Int, x1 = μ 136 0 →
  ((x1 ≠ 8 →
    jc E m_X11_go d [jm_R 133] μ (fun (o : Option jm_V) (m3 : jm_M) => o = none →
    jc E m_X11_readNew d [jm_R 133, jm_I x1] m3 (fun (o : Option jm_V) (m4 : jm_M) => ∀ r5 : Int, o = some (jm_I r5) → (r5 = 0 ∨ r5 = 1) →
    ((r5 = 0 →
      Q (some (jm_I 0)) m4) ∧
     (¬ (r5 = 0) →
      jc E m_X11_readNumber d [jm_R 133, jm_I 1, jm_I 6] m4 (fun (o : Option jm_V) (m8 : jm_M) => ∀ r9 : Int, o = some (jm_I r9) → (r9 = 0 ∨ r9 = 1) →
      ((r9 ≠ 0 →
        (0 ≤ jm_wr (12 + x1) ∧ jm_wr (12 + x1) < 60) ∧
        ∀ m13 : jm_M, m13 = (jm_up m8 136 (jm_wr (12 + x1)) (m8 133 13)) →
        ∀ m14 : jm_M, m14 = (jm_up m13 136 0 (jm_wr ((m13 136 0) + 1))) →
        Q (some (jm_I 1)) m14) ∧
       (¬ (r9 ≠ 0) →
        Q (some (jm_I 0)) m8)))))))) ∧
   (¬ (x1 ≠ 8) →
    jc E m_X11_bad d [jm_R 133, jm_I 4] μ (fun (o : Option jm_V) (m15 : jm_M) => ∀ r16 : Int, o = some (jm_I r16) → (r16 = 0 ∨ r16 = 1) →
    Q (some (jm_I r16)) m15)))) : jc E m_X11_readWho (d + 1) [jm_R 133] μ Q := by
  refine jm_Cl.of2 (by decide +kernel) (L0 := [some (jm_R 133), none]) rfl (Nat.le_of_ble_eq_true rfl) (fun hok => ?_)
  have h := h hok
  refine jm_aloadn d_X11_readWho_0 rfl ?_
  refine jm_getF (k := 15) (ki := 15) rfl cf_X11 (Nat.le_of_ble_eq_true rfl) f_X11_16 d_X11_readWho_1 rfl rfl is_133 fr_133_15 ?_
  refine jm_iconst (v := 0) d_X11_readWho_4 rfl (jm_okI (by decide) (by decide)) ?_
  refine jm_iaload d_X11_readWho_5 (ixl_136 (by decide) (by decide)) ?_
  have h := h _ rfl
  refine jm_istoren (L' := [some (jm_R _), some (jm_I _)]) d_X11_readWho_6 (Nat.le_of_ble_eq_true rfl) rfl ?_
  refine jm_iloadn d_X11_readWho_7 rfl ?_
  refine jm_bipush (v := 8) d_X11_readWho_8 rfl (jm_okI (by decide) (by decide)) ?_
  refine jm_icmp_ne (tgt := 19) d_X11_readWho_10 (by decide) (fun c2 => ?_) (fun c2 => ?_)
  · have h := h.1 c2
    refine jm_aloadn d_X11_readWho_19 rfl ?_
    refine jm_invV (n1 := jm_N) (mc := 0) (ms := 0) (av := []) w_X11_go l_X11_184 d_X11_readWho_20 rfl is_133 ⟨_, _, rfl⟩ ⟨Nat.le_refl _, Nat.le_refl _⟩ (Nat.le_of_ble_eq_true rfl) rfl ?_
    refine jm_Cl.mono h (fun o m3 h hr _ => ?_)
    obtain rfl := jm_rokV hr
    have h := h rfl
    refine jm_aloadn d_X11_readWho_23 rfl ?_
    refine jm_iloadn d_X11_readWho_24 rfl ?_
    refine jm_invV (n1 := jm_N) (mc := 0) (ms := 0) (av := [jm_I _]) w_X11_readNew l_X11_202 d_X11_readWho_25 rfl is_133 ⟨_, _, rfl⟩ ⟨Nat.le_refl _, Nat.le_refl _⟩ (Nat.le_of_ble_eq_true rfl) rfl ?_
    refine jm_Cl.mono h (fun o m4 h hr _ => ?_)
    obtain ⟨r5, rfl, z6⟩ := jm_rokZ hr
    have h := h _ rfl z6
    refine jm_if_eq (tgt := 41) d_X11_readWho_28 (by decide) (fun c7 => ?_) (fun c7 => ?_)
    · have h := h.1 c7
      refine jm_iconst (v := 0) d_X11_readWho_41 rfl (jm_okI (by decide) (by decide)) ?_
      exact jm_ret (o := some (jm_I _)) d_X11_readWho_42 rfl ⟨Nat.le_refl _, Nat.le_refl _⟩ (jm_r_Z (by decide)) h rfl
    · have h := h.2 c7
      refine jm_aloadn d_X11_readWho_31 rfl ?_
      refine jm_iconst (v := 1) d_X11_readWho_32 rfl (jm_okI (by decide) (by decide)) ?_
      refine jm_bipush (v := 6) d_X11_readWho_33 rfl (jm_okI (by decide) (by decide)) ?_
      refine jm_invV (n1 := jm_N) (mc := 0) (ms := 0) (av := [jm_I _, jm_I _]) w_X11_readNumber l_X11_205 d_X11_readWho_35 rfl is_133 ⟨_, _, rfl⟩ ⟨Nat.le_refl _, Nat.le_refl _⟩ (Nat.le_of_ble_eq_true rfl) rfl ?_
      refine jm_Cl.mono h (fun o m8 h hr _ => ?_)
      obtain ⟨r9, rfl, z10⟩ := jm_rokZ hr
      have h := h _ rfl z10
      refine jm_if_ne (tgt := 43) d_X11_readWho_38 (by decide) (fun c11 => ?_) (fun c11 => ?_)
      · have h := h.1 c11
        refine jm_aloadn d_X11_readWho_43 rfl ?_
        refine jm_getF (k := 15) (ki := 15) rfl cf_X11 (Nat.le_of_ble_eq_true rfl) f_X11_16 d_X11_readWho_44 rfl rfl is_133 fr_133_15 ?_
        refine jm_bipush (v := 12) d_X11_readWho_47 rfl (jm_okI (by decide) (by decide)) ?_
        refine jm_iloadn d_X11_readWho_49 rfl ?_
        refine jm_iadd d_X11_readWho_50 ?_
        refine jm_aloadn d_X11_readWho_51 rfl ?_
        refine jm_getI (k := 13) (ki := 13) cf_X11 (Nat.le_of_ble_eq_true rfl) f_X11_181 d_X11_readWho_52 rfl rfl is_133 rfl ?_
        obtain ⟨f12, h⟩ := h
        refine jm_iastore d_X11_readWho_55 (ixl_136 f12.1 f12.2) ?_
        have h := h _ rfl
        refine jm_aloadn d_X11_readWho_56 rfl ?_
        refine jm_getF (k := 15) (ki := 15) rfl cf_X11 (Nat.le_of_ble_eq_true rfl) f_X11_16 d_X11_readWho_57 rfl rfl is_133 fr_133_15 ?_
        refine jm_iconst (v := 0) d_X11_readWho_60 rfl (jm_okI (by decide) (by decide)) ?_
        refine jm_dup2 rfl rfl d_X11_readWho_61 ?_
        refine jm_iaload d_X11_readWho_62 (ixl_136 (by decide) (by decide)) ?_
        refine jm_iconst (v := 1) d_X11_readWho_63 rfl (jm_okI (by decide) (by decide)) ?_
        refine jm_iadd d_X11_readWho_64 ?_
        refine jm_iastore d_X11_readWho_65 (ixl_136 (by decide) (by decide)) ?_
        have h := h _ rfl
        refine jm_iconst (v := 1) d_X11_readWho_66 rfl (jm_okI (by decide) (by decide)) ?_
        exact jm_ret (o := some (jm_I _)) d_X11_readWho_67 rfl ⟨Nat.le_refl _, Nat.le_refl _⟩ (jm_r_Z (by decide)) h rfl
      · have h := h.2 c11
        refine jm_iconst (v := 0) d_X11_readWho_41 rfl (jm_okI (by decide) (by decide)) ?_
        exact jm_ret (o := some (jm_I _)) d_X11_readWho_42 rfl ⟨Nat.le_refl _, Nat.le_refl _⟩ (jm_r_Z (by decide)) h rfl
  · have h := h.2 c2
    refine jm_aloadn d_X11_readWho_13 rfl ?_
    refine jm_iconst (v := 4) d_X11_readWho_14 rfl (jm_okI (by decide) (by decide)) ?_
    refine jm_invV (n1 := jm_N) (mc := 0) (ms := 0) (av := [jm_I _]) w_X11_bad l_X11_174 d_X11_readWho_15 rfl is_133 ⟨_, _, rfl⟩ ⟨Nat.le_refl _, Nat.le_refl _⟩ (Nat.le_of_ble_eq_true rfl) rfl ?_
    refine jm_Cl.mono h (fun o m15 h hr _ => ?_)
    obtain ⟨r16, rfl, z17⟩ := jm_rokZ hr
    have h := h _ rfl z17
    exact jm_ret (o := some (jm_I _)) d_X11_readWho_18 rfl ⟨Nat.le_refl _, Nat.le_refl _⟩ (jm_r_Z z17) h rfl
/-! ('CombTableModel', 'readKind', '()Z') -/
theorem d_X11_readKind_0 : decode m_X11_readKind.2.1 0 = .ok (.aload_n 0, 1) := by decide +kernel
theorem d_X11_readKind_1 : decode m_X11_readKind.2.1 1 = .ok (.getfield 16, 3) := by decide +kernel
theorem d_X11_readKind_4 : decode m_X11_readKind.2.1 4 = .ok (.iconst 1, 1) := by decide +kernel
theorem d_X11_readKind_5 : decode m_X11_readKind.2.1 5 = .ok (.iaload, 1) := by decide +kernel
theorem d_X11_readKind_6 : decode m_X11_readKind.2.1 6 = .ok (.istore_n 1, 1) := by decide +kernel
theorem d_X11_readKind_7 : decode m_X11_readKind.2.1 7 = .ok (.iload_n 1, 1) := by decide +kernel
theorem d_X11_readKind_8 : decode m_X11_readKind.2.1 8 = .ok (.bipush 10, 2) := by decide +kernel
theorem d_X11_readKind_10 : decode m_X11_readKind.2.1 10 = .ok (.if_icmp .ne 9, 3) := by decide +kernel
theorem d_X11_readKind_13 : decode m_X11_readKind.2.1 13 = .ok (.aload_n 0, 1) := by decide +kernel
theorem d_X11_readKind_14 : decode m_X11_readKind.2.1 14 = .ok (.iconst 4, 1) := by decide +kernel
theorem d_X11_readKind_15 : decode m_X11_readKind.2.1 15 = .ok (.invokevirtual 174, 3) := by decide +kernel
theorem d_X11_readKind_18 : decode m_X11_readKind.2.1 18 = .ok (.ireturn, 1) := by decide +kernel
theorem d_X11_readKind_19 : decode m_X11_readKind.2.1 19 = .ok (.bipush 20, 2) := by decide +kernel
theorem d_X11_readKind_21 : decode m_X11_readKind.2.1 21 = .ok (.iconst 4, 1) := by decide +kernel
theorem d_X11_readKind_22 : decode m_X11_readKind.2.1 22 = .ok (.iload_n 1, 1) := by decide +kernel
theorem d_X11_readKind_23 : decode m_X11_readKind.2.1 23 = .ok (.imul, 1) := by decide +kernel
theorem d_X11_readKind_24 : decode m_X11_readKind.2.1 24 = .ok (.iadd, 1) := by decide +kernel
theorem d_X11_readKind_25 : decode m_X11_readKind.2.1 25 = .ok (.istore_n 2, 1) := by decide +kernel
theorem d_X11_readKind_26 : decode m_X11_readKind.2.1 26 = .ok (.aload_n 0, 1) := by decide +kernel
theorem d_X11_readKind_27 : decode m_X11_readKind.2.1 27 = .ok (.invokevirtual 184, 3) := by decide +kernel
theorem d_X11_readKind_30 : decode m_X11_readKind.2.1 30 = .ok (.aload_n 0, 1) := by decide +kernel
theorem d_X11_readKind_31 : decode m_X11_readKind.2.1 31 = .ok (.bipush 8, 2) := by decide +kernel
theorem d_X11_readKind_33 : decode m_X11_readKind.2.1 33 = .ok (.iload_n 1, 1) := by decide +kernel
theorem d_X11_readKind_34 : decode m_X11_readKind.2.1 34 = .ok (.iadd, 1) := by decide +kernel
theorem d_X11_readKind_35 : decode m_X11_readKind.2.1 35 = .ok (.invokevirtual 202, 3) := by decide +kernel
theorem d_X11_readKind_38 : decode m_X11_readKind.2.1 38 = .ok (.ifCond .ne 5, 3) := by decide +kernel
theorem d_X11_readKind_41 : decode m_X11_readKind.2.1 41 = .ok (.iconst 0, 1) := by decide +kernel
theorem d_X11_readKind_42 : decode m_X11_readKind.2.1 42 = .ok (.ireturn, 1) := by decide +kernel
theorem d_X11_readKind_43 : decode m_X11_readKind.2.1 43 = .ok (.aload_n 0, 1) := by decide +kernel
theorem d_X11_readKind_44 : decode m_X11_readKind.2.1 44 = .ok (.getfield 16, 3) := by decide +kernel
theorem d_X11_readKind_47 : decode m_X11_readKind.2.1 47 = .ok (.iload_n 2, 1) := by decide +kernel
theorem d_X11_readKind_48 : decode m_X11_readKind.2.1 48 = .ok (.iconst 0, 1) := by decide +kernel
theorem d_X11_readKind_49 : decode m_X11_readKind.2.1 49 = .ok (.iadd, 1) := by decide +kernel
theorem d_X11_readKind_50 : decode m_X11_readKind.2.1 50 = .ok (.aload_n 0, 1) := by decide +kernel
theorem d_X11_readKind_51 : decode m_X11_readKind.2.1 51 = .ok (.bipush 6, 2) := by decide +kernel
theorem d_X11_readKind_53 : decode m_X11_readKind.2.1 53 = .ok (.invokevirtual 209, 3) := by decide +kernel
theorem d_X11_readKind_56 : decode m_X11_readKind.2.1 56 = .ok (.ifCond .eq 7, 3) := by decide +kernel
theorem d_X11_readKind_59 : decode m_X11_readKind.2.1 59 = .ok (.iconst 1, 1) := by decide +kernel
theorem d_X11_readKind_60 : decode m_X11_readKind.2.1 60 = .ok (.goto 17, 3) := by decide +kernel
theorem d_X11_readKind_63 : decode m_X11_readKind.2.1 63 = .ok (.aload_n 0, 1) := by decide +kernel
theorem d_X11_readKind_64 : decode m_X11_readKind.2.1 64 = .ok (.bipush 7, 2) := by decide +kernel
theorem d_X11_readKind_66 : decode m_X11_readKind.2.1 66 = .ok (.invokevirtual 209, 3) := by decide +kernel
theorem d_X11_readKind_69 : decode m_X11_readKind.2.1 69 = .ok (.ifCond .eq 7, 3) := by decide +kernel
theorem d_X11_readKind_72 : decode m_X11_readKind.2.1 72 = .ok (.iconst 2, 1) := by decide +kernel
theorem d_X11_readKind_73 : decode m_X11_readKind.2.1 73 = .ok (.goto 4, 3) := by decide +kernel
theorem d_X11_readKind_76 : decode m_X11_readKind.2.1 76 = .ok (.iconst 0, 1) := by decide +kernel
theorem d_X11_readKind_77 : decode m_X11_readKind.2.1 77 = .ok (.iastore, 1) := by decide +kernel
theorem d_X11_readKind_78 : decode m_X11_readKind.2.1 78 = .ok (.aload_n 0, 1) := by decide +kernel
theorem d_X11_readKind_79 : decode m_X11_readKind.2.1 79 = .ok (.getfield 16, 3) := by decide +kernel
theorem d_X11_readKind_82 : decode m_X11_readKind.2.1 82 = .ok (.iload_n 2, 1) := by decide +kernel
theorem d_X11_readKind_83 : decode m_X11_readKind.2.1 83 = .ok (.iconst 0, 1) := by decide +kernel
theorem d_X11_readKind_84 : decode m_X11_readKind.2.1 84 = .ok (.iadd, 1) := by decide +kernel
theorem d_X11_readKind_85 : decode m_X11_readKind.2.1 85 = .ok (.iaload, 1) := by decide +kernel
theorem d_X11_readKind_86 : decode m_X11_readKind.2.1 86 = .ok (.ifCond .le 7, 3) := by decide +kernel
theorem d_X11_readKind_89 : decode m_X11_readKind.2.1 89 = .ok (.aload_n 0, 1) := by decide +kernel
theorem d_X11_readKind_90 : decode m_X11_readKind.2.1 90 = .ok (.invokevirtual 184, 3) := by decide +kernel
theorem d_X11_readKind_93 : decode m_X11_readKind.2.1 93 = .ok (.bipush 8, 2) := by decide +kernel
theorem d_X11_readKind_95 : decode m_X11_readKind.2.1 95 = .ok (.istore_n 3, 1) := by decide +kernel
theorem d_X11_readKind_96 : decode m_X11_readKind.2.1 96 = .ok (.iload_n 3, 1) := by decide +kernel
theorem d_X11_readKind_97 : decode m_X11_readKind.2.1 97 = .ok (.bipush 14, 2) := by decide +kernel
theorem d_X11_readKind_99 : decode m_X11_readKind.2.1 99 = .ok (.if_icmp .ge 17, 3) := by decide +kernel
theorem d_X11_readKind_102 : decode m_X11_readKind.2.1 102 = .ok (.aload_n 0, 1) := by decide +kernel
theorem d_X11_readKind_103 : decode m_X11_readKind.2.1 103 = .ok (.iload_n 3, 1) := by decide +kernel
theorem d_X11_readKind_104 : decode m_X11_readKind.2.1 104 = .ok (.invokevirtual 209, 3) := by decide +kernel
theorem d_X11_readKind_107 : decode m_X11_readKind.2.1 107 = .ok (.ifCond .ne 9, 3) := by decide +kernel
theorem d_X11_readKind_110 : decode m_X11_readKind.2.1 110 = .ok (.iinc 3 1, 3) := by decide +kernel
theorem d_X11_readKind_113 : decode m_X11_readKind.2.1 113 = .ok (.goto (-17), 3) := by decide +kernel
theorem d_X11_readKind_116 : decode m_X11_readKind.2.1 116 = .ok (.aload_n 0, 1) := by decide +kernel
theorem d_X11_readKind_117 : decode m_X11_readKind.2.1 117 = .ok (.getfield 16, 3) := by decide +kernel
theorem d_X11_readKind_120 : decode m_X11_readKind.2.1 120 = .ok (.iload_n 2, 1) := by decide +kernel
theorem d_X11_readKind_121 : decode m_X11_readKind.2.1 121 = .ok (.iconst 1, 1) := by decide +kernel
theorem d_X11_readKind_122 : decode m_X11_readKind.2.1 122 = .ok (.iadd, 1) := by decide +kernel
theorem d_X11_readKind_123 : decode m_X11_readKind.2.1 123 = .ok (.iload_n 3, 1) := by decide +kernel
theorem d_X11_readKind_124 : decode m_X11_readKind.2.1 124 = .ok (.bipush 14, 2) := by decide +kernel
theorem d_X11_readKind_126 : decode m_X11_readKind.2.1 126 = .ok (.if_icmp .ne 7, 3) := by decide +kernel
theorem d_X11_readKind_129 : decode m_X11_readKind.2.1 129 = .ok (.iconst 0, 1) := by decide +kernel
theorem d_X11_readKind_130 : decode m_X11_readKind.2.1 130 = .ok (.goto 9, 3) := by decide +kernel
theorem d_X11_readKind_133 : decode m_X11_readKind.2.1 133 = .ok (.iload_n 3, 1) := by decide +kernel
theorem d_X11_readKind_134 : decode m_X11_readKind.2.1 134 = .ok (.bipush 8, 2) := by decide +kernel
theorem d_X11_readKind_136 : decode m_X11_readKind.2.1 136 = .ok (.isub, 1) := by decide +kernel
theorem d_X11_readKind_137 : decode m_X11_readKind.2.1 137 = .ok (.iconst 1, 1) := by decide +kernel
theorem d_X11_readKind_138 : decode m_X11_readKind.2.1 138 = .ok (.iadd, 1) := by decide +kernel
theorem d_X11_readKind_139 : decode m_X11_readKind.2.1 139 = .ok (.iastore, 1) := by decide +kernel
theorem d_X11_readKind_140 : decode m_X11_readKind.2.1 140 = .ok (.iload_n 3, 1) := by decide +kernel
theorem d_X11_readKind_141 : decode m_X11_readKind.2.1 141 = .ok (.bipush 14, 2) := by decide +kernel
theorem d_X11_readKind_143 : decode m_X11_readKind.2.1 143 = .ok (.if_icmp .ge 7, 3) := by decide +kernel
theorem d_X11_readKind_146 : decode m_X11_readKind.2.1 146 = .ok (.aload_n 0, 1) := by decide +kernel
theorem d_X11_readKind_147 : decode m_X11_readKind.2.1 147 = .ok (.invokevirtual 184, 3) := by decide +kernel
theorem d_X11_readKind_150 : decode m_X11_readKind.2.1 150 = .ok (.aload_n 0, 1) := by decide +kernel
theorem d_X11_readKind_151 : decode m_X11_readKind.2.1 151 = .ok (.getfield 16, 3) := by decide +kernel
theorem d_X11_readKind_154 : decode m_X11_readKind.2.1 154 = .ok (.iload_n 2, 1) := by decide +kernel
theorem d_X11_readKind_155 : decode m_X11_readKind.2.1 155 = .ok (.iconst 1, 1) := by decide +kernel
theorem d_X11_readKind_156 : decode m_X11_readKind.2.1 156 = .ok (.iadd, 1) := by decide +kernel
theorem d_X11_readKind_157 : decode m_X11_readKind.2.1 157 = .ok (.iaload, 1) := by decide +kernel
theorem d_X11_readKind_158 : decode m_X11_readKind.2.1 158 = .ok (.iconst 2, 1) := by decide +kernel
theorem d_X11_readKind_159 : decode m_X11_readKind.2.1 159 = .ok (.if_icmp .ne 27, 3) := by decide +kernel
theorem d_X11_readKind_162 : decode m_X11_readKind.2.1 162 = .ok (.aload_n 0, 1) := by decide +kernel
theorem d_X11_readKind_163 : decode m_X11_readKind.2.1 163 = .ok (.iconst 1, 1) := by decide +kernel
theorem d_X11_readKind_164 : decode m_X11_readKind.2.1 164 = .ok (.bipush 99, 2) := by decide +kernel
theorem d_X11_readKind_166 : decode m_X11_readKind.2.1 166 = .ok (.invokevirtual 205, 3) := by decide +kernel
theorem d_X11_readKind_169 : decode m_X11_readKind.2.1 169 = .ok (.ifCond .ne 5, 3) := by decide +kernel
theorem d_X11_readKind_172 : decode m_X11_readKind.2.1 172 = .ok (.iconst 0, 1) := by decide +kernel
theorem d_X11_readKind_173 : decode m_X11_readKind.2.1 173 = .ok (.ireturn, 1) := by decide +kernel
theorem d_X11_readKind_174 : decode m_X11_readKind.2.1 174 = .ok (.aload_n 0, 1) := by decide +kernel
theorem d_X11_readKind_175 : decode m_X11_readKind.2.1 175 = .ok (.getfield 16, 3) := by decide +kernel
theorem d_X11_readKind_178 : decode m_X11_readKind.2.1 178 = .ok (.iload_n 2, 1) := by decide +kernel
theorem d_X11_readKind_179 : decode m_X11_readKind.2.1 179 = .ok (.iconst 2, 1) := by decide +kernel
theorem d_X11_readKind_180 : decode m_X11_readKind.2.1 180 = .ok (.iadd, 1) := by decide +kernel
theorem d_X11_readKind_181 : decode m_X11_readKind.2.1 181 = .ok (.aload_n 0, 1) := by decide +kernel
theorem d_X11_readKind_182 : decode m_X11_readKind.2.1 182 = .ok (.getfield 181, 3) := by decide +kernel
theorem d_X11_readKind_185 : decode m_X11_readKind.2.1 185 = .ok (.iastore, 1) := by decide +kernel
theorem d_X11_readKind_186 : decode m_X11_readKind.2.1 186 = .ok (.aload_n 0, 1) := by decide +kernel
theorem d_X11_readKind_187 : decode m_X11_readKind.2.1 187 = .ok (.getfield 16, 3) := by decide +kernel
theorem d_X11_readKind_190 : decode m_X11_readKind.2.1 190 = .ok (.iconst 1, 1) := by decide +kernel
theorem d_X11_readKind_191 : decode m_X11_readKind.2.1 191 = .ok (.dup2, 1) := by decide +kernel
theorem d_X11_readKind_192 : decode m_X11_readKind.2.1 192 = .ok (.iaload, 1) := by decide +kernel
theorem d_X11_readKind_193 : decode m_X11_readKind.2.1 193 = .ok (.iconst 1, 1) := by decide +kernel
theorem d_X11_readKind_194 : decode m_X11_readKind.2.1 194 = .ok (.iadd, 1) := by decide +kernel
theorem d_X11_readKind_195 : decode m_X11_readKind.2.1 195 = .ok (.iastore, 1) := by decide +kernel
theorem d_X11_readKind_196 : decode m_X11_readKind.2.1 196 = .ok (.iconst 1, 1) := by decide +kernel
theorem d_X11_readKind_197 : decode m_X11_readKind.2.1 197 = .ok (.ireturn, 1) := by decide +kernel
set_option maxRecDepth 20000 in
theorem e_X11_readKind {E : jm_E} {d : Nat} {μ : jm_M} {Q : Option jm_V → jm_M → Prop}  (h : (∀ v ∈ ([jm_R 133] : List jm_V), jm_ok v) →
  ∀ x1 : Int, x1 = μ 136 1 →
  ((x1 ≠ 10 →
    ∀ x3 : Int, x3 = jm_wr (20 + (jm_wr (4 * x1))) →
    jc E m_X11_go d [jm_R 133] μ (fun (o : Option jm_V) (m4 : jm_M) => o = none →
    jc E m_X11_readNew d [jm_R 133, jm_I (jm_wr (8 + x1))] m4 (fun (o : Option jm_V) (m5 : jm_M) => ∀ r6 : Int, o = some (jm_I r6) → (r6 = 0 ∨ r6 = 1) →
    ((r6 ≠ 0 →
      jc E m_X11_isWord d [jm_R 133, jm_I 6] m5 (fun (o : Option jm_V) (m9 : jm_M) => ∀ r10 : Int, o = some (jm_I r10) → (r10 = 0 ∨ r10 = 1) →
      ((r10 = 0 →
        jc E m_X11_isWord d [jm_R 133, jm_I 7] m9 (fun (o : Option jm_V) (m13 : jm_M) => ∀ r14 : Int, o = some (jm_I r14) → (r14 = 0 ∨ r14 = 1) →
        ((r14 = 0 →
          (0 ≤ jm_wr (x3 + 0) ∧ jm_wr (x3 + 0) < 60) ∧
          ∀ m18 : jm_M, m18 = (jm_up m13 136 (jm_wr (x3 + 0)) 0) →
          (((m18 136 (jm_wr (x3 + 0))) ≤ 0 →
            jg E m_X11_readKind d 96 [some (jm_R 133), none, some (jm_I x3), some (jm_I 8)] [] m18 Q) ∧
           (¬ ((m18 136 (jm_wr (x3 + 0))) ≤ 0) →
            jc E m_X11_go d [jm_R 133] m18 (fun (o : Option jm_V) (m20 : jm_M) => o = none →
            jg E m_X11_readKind d 96 [some (jm_R 133), none, some (jm_I x3), some (jm_I 8)] [] m20 Q)))) ∧
         (¬ (r14 = 0) →
          (0 ≤ jm_wr (x3 + 0) ∧ jm_wr (x3 + 0) < 60) ∧
          ∀ m22 : jm_M, m22 = (jm_up m13 136 (jm_wr (x3 + 0)) 2) →
          (((m22 136 (jm_wr (x3 + 0))) ≤ 0 →
            jg E m_X11_readKind d 96 [some (jm_R 133), none, some (jm_I x3), some (jm_I 8)] [] m22 Q) ∧
           (¬ ((m22 136 (jm_wr (x3 + 0))) ≤ 0) →
            jc E m_X11_go d [jm_R 133] m22 (fun (o : Option jm_V) (m24 : jm_M) => o = none →
            jg E m_X11_readKind d 96 [some (jm_R 133), none, some (jm_I x3), some (jm_I 8)] [] m24 Q))))))) ∧
       (¬ (r10 = 0) →
        (0 ≤ jm_wr (x3 + 0) ∧ jm_wr (x3 + 0) < 60) ∧
        ∀ m26 : jm_M, m26 = (jm_up m9 136 (jm_wr (x3 + 0)) 1) →
        (((m26 136 (jm_wr (x3 + 0))) ≤ 0 →
          jg E m_X11_readKind d 96 [some (jm_R 133), none, some (jm_I x3), some (jm_I 8)] [] m26 Q) ∧
         (¬ ((m26 136 (jm_wr (x3 + 0))) ≤ 0) →
          jc E m_X11_go d [jm_R 133] m26 (fun (o : Option jm_V) (m28 : jm_M) => o = none →
          jg E m_X11_readKind d 96 [some (jm_R 133), none, some (jm_I x3), some (jm_I 8)] [] m28 Q))))))) ∧
     (¬ (r6 ≠ 0) →
      Q (some (jm_I 0)) m5))))) ∧
   (¬ (x1 ≠ 10) →
    jc E m_X11_bad d [jm_R 133, jm_I 4] μ (fun (o : Option jm_V) (m29 : jm_M) => ∀ r30 : Int, o = some (jm_I r30) → (r30 = 0 ∨ r30 = 1) →
    Q (some (jm_I r30)) m29)))) : jc E m_X11_readKind (d + 1) [jm_R 133] μ Q := by
  refine jm_Cl.of2 (by decide +kernel) (L0 := [some (jm_R 133), none, none, none]) rfl (Nat.le_of_ble_eq_true rfl) (fun hok => ?_)
  have h := h hok
  refine jm_aloadn d_X11_readKind_0 rfl ?_
  refine jm_getF (k := 15) (ki := 15) rfl cf_X11 (Nat.le_of_ble_eq_true rfl) f_X11_16 d_X11_readKind_1 rfl rfl is_133 fr_133_15 ?_
  refine jm_iconst (v := 1) d_X11_readKind_4 rfl (jm_okI (by decide) (by decide)) ?_
  refine jm_iaload d_X11_readKind_5 (ixl_136 (by decide) (by decide)) ?_
  have h := h _ rfl
  refine jm_istoren (L' := [some (jm_R _), some (jm_I _), none, none]) d_X11_readKind_6 (Nat.le_of_ble_eq_true rfl) rfl ?_
  refine jm_iloadn d_X11_readKind_7 rfl ?_
  refine jm_bipush (v := 10) d_X11_readKind_8 rfl (jm_okI (by decide) (by decide)) ?_
  refine jm_icmp_ne (tgt := 19) d_X11_readKind_10 (by decide) (fun c2 => ?_) (fun c2 => ?_)
  · have h := h.1 c2
    refine jm_bipush (v := 20) d_X11_readKind_19 rfl (jm_okI (by decide) (by decide)) ?_
    refine jm_iconst (v := 4) d_X11_readKind_21 rfl (jm_okI (by decide) (by decide)) ?_
    refine jm_iloadn d_X11_readKind_22 rfl ?_
    refine jm_imul d_X11_readKind_23 ?_
    refine jm_iadd d_X11_readKind_24 ?_
    have h := h _ rfl
    refine jm_istoren (L' := [some (jm_R _), some (jm_I _), some (jm_I _), none]) d_X11_readKind_25 (Nat.le_of_ble_eq_true rfl) rfl ?_
    refine jm_aloadn d_X11_readKind_26 rfl ?_
    refine jm_invV (n1 := jm_N) (mc := 0) (ms := 0) (av := []) w_X11_go l_X11_184 d_X11_readKind_27 rfl is_133 ⟨_, _, rfl⟩ ⟨Nat.le_refl _, Nat.le_refl _⟩ (Nat.le_of_ble_eq_true rfl) rfl ?_
    refine jm_Cl.mono h (fun o m4 h hr _ => ?_)
    obtain rfl := jm_rokV hr
    have h := h rfl
    refine jm_aloadn d_X11_readKind_30 rfl ?_
    refine jm_bipush (v := 8) d_X11_readKind_31 rfl (jm_okI (by decide) (by decide)) ?_
    refine jm_iloadn d_X11_readKind_33 rfl ?_
    refine jm_iadd d_X11_readKind_34 ?_
    refine jm_invV (n1 := jm_N) (mc := 0) (ms := 0) (av := [jm_I _]) w_X11_readNew l_X11_202 d_X11_readKind_35 rfl is_133 ⟨_, _, rfl⟩ ⟨Nat.le_refl _, Nat.le_refl _⟩ (Nat.le_of_ble_eq_true rfl) rfl ?_
    refine jm_Cl.mono h (fun o m5 h hr _ => ?_)
    obtain ⟨r6, rfl, z7⟩ := jm_rokZ hr
    have h := h _ rfl z7
    refine jm_if_ne (tgt := 43) d_X11_readKind_38 (by decide) (fun c8 => ?_) (fun c8 => ?_)
    · have h := h.1 c8
      refine jm_aloadn d_X11_readKind_43 rfl ?_
      refine jm_getF (k := 15) (ki := 15) rfl cf_X11 (Nat.le_of_ble_eq_true rfl) f_X11_16 d_X11_readKind_44 rfl rfl is_133 fr_133_15 ?_
      refine jm_iloadn d_X11_readKind_47 rfl ?_
      refine jm_iconst (v := 0) d_X11_readKind_48 rfl (jm_okI (by decide) (by decide)) ?_
      refine jm_iadd d_X11_readKind_49 ?_
      refine jm_aloadn d_X11_readKind_50 rfl ?_
      refine jm_bipush (v := 6) d_X11_readKind_51 rfl (jm_okI (by decide) (by decide)) ?_
      refine jm_invV (n1 := jm_N) (mc := 0) (ms := 0) (av := [jm_I _]) w_X11_isWord l_X11_209 d_X11_readKind_53 rfl is_133 ⟨_, _, rfl⟩ ⟨Nat.le_refl _, Nat.le_refl _⟩ (Nat.le_of_ble_eq_true rfl) rfl ?_
      refine jm_Cl.mono h (fun o m9 h hr _ => ?_)
      obtain ⟨r10, rfl, z11⟩ := jm_rokZ hr
      have h := h _ rfl z11
      refine jm_if_eq (tgt := 63) d_X11_readKind_56 (by decide) (fun c12 => ?_) (fun c12 => ?_)
      · have h := h.1 c12
        refine jm_aloadn d_X11_readKind_63 rfl ?_
        refine jm_bipush (v := 7) d_X11_readKind_64 rfl (jm_okI (by decide) (by decide)) ?_
        refine jm_invV (n1 := jm_N) (mc := 0) (ms := 0) (av := [jm_I _]) w_X11_isWord l_X11_209 d_X11_readKind_66 rfl is_133 ⟨_, _, rfl⟩ ⟨Nat.le_refl _, Nat.le_refl _⟩ (Nat.le_of_ble_eq_true rfl) rfl ?_
        refine jm_Cl.mono h (fun o m13 h hr _ => ?_)
        obtain ⟨r14, rfl, z15⟩ := jm_rokZ hr
        have h := h _ rfl z15
        refine jm_if_eq (tgt := 76) d_X11_readKind_69 (by decide) (fun c16 => ?_) (fun c16 => ?_)
        · have h := h.1 c16
          refine jm_iconst (v := 0) d_X11_readKind_76 rfl (jm_okI (by decide) (by decide)) ?_
          obtain ⟨f17, h⟩ := h
          refine jm_iastore d_X11_readKind_77 (ixl_136 f17.1 f17.2) ?_
          have h := h _ rfl
          refine jm_aloadn d_X11_readKind_78 rfl ?_
          refine jm_getF (k := 15) (ki := 15) rfl cf_X11 (Nat.le_of_ble_eq_true rfl) f_X11_16 d_X11_readKind_79 rfl rfl is_133 fr_133_15 ?_
          refine jm_iloadn d_X11_readKind_82 rfl ?_
          refine jm_iconst (v := 0) d_X11_readKind_83 rfl (jm_okI (by decide) (by decide)) ?_
          refine jm_iadd d_X11_readKind_84 ?_
          refine jm_iaload d_X11_readKind_85 (ixl_136 f17.1 f17.2) ?_
          refine jm_if_le (tgt := 93) d_X11_readKind_86 (by decide) (fun c19 => ?_) (fun c19 => ?_)
          · have h := h.1 c19
            refine jm_bipush (v := 8) d_X11_readKind_93 rfl (jm_okI (by decide) (by decide)) ?_
            refine jm_istoren (L' := [some (jm_R _), some (jm_I _), some (jm_I _), some (jm_I _)]) d_X11_readKind_95 (Nat.le_of_ble_eq_true rfl) rfl ?_
            exact jm_weak2 h (And.intro rfl (And.intro rfl (And.intro rfl trivial)))
          · have h := h.2 c19
            refine jm_aloadn d_X11_readKind_89 rfl ?_
            refine jm_invV (n1 := jm_N) (mc := 0) (ms := 0) (av := []) w_X11_go l_X11_184 d_X11_readKind_90 rfl is_133 ⟨_, _, rfl⟩ ⟨Nat.le_refl _, Nat.le_refl _⟩ (Nat.le_of_ble_eq_true rfl) rfl ?_
            refine jm_Cl.mono h (fun o m20 h hr _ => ?_)
            obtain rfl := jm_rokV hr
            have h := h rfl
            refine jm_bipush (v := 8) d_X11_readKind_93 rfl (jm_okI (by decide) (by decide)) ?_
            refine jm_istoren (L' := [some (jm_R _), some (jm_I _), some (jm_I _), some (jm_I _)]) d_X11_readKind_95 (Nat.le_of_ble_eq_true rfl) rfl ?_
            exact jm_weak2 h (And.intro rfl (And.intro rfl (And.intro rfl trivial)))
        · have h := h.2 c16
          refine jm_iconst (v := 2) d_X11_readKind_72 rfl (jm_okI (by decide) (by decide)) ?_
          refine jm_goto (tgt := 77) d_X11_readKind_73 (by decide) ?_
          obtain ⟨f21, h⟩ := h
          refine jm_iastore d_X11_readKind_77 (ixl_136 f21.1 f21.2) ?_
          have h := h _ rfl
          refine jm_aloadn d_X11_readKind_78 rfl ?_
          refine jm_getF (k := 15) (ki := 15) rfl cf_X11 (Nat.le_of_ble_eq_true rfl) f_X11_16 d_X11_readKind_79 rfl rfl is_133 fr_133_15 ?_
          refine jm_iloadn d_X11_readKind_82 rfl ?_
          refine jm_iconst (v := 0) d_X11_readKind_83 rfl (jm_okI (by decide) (by decide)) ?_
          refine jm_iadd d_X11_readKind_84 ?_
          refine jm_iaload d_X11_readKind_85 (ixl_136 f21.1 f21.2) ?_
          refine jm_if_le (tgt := 93) d_X11_readKind_86 (by decide) (fun c23 => ?_) (fun c23 => ?_)
          · have h := h.1 c23
            refine jm_bipush (v := 8) d_X11_readKind_93 rfl (jm_okI (by decide) (by decide)) ?_
            refine jm_istoren (L' := [some (jm_R _), some (jm_I _), some (jm_I _), some (jm_I _)]) d_X11_readKind_95 (Nat.le_of_ble_eq_true rfl) rfl ?_
            exact jm_weak2 h (And.intro rfl (And.intro rfl (And.intro rfl trivial)))
          · have h := h.2 c23
            refine jm_aloadn d_X11_readKind_89 rfl ?_
            refine jm_invV (n1 := jm_N) (mc := 0) (ms := 0) (av := []) w_X11_go l_X11_184 d_X11_readKind_90 rfl is_133 ⟨_, _, rfl⟩ ⟨Nat.le_refl _, Nat.le_refl _⟩ (Nat.le_of_ble_eq_true rfl) rfl ?_
            refine jm_Cl.mono h (fun o m24 h hr _ => ?_)
            obtain rfl := jm_rokV hr
            have h := h rfl
            refine jm_bipush (v := 8) d_X11_readKind_93 rfl (jm_okI (by decide) (by decide)) ?_
            refine jm_istoren (L' := [some (jm_R _), some (jm_I _), some (jm_I _), some (jm_I _)]) d_X11_readKind_95 (Nat.le_of_ble_eq_true rfl) rfl ?_
            exact jm_weak2 h (And.intro rfl (And.intro rfl (And.intro rfl trivial)))
      · have h := h.2 c12
        refine jm_iconst (v := 1) d_X11_readKind_59 rfl (jm_okI (by decide) (by decide)) ?_
        refine jm_goto (tgt := 77) d_X11_readKind_60 (by decide) ?_
        obtain ⟨f25, h⟩ := h
        refine jm_iastore d_X11_readKind_77 (ixl_136 f25.1 f25.2) ?_
        have h := h _ rfl
        refine jm_aloadn d_X11_readKind_78 rfl ?_
        refine jm_getF (k := 15) (ki := 15) rfl cf_X11 (Nat.le_of_ble_eq_true rfl) f_X11_16 d_X11_readKind_79 rfl rfl is_133 fr_133_15 ?_
        refine jm_iloadn d_X11_readKind_82 rfl ?_
        refine jm_iconst (v := 0) d_X11_readKind_83 rfl (jm_okI (by decide) (by decide)) ?_
        refine jm_iadd d_X11_readKind_84 ?_
        refine jm_iaload d_X11_readKind_85 (ixl_136 f25.1 f25.2) ?_
        refine jm_if_le (tgt := 93) d_X11_readKind_86 (by decide) (fun c27 => ?_) (fun c27 => ?_)
        · have h := h.1 c27
          refine jm_bipush (v := 8) d_X11_readKind_93 rfl (jm_okI (by decide) (by decide)) ?_
          refine jm_istoren (L' := [some (jm_R _), some (jm_I _), some (jm_I _), some (jm_I _)]) d_X11_readKind_95 (Nat.le_of_ble_eq_true rfl) rfl ?_
          exact jm_weak2 h (And.intro rfl (And.intro rfl (And.intro rfl trivial)))
        · have h := h.2 c27
          refine jm_aloadn d_X11_readKind_89 rfl ?_
          refine jm_invV (n1 := jm_N) (mc := 0) (ms := 0) (av := []) w_X11_go l_X11_184 d_X11_readKind_90 rfl is_133 ⟨_, _, rfl⟩ ⟨Nat.le_refl _, Nat.le_refl _⟩ (Nat.le_of_ble_eq_true rfl) rfl ?_
          refine jm_Cl.mono h (fun o m28 h hr _ => ?_)
          obtain rfl := jm_rokV hr
          have h := h rfl
          refine jm_bipush (v := 8) d_X11_readKind_93 rfl (jm_okI (by decide) (by decide)) ?_
          refine jm_istoren (L' := [some (jm_R _), some (jm_I _), some (jm_I _), some (jm_I _)]) d_X11_readKind_95 (Nat.le_of_ble_eq_true rfl) rfl ?_
          exact jm_weak2 h (And.intro rfl (And.intro rfl (And.intro rfl trivial)))
    · have h := h.2 c8
      refine jm_iconst (v := 0) d_X11_readKind_41 rfl (jm_okI (by decide) (by decide)) ?_
      exact jm_ret (o := some (jm_I _)) d_X11_readKind_42 rfl ⟨Nat.le_refl _, Nat.le_refl _⟩ (jm_r_Z (by decide)) h rfl
  · have h := h.2 c2
    refine jm_aloadn d_X11_readKind_13 rfl ?_
    refine jm_iconst (v := 4) d_X11_readKind_14 rfl (jm_okI (by decide) (by decide)) ?_
    refine jm_invV (n1 := jm_N) (mc := 0) (ms := 0) (av := [jm_I _]) w_X11_bad l_X11_174 d_X11_readKind_15 rfl is_133 ⟨_, _, rfl⟩ ⟨Nat.le_refl _, Nat.le_refl _⟩ (Nat.le_of_ble_eq_true rfl) rfl ?_
    refine jm_Cl.mono h (fun o m29 h hr _ => ?_)
    obtain ⟨r30, rfl, z31⟩ := jm_rokZ hr
    have h := h _ rfl z31
    exact jm_ret (o := some (jm_I _)) d_X11_readKind_18 rfl ⟨Nat.le_refl _, Nat.le_refl _⟩ (jm_r_Z z31) h rfl
set_option maxRecDepth 20000 in
theorem r_X11_readKind_96 {E : jm_E} {d : Nat} {μ : jm_M} {Q : Option jm_V → jm_M → Prop} {v2 v3 : Int} (h :
  ((14 ≤ v3 →
    jg E m_X11_readKind d 116 [some (jm_R 133), none, some (jm_I v2), some (jm_I v3)] [] μ Q) ∧
   (¬ (14 ≤ v3) →
    jc E m_X11_isWord d [jm_R 133, jm_I v3] μ (fun (o : Option jm_V) (m2 : jm_M) => ∀ r3 : Int, o = some (jm_I r3) → (r3 = 0 ∨ r3 = 1) →
    ((r3 ≠ 0 →
      jg E m_X11_readKind d 116 [some (jm_R 133), none, some (jm_I v2), some (jm_I v3)] [] m2 Q) ∧
     (¬ (r3 ≠ 0) →
      jg E m_X11_readKind d 96 [some (jm_R 133), none, some (jm_I v2), some (jm_I (jm_wr (v3 + 1)))] [] m2 Q)))))) : jg E m_X11_readKind d 96 [some (jm_R 133), none, some (jm_I v2), some (jm_I v3)] [] μ Q := by
  refine jm_iloadn d_X11_readKind_96 rfl ?_
  refine jm_bipush (v := 14) d_X11_readKind_97 rfl (jm_okI (by decide) (by decide)) ?_
  refine jm_icmp_ge (tgt := 116) d_X11_readKind_99 (by decide) (fun c1 => ?_) (fun c1 => ?_)
  · have h := h.1 c1
    exact h
  · have h := h.2 c1
    refine jm_aloadn d_X11_readKind_102 rfl ?_
    refine jm_iloadn d_X11_readKind_103 rfl ?_
    refine jm_invV (n1 := jm_N) (mc := 0) (ms := 0) (av := [jm_I _]) w_X11_isWord l_X11_209 d_X11_readKind_104 rfl is_133 ⟨_, _, rfl⟩ ⟨Nat.le_refl _, Nat.le_refl _⟩ (Nat.le_of_ble_eq_true rfl) rfl ?_
    refine jm_Cl.mono h (fun o m2 h hr _ => ?_)
    obtain ⟨r3, rfl, z4⟩ := jm_rokZ hr
    have h := h _ rfl z4
    refine jm_if_ne (tgt := 116) d_X11_readKind_107 (by decide) (fun c5 => ?_) (fun c5 => ?_)
    · have h := h.1 c5
      exact h
    · have h := h.2 c5
      refine jm_iinc (L' := [some (jm_R _), none, some (jm_I _), some (jm_I _)]) d_X11_readKind_110 rfl rfl (Nat.le_of_ble_eq_true rfl) rfl ?_
      refine jm_goto (tgt := 96) d_X11_readKind_113 (by decide) ?_
      exact h
set_option maxRecDepth 20000 in
theorem r_X11_readKind_116 {E : jm_E} {d : Nat} {μ : jm_M} {Q : Option jm_V → jm_M → Prop} {v2 v3 : Int} (h :
  ((v3 ≠ 14 →
    (0 ≤ jm_wr (v2 + 1) ∧ jm_wr (v2 + 1) < 60) ∧
    ∀ m3 : jm_M, m3 = (jm_up μ 136 (jm_wr (v2 + 1)) (jm_wr ((jm_wr (v3 - 8)) + 1))) →
    ((14 ≤ v3 →
      jg E m_X11_readKind d 150 [some (jm_R 133), none, some (jm_I v2), none] [] m3 Q) ∧
     (¬ (14 ≤ v3) →
      jc E m_X11_go d [jm_R 133] m3 (fun (o : Option jm_V) (m5 : jm_M) => o = none →
      jg E m_X11_readKind d 150 [some (jm_R 133), none, some (jm_I v2), none] [] m5 Q)))) ∧
   (¬ (v3 ≠ 14) →
    (0 ≤ jm_wr (v2 + 1) ∧ jm_wr (v2 + 1) < 60) ∧
    ∀ m7 : jm_M, m7 = (jm_up μ 136 (jm_wr (v2 + 1)) 0) →
    ((14 ≤ v3 →
      jg E m_X11_readKind d 150 [some (jm_R 133), none, some (jm_I v2), none] [] m7 Q) ∧
     (¬ (14 ≤ v3) →
      jc E m_X11_go d [jm_R 133] m7 (fun (o : Option jm_V) (m9 : jm_M) => o = none →
      jg E m_X11_readKind d 150 [some (jm_R 133), none, some (jm_I v2), none] [] m9 Q)))))) : jg E m_X11_readKind d 116 [some (jm_R 133), none, some (jm_I v2), some (jm_I v3)] [] μ Q := by
  refine jm_aloadn d_X11_readKind_116 rfl ?_
  refine jm_getF (k := 15) (ki := 15) rfl cf_X11 (Nat.le_of_ble_eq_true rfl) f_X11_16 d_X11_readKind_117 rfl rfl is_133 fr_133_15 ?_
  refine jm_iloadn d_X11_readKind_120 rfl ?_
  refine jm_iconst (v := 1) d_X11_readKind_121 rfl (jm_okI (by decide) (by decide)) ?_
  refine jm_iadd d_X11_readKind_122 ?_
  refine jm_iloadn d_X11_readKind_123 rfl ?_
  refine jm_bipush (v := 14) d_X11_readKind_124 rfl (jm_okI (by decide) (by decide)) ?_
  refine jm_icmp_ne (tgt := 133) d_X11_readKind_126 (by decide) (fun c1 => ?_) (fun c1 => ?_)
  · have h := h.1 c1
    refine jm_iloadn d_X11_readKind_133 rfl ?_
    refine jm_bipush (v := 8) d_X11_readKind_134 rfl (jm_okI (by decide) (by decide)) ?_
    refine jm_isub d_X11_readKind_136 ?_
    refine jm_iconst (v := 1) d_X11_readKind_137 rfl (jm_okI (by decide) (by decide)) ?_
    refine jm_iadd d_X11_readKind_138 ?_
    obtain ⟨f2, h⟩ := h
    refine jm_iastore d_X11_readKind_139 (ixl_136 f2.1 f2.2) ?_
    have h := h _ rfl
    refine jm_iloadn d_X11_readKind_140 rfl ?_
    refine jm_bipush (v := 14) d_X11_readKind_141 rfl (jm_okI (by decide) (by decide)) ?_
    refine jm_icmp_ge (tgt := 150) d_X11_readKind_143 (by decide) (fun c4 => ?_) (fun c4 => ?_)
    · have h := h.1 c4
      exact jm_weak2 h (And.intro rfl (And.intro rfl trivial))
    · have h := h.2 c4
      refine jm_aloadn d_X11_readKind_146 rfl ?_
      refine jm_invV (n1 := jm_N) (mc := 0) (ms := 0) (av := []) w_X11_go l_X11_184 d_X11_readKind_147 rfl is_133 ⟨_, _, rfl⟩ ⟨Nat.le_refl _, Nat.le_refl _⟩ (Nat.le_of_ble_eq_true rfl) rfl ?_
      refine jm_Cl.mono h (fun o m5 h hr _ => ?_)
      obtain rfl := jm_rokV hr
      have h := h rfl
      exact jm_weak2 h (And.intro rfl (And.intro rfl trivial))
  · have h := h.2 c1
    refine jm_iconst (v := 0) d_X11_readKind_129 rfl (jm_okI (by decide) (by decide)) ?_
    refine jm_goto (tgt := 139) d_X11_readKind_130 (by decide) ?_
    obtain ⟨f6, h⟩ := h
    refine jm_iastore d_X11_readKind_139 (ixl_136 f6.1 f6.2) ?_
    have h := h _ rfl
    refine jm_iloadn d_X11_readKind_140 rfl ?_
    refine jm_bipush (v := 14) d_X11_readKind_141 rfl (jm_okI (by decide) (by decide)) ?_
    refine jm_icmp_ge (tgt := 150) d_X11_readKind_143 (by decide) (fun c8 => ?_) (fun c8 => ?_)
    · have h := h.1 c8
      exact jm_weak2 h (And.intro rfl (And.intro rfl trivial))
    · have h := h.2 c8
      refine jm_aloadn d_X11_readKind_146 rfl ?_
      refine jm_invV (n1 := jm_N) (mc := 0) (ms := 0) (av := []) w_X11_go l_X11_184 d_X11_readKind_147 rfl is_133 ⟨_, _, rfl⟩ ⟨Nat.le_refl _, Nat.le_refl _⟩ (Nat.le_of_ble_eq_true rfl) rfl ?_
      refine jm_Cl.mono h (fun o m9 h hr _ => ?_)
      obtain rfl := jm_rokV hr
      have h := h rfl
      exact jm_weak2 h (And.intro rfl (And.intro rfl trivial))
set_option maxRecDepth 20000 in
theorem r_X11_readKind_150 {E : jm_E} {d : Nat} {μ : jm_M} {Q : Option jm_V → jm_M → Prop} {v2 : Int} (h :
  (0 ≤ jm_wr (v2 + 1) ∧ jm_wr (v2 + 1) < 60) ∧
  (((μ 136 (jm_wr (v2 + 1))) ≠ 2 →
    ∀ m3 : jm_M, m3 = (jm_up μ 136 1 (jm_wr ((μ 136 1) + 1))) →
    Q (some (jm_I 1)) m3) ∧
   (¬ ((μ 136 (jm_wr (v2 + 1))) ≠ 2) →
    jc E m_X11_readNumber d [jm_R 133, jm_I 1, jm_I 99] μ (fun (o : Option jm_V) (m4 : jm_M) => ∀ r5 : Int, o = some (jm_I r5) → (r5 = 0 ∨ r5 = 1) →
    ((r5 ≠ 0 →
      (0 ≤ jm_wr (v2 + 2) ∧ jm_wr (v2 + 2) < 60) ∧
      ∀ m9 : jm_M, m9 = (jm_up m4 136 (jm_wr (v2 + 2)) (m4 133 13)) →
      ∀ m10 : jm_M, m10 = (jm_up m9 136 1 (jm_wr ((m9 136 1) + 1))) →
      Q (some (jm_I 1)) m10) ∧
     (¬ (r5 ≠ 0) →
      Q (some (jm_I 0)) m4)))))) : jg E m_X11_readKind d 150 [some (jm_R 133), none, some (jm_I v2), none] [] μ Q := by
  refine jm_aloadn d_X11_readKind_150 rfl ?_
  refine jm_getF (k := 15) (ki := 15) rfl cf_X11 (Nat.le_of_ble_eq_true rfl) f_X11_16 d_X11_readKind_151 rfl rfl is_133 fr_133_15 ?_
  refine jm_iloadn d_X11_readKind_154 rfl ?_
  refine jm_iconst (v := 1) d_X11_readKind_155 rfl (jm_okI (by decide) (by decide)) ?_
  refine jm_iadd d_X11_readKind_156 ?_
  obtain ⟨f1, h⟩ := h
  refine jm_iaload d_X11_readKind_157 (ixl_136 f1.1 f1.2) ?_
  refine jm_iconst (v := 2) d_X11_readKind_158 rfl (jm_okI (by decide) (by decide)) ?_
  refine jm_icmp_ne (tgt := 186) d_X11_readKind_159 (by decide) (fun c2 => ?_) (fun c2 => ?_)
  · have h := h.1 c2
    refine jm_aloadn d_X11_readKind_186 rfl ?_
    refine jm_getF (k := 15) (ki := 15) rfl cf_X11 (Nat.le_of_ble_eq_true rfl) f_X11_16 d_X11_readKind_187 rfl rfl is_133 fr_133_15 ?_
    refine jm_iconst (v := 1) d_X11_readKind_190 rfl (jm_okI (by decide) (by decide)) ?_
    refine jm_dup2 rfl rfl d_X11_readKind_191 ?_
    refine jm_iaload d_X11_readKind_192 (ixl_136 (by decide) (by decide)) ?_
    refine jm_iconst (v := 1) d_X11_readKind_193 rfl (jm_okI (by decide) (by decide)) ?_
    refine jm_iadd d_X11_readKind_194 ?_
    refine jm_iastore d_X11_readKind_195 (ixl_136 (by decide) (by decide)) ?_
    have h := h _ rfl
    refine jm_iconst (v := 1) d_X11_readKind_196 rfl (jm_okI (by decide) (by decide)) ?_
    exact jm_ret (o := some (jm_I _)) d_X11_readKind_197 rfl ⟨Nat.le_refl _, Nat.le_refl _⟩ (jm_r_Z (by decide)) h rfl
  · have h := h.2 c2
    refine jm_aloadn d_X11_readKind_162 rfl ?_
    refine jm_iconst (v := 1) d_X11_readKind_163 rfl (jm_okI (by decide) (by decide)) ?_
    refine jm_bipush (v := 99) d_X11_readKind_164 rfl (jm_okI (by decide) (by decide)) ?_
    refine jm_invV (n1 := jm_N) (mc := 0) (ms := 0) (av := [jm_I _, jm_I _]) w_X11_readNumber l_X11_205 d_X11_readKind_166 rfl is_133 ⟨_, _, rfl⟩ ⟨Nat.le_refl _, Nat.le_refl _⟩ (Nat.le_of_ble_eq_true rfl) rfl ?_
    refine jm_Cl.mono h (fun o m4 h hr _ => ?_)
    obtain ⟨r5, rfl, z6⟩ := jm_rokZ hr
    have h := h _ rfl z6
    refine jm_if_ne (tgt := 174) d_X11_readKind_169 (by decide) (fun c7 => ?_) (fun c7 => ?_)
    · have h := h.1 c7
      refine jm_aloadn d_X11_readKind_174 rfl ?_
      refine jm_getF (k := 15) (ki := 15) rfl cf_X11 (Nat.le_of_ble_eq_true rfl) f_X11_16 d_X11_readKind_175 rfl rfl is_133 fr_133_15 ?_
      refine jm_iloadn d_X11_readKind_178 rfl ?_
      refine jm_iconst (v := 2) d_X11_readKind_179 rfl (jm_okI (by decide) (by decide)) ?_
      refine jm_iadd d_X11_readKind_180 ?_
      refine jm_aloadn d_X11_readKind_181 rfl ?_
      refine jm_getI (k := 13) (ki := 13) cf_X11 (Nat.le_of_ble_eq_true rfl) f_X11_181 d_X11_readKind_182 rfl rfl is_133 rfl ?_
      obtain ⟨f8, h⟩ := h
      refine jm_iastore d_X11_readKind_185 (ixl_136 f8.1 f8.2) ?_
      have h := h _ rfl
      refine jm_aloadn d_X11_readKind_186 rfl ?_
      refine jm_getF (k := 15) (ki := 15) rfl cf_X11 (Nat.le_of_ble_eq_true rfl) f_X11_16 d_X11_readKind_187 rfl rfl is_133 fr_133_15 ?_
      refine jm_iconst (v := 1) d_X11_readKind_190 rfl (jm_okI (by decide) (by decide)) ?_
      refine jm_dup2 rfl rfl d_X11_readKind_191 ?_
      refine jm_iaload d_X11_readKind_192 (ixl_136 (by decide) (by decide)) ?_
      refine jm_iconst (v := 1) d_X11_readKind_193 rfl (jm_okI (by decide) (by decide)) ?_
      refine jm_iadd d_X11_readKind_194 ?_
      refine jm_iastore d_X11_readKind_195 (ixl_136 (by decide) (by decide)) ?_
      have h := h _ rfl
      refine jm_iconst (v := 1) d_X11_readKind_196 rfl (jm_okI (by decide) (by decide)) ?_
      exact jm_ret (o := some (jm_I _)) d_X11_readKind_197 rfl ⟨Nat.le_refl _, Nat.le_refl _⟩ (jm_r_Z (by decide)) h rfl
    · have h := h.2 c7
      refine jm_iconst (v := 0) d_X11_readKind_172 rfl (jm_okI (by decide) (by decide)) ?_
      exact jm_ret (o := some (jm_I _)) d_X11_readKind_173 rfl ⟨Nat.le_refl _, Nat.le_refl _⟩ (jm_r_Z (by decide)) h rfl
/-! ('CombTableModel', 'readKindTold', '()Z') -/
theorem d_X11_readKindTold_0 : decode m_X11_readKindTold.2.1 0 = .ok (.aload_n 0, 1) := by decide +kernel
theorem d_X11_readKindTold_1 : decode m_X11_readKindTold.2.1 1 = .ok (.invokevirtual 194, 3) := by decide +kernel
theorem d_X11_readKindTold_4 : decode m_X11_readKindTold.2.1 4 = .ok (.ifCond .ne 9, 3) := by decide +kernel
theorem d_X11_readKindTold_7 : decode m_X11_readKindTold.2.1 7 = .ok (.aload_n 0, 1) := by decide +kernel
theorem d_X11_readKindTold_8 : decode m_X11_readKindTold.2.1 8 = .ok (.iconst 1, 1) := by decide +kernel
theorem d_X11_readKindTold_9 : decode m_X11_readKindTold.2.1 9 = .ok (.invokevirtual 174, 3) := by decide +kernel
theorem d_X11_readKindTold_12 : decode m_X11_readKindTold.2.1 12 = .ok (.ireturn, 1) := by decide +kernel
theorem d_X11_readKindTold_13 : decode m_X11_readKindTold.2.1 13 = .ok (.aload_n 0, 1) := by decide +kernel
theorem d_X11_readKindTold_14 : decode m_X11_readKindTold.2.1 14 = .ok (.aload_n 0, 1) := by decide +kernel
theorem d_X11_readKindTold_15 : decode m_X11_readKindTold.2.1 15 = .ok (.aload_n 0, 1) := by decide +kernel
theorem d_X11_readKindTold_16 : decode m_X11_readKindTold.2.1 16 = .ok (.getfield 29, 3) := by decide +kernel
theorem d_X11_readKindTold_19 : decode m_X11_readKindTold.2.1 19 = .ok (.bipush 8, 2) := by decide +kernel
theorem d_X11_readKindTold_21 : decode m_X11_readKindTold.2.1 21 = .ok (.aload_n 0, 1) := by decide +kernel
theorem d_X11_readKindTold_22 : decode m_X11_readKindTold.2.1 22 = .ok (.getfield 16, 3) := by decide +kernel
theorem d_X11_readKindTold_25 : decode m_X11_readKindTold.2.1 25 = .ok (.iconst 1, 1) := by decide +kernel
theorem d_X11_readKindTold_26 : decode m_X11_readKindTold.2.1 26 = .ok (.iaload, 1) := by decide +kernel
theorem d_X11_readKindTold_27 : decode m_X11_readKindTold.2.1 27 = .ok (.invokevirtual 198, 3) := by decide +kernel
theorem d_X11_readKindTold_30 : decode m_X11_readKindTold.2.1 30 = .ok (.putfield 181, 3) := by decide +kernel
theorem d_X11_readKindTold_33 : decode m_X11_readKindTold.2.1 33 = .ok (.aload_n 0, 1) := by decide +kernel
theorem d_X11_readKindTold_34 : decode m_X11_readKindTold.2.1 34 = .ok (.getfield 181, 3) := by decide +kernel
theorem d_X11_readKindTold_37 : decode m_X11_readKindTold.2.1 37 = .ok (.iconst (-1), 1) := by decide +kernel
theorem d_X11_readKindTold_38 : decode m_X11_readKindTold.2.1 38 = .ok (.if_icmp .ne 11, 3) := by decide +kernel
theorem d_X11_readKindTold_41 : decode m_X11_readKindTold.2.1 41 = .ok (.aload_n 0, 1) := by decide +kernel
theorem d_X11_readKindTold_42 : decode m_X11_readKindTold.2.1 42 = .ok (.iconst 3, 1) := by decide +kernel
theorem d_X11_readKindTold_43 : decode m_X11_readKindTold.2.1 43 = .ok (.invokevirtual 174, 3) := by decide +kernel
theorem d_X11_readKindTold_46 : decode m_X11_readKindTold.2.1 46 = .ok (.ifCond .eq 7, 3) := by decide +kernel
theorem d_X11_readKindTold_49 : decode m_X11_readKindTold.2.1 49 = .ok (.iconst 1, 1) := by decide +kernel
theorem d_X11_readKindTold_50 : decode m_X11_readKindTold.2.1 50 = .ok (.goto 4, 3) := by decide +kernel
theorem d_X11_readKindTold_53 : decode m_X11_readKindTold.2.1 53 = .ok (.iconst 0, 1) := by decide +kernel
theorem d_X11_readKindTold_54 : decode m_X11_readKindTold.2.1 54 = .ok (.ireturn, 1) := by decide +kernel
set_option maxRecDepth 20000 in
theorem e_X11_readKindTold {E : jm_E} {d : Nat} {μ : jm_M} {Q : Option jm_V → jm_M → Prop}  (h : (∀ v ∈ ([jm_R 133] : List jm_V), jm_ok v) →
  jc E m_X11_isName d [jm_R 133] μ (fun (o : Option jm_V) (m1 : jm_M) => ∀ r2 : Int, o = some (jm_I r2) → (r2 = 0 ∨ r2 = 1) →
  ((r2 ≠ 0 →
    jc E m_X11_findIn d [jm_R 133, jm_R 140, jm_I 8, jm_I (m1 136 1)] m1 (fun (o : Option jm_V) (m5 : jm_M) => ∀ r6 : Int, o = some (jm_I r6) →
    ((r6 ≠ ((-1)) →
      Q (some (jm_I 1)) (jm_up m5 133 13 r6)) ∧
     (¬ (r6 ≠ ((-1))) →
      jc E m_X11_bad d [jm_R 133, jm_I 3] (jm_up m5 133 13 r6) (fun (o : Option jm_V) (m8 : jm_M) => ∀ r9 : Int, o = some (jm_I r9) → (r9 = 0 ∨ r9 = 1) →
      ((r9 = 0 →
        Q (some (jm_I 0)) m8) ∧
       (¬ (r9 = 0) →
        Q (some (jm_I 1)) m8))))))) ∧
   (¬ (r2 ≠ 0) →
    jc E m_X11_bad d [jm_R 133, jm_I 1] m1 (fun (o : Option jm_V) (m12 : jm_M) => ∀ r13 : Int, o = some (jm_I r13) → (r13 = 0 ∨ r13 = 1) →
    Q (some (jm_I r13)) m12))))) : jc E m_X11_readKindTold (d + 1) [jm_R 133] μ Q := by
  refine jm_Cl.of2 (by decide +kernel) (L0 := [some (jm_R 133)]) rfl (Nat.le_of_ble_eq_true rfl) (fun hok => ?_)
  have h := h hok
  refine jm_aloadn d_X11_readKindTold_0 rfl ?_
  refine jm_invV (n1 := jm_N) (mc := 0) (ms := 0) (av := []) w_X11_isName l_X11_194 d_X11_readKindTold_1 rfl is_133 ⟨_, _, rfl⟩ ⟨Nat.le_refl _, Nat.le_refl _⟩ (Nat.le_of_ble_eq_true rfl) rfl ?_
  refine jm_Cl.mono h (fun o m1 h hr _ => ?_)
  obtain ⟨r2, rfl, z3⟩ := jm_rokZ hr
  have h := h _ rfl z3
  refine jm_if_ne (tgt := 13) d_X11_readKindTold_4 (by decide) (fun c4 => ?_) (fun c4 => ?_)
  · have h := h.1 c4
    refine jm_aloadn d_X11_readKindTold_13 rfl ?_
    refine jm_aloadn d_X11_readKindTold_14 rfl ?_
    refine jm_aloadn d_X11_readKindTold_15 rfl ?_
    refine jm_getF (k := 19) (ki := 19) rfl cf_X11 (Nat.le_of_ble_eq_true rfl) f_X11_29 d_X11_readKindTold_16 rfl rfl is_133 fr_133_19 ?_
    refine jm_bipush (v := 8) d_X11_readKindTold_19 rfl (jm_okI (by decide) (by decide)) ?_
    refine jm_aloadn d_X11_readKindTold_21 rfl ?_
    refine jm_getF (k := 15) (ki := 15) rfl cf_X11 (Nat.le_of_ble_eq_true rfl) f_X11_16 d_X11_readKindTold_22 rfl rfl is_133 fr_133_15 ?_
    refine jm_iconst (v := 1) d_X11_readKindTold_25 rfl (jm_okI (by decide) (by decide)) ?_
    refine jm_iaload d_X11_readKindTold_26 (ixl_136 (by decide) (by decide)) ?_
    refine jm_invV (n1 := jm_N) (mc := 0) (ms := 0) (av := [jm_R _, jm_I _, jm_I _]) w_X11_findIn l_X11_198 d_X11_readKindTold_27 rfl is_133 ⟨_, _, rfl⟩ ⟨Nat.le_refl _, Nat.le_refl _⟩ (Nat.le_of_ble_eq_true rfl) rfl ?_
    refine jm_Cl.mono h (fun o m5 h hr _ => ?_)
    obtain ⟨r6, rfl⟩ := jm_rokI hr
    have h := h _ rfl
    refine jm_putI (k := 13) (ki := 13) cf_X11 (Nat.le_of_ble_eq_true rfl) f_X11_181 d_X11_readKindTold_30 (fun z => absurd z (by decide)) rfl rfl rfl (fun _ => rfl) is_133 ?_
    refine jm_aloadn d_X11_readKindTold_33 rfl ?_
    refine jm_getI (k := 13) (ki := 13) cf_X11 (Nat.le_of_ble_eq_true rfl) f_X11_181 d_X11_readKindTold_34 rfl rfl is_133 jm_up_at ?_
    refine jm_iconst (v := (-1)) d_X11_readKindTold_37 rfl (jm_okI (by decide) (by decide)) ?_
    refine jm_icmp_ne (tgt := 49) d_X11_readKindTold_38 (by decide) (fun c7 => ?_) (fun c7 => ?_)
    · have h := h.1 c7
      refine jm_iconst (v := 1) d_X11_readKindTold_49 rfl (jm_okI (by decide) (by decide)) ?_
      refine jm_goto (tgt := 54) d_X11_readKindTold_50 (by decide) ?_
      exact jm_ret (o := some (jm_I _)) d_X11_readKindTold_54 rfl ⟨Nat.le_refl _, Nat.le_refl _⟩ (jm_r_Z (by decide)) h rfl
    · have h := h.2 c7
      refine jm_aloadn d_X11_readKindTold_41 rfl ?_
      refine jm_iconst (v := 3) d_X11_readKindTold_42 rfl (jm_okI (by decide) (by decide)) ?_
      refine jm_invV (n1 := jm_N) (mc := 0) (ms := 0) (av := [jm_I _]) w_X11_bad l_X11_174 d_X11_readKindTold_43 rfl is_133 ⟨_, _, rfl⟩ ⟨Nat.le_refl _, Nat.le_refl _⟩ (Nat.le_of_ble_eq_true rfl) rfl ?_
      refine jm_Cl.mono h (fun o m8 h hr _ => ?_)
      obtain ⟨r9, rfl, z10⟩ := jm_rokZ hr
      have h := h _ rfl z10
      refine jm_if_eq (tgt := 53) d_X11_readKindTold_46 (by decide) (fun c11 => ?_) (fun c11 => ?_)
      · have h := h.1 c11
        refine jm_iconst (v := 0) d_X11_readKindTold_53 rfl (jm_okI (by decide) (by decide)) ?_
        exact jm_ret (o := some (jm_I _)) d_X11_readKindTold_54 rfl ⟨Nat.le_refl _, Nat.le_refl _⟩ (jm_r_Z (by decide)) h rfl
      · have h := h.2 c11
        refine jm_iconst (v := 1) d_X11_readKindTold_49 rfl (jm_okI (by decide) (by decide)) ?_
        refine jm_goto (tgt := 54) d_X11_readKindTold_50 (by decide) ?_
        exact jm_ret (o := some (jm_I _)) d_X11_readKindTold_54 rfl ⟨Nat.le_refl _, Nat.le_refl _⟩ (jm_r_Z (by decide)) h rfl
  · have h := h.2 c4
    refine jm_aloadn d_X11_readKindTold_7 rfl ?_
    refine jm_iconst (v := 1) d_X11_readKindTold_8 rfl (jm_okI (by decide) (by decide)) ?_
    refine jm_invV (n1 := jm_N) (mc := 0) (ms := 0) (av := [jm_I _]) w_X11_bad l_X11_174 d_X11_readKindTold_9 rfl is_133 ⟨_, _, rfl⟩ ⟨Nat.le_refl _, Nat.le_refl _⟩ (Nat.le_of_ble_eq_true rfl) rfl ?_
    refine jm_Cl.mono h (fun o m12 h hr _ => ?_)
    obtain ⟨r13, rfl, z14⟩ := jm_rokZ hr
    have h := h _ rfl z14
    exact jm_ret (o := some (jm_I _)) d_X11_readKindTold_12 rfl ⟨Nat.le_refl _, Nat.le_refl _⟩ (jm_r_Z z14) h rfl
/-! ('CombTableModel', 'readMay', '()Z') -/
theorem d_X11_readMay_0 : decode m_X11_readMay.2.1 0 = .ok (.aload_n 0, 1) := by decide +kernel
theorem d_X11_readMay_1 : decode m_X11_readMay.2.1 1 = .ok (.getfield 16, 3) := by decide +kernel
theorem d_X11_readMay_4 : decode m_X11_readMay.2.1 4 = .ok (.iconst 2, 1) := by decide +kernel
theorem d_X11_readMay_5 : decode m_X11_readMay.2.1 5 = .ok (.iaload, 1) := by decide +kernel
theorem d_X11_readMay_6 : decode m_X11_readMay.2.1 6 = .ok (.bipush 40, 2) := by decide +kernel
theorem d_X11_readMay_8 : decode m_X11_readMay.2.1 8 = .ok (.if_icmp .ne 9, 3) := by decide +kernel
theorem d_X11_readMay_11 : decode m_X11_readMay.2.1 11 = .ok (.aload_n 0, 1) := by decide +kernel
theorem d_X11_readMay_12 : decode m_X11_readMay.2.1 12 = .ok (.iconst 4, 1) := by decide +kernel
theorem d_X11_readMay_13 : decode m_X11_readMay.2.1 13 = .ok (.invokevirtual 174, 3) := by decide +kernel
theorem d_X11_readMay_16 : decode m_X11_readMay.2.1 16 = .ok (.ireturn, 1) := by decide +kernel
theorem d_X11_readMay_17 : decode m_X11_readMay.2.1 17 = .ok (.aload_n 0, 1) := by decide +kernel
theorem d_X11_readMay_18 : decode m_X11_readMay.2.1 18 = .ok (.invokevirtual 184, 3) := by decide +kernel
theorem d_X11_readMay_21 : decode m_X11_readMay.2.1 21 = .ok (.aload_n 0, 1) := by decide +kernel
theorem d_X11_readMay_22 : decode m_X11_readMay.2.1 22 = .ok (.invokevirtual 212, 3) := by decide +kernel
theorem d_X11_readMay_25 : decode m_X11_readMay.2.1 25 = .ok (.ifCond .ne 5, 3) := by decide +kernel
theorem d_X11_readMay_28 : decode m_X11_readMay.2.1 28 = .ok (.iconst 0, 1) := by decide +kernel
theorem d_X11_readMay_29 : decode m_X11_readMay.2.1 29 = .ok (.ireturn, 1) := by decide +kernel
theorem d_X11_readMay_30 : decode m_X11_readMay.2.1 30 = .ok (.aload_n 0, 1) := by decide +kernel
theorem d_X11_readMay_31 : decode m_X11_readMay.2.1 31 = .ok (.getfield 181, 3) := by decide +kernel
theorem d_X11_readMay_34 : decode m_X11_readMay.2.1 34 = .ok (.istore_n 1, 1) := by decide +kernel
theorem d_X11_readMay_35 : decode m_X11_readMay.2.1 35 = .ok (.aload_n 0, 1) := by decide +kernel
theorem d_X11_readMay_36 : decode m_X11_readMay.2.1 36 = .ok (.invokevirtual 184, 3) := by decide +kernel
theorem d_X11_readMay_39 : decode m_X11_readMay.2.1 39 = .ok (.aload_n 0, 1) := by decide +kernel
theorem d_X11_readMay_40 : decode m_X11_readMay.2.1 40 = .ok (.invokevirtual 212, 3) := by decide +kernel
theorem d_X11_readMay_43 : decode m_X11_readMay.2.1 43 = .ok (.ifCond .ne 5, 3) := by decide +kernel
theorem d_X11_readMay_46 : decode m_X11_readMay.2.1 46 = .ok (.iconst 0, 1) := by decide +kernel
theorem d_X11_readMay_47 : decode m_X11_readMay.2.1 47 = .ok (.ireturn, 1) := by decide +kernel
theorem d_X11_readMay_48 : decode m_X11_readMay.2.1 48 = .ok (.bipush 20, 2) := by decide +kernel
theorem d_X11_readMay_50 : decode m_X11_readMay.2.1 50 = .ok (.iconst 4, 1) := by decide +kernel
theorem d_X11_readMay_51 : decode m_X11_readMay.2.1 51 = .ok (.iload_n 1, 1) := by decide +kernel
theorem d_X11_readMay_52 : decode m_X11_readMay.2.1 52 = .ok (.imul, 1) := by decide +kernel
theorem d_X11_readMay_53 : decode m_X11_readMay.2.1 53 = .ok (.iadd, 1) := by decide +kernel
theorem d_X11_readMay_54 : decode m_X11_readMay.2.1 54 = .ok (.iconst 3, 1) := by decide +kernel
theorem d_X11_readMay_55 : decode m_X11_readMay.2.1 55 = .ok (.iadd, 1) := by decide +kernel
theorem d_X11_readMay_56 : decode m_X11_readMay.2.1 56 = .ok (.istore_n 2, 1) := by decide +kernel
theorem d_X11_readMay_57 : decode m_X11_readMay.2.1 57 = .ok (.aload_n 0, 1) := by decide +kernel
theorem d_X11_readMay_58 : decode m_X11_readMay.2.1 58 = .ok (.getfield 16, 3) := by decide +kernel
theorem d_X11_readMay_61 : decode m_X11_readMay.2.1 61 = .ok (.iload_n 2, 1) := by decide +kernel
theorem d_X11_readMay_62 : decode m_X11_readMay.2.1 62 = .ok (.iaload, 1) := by decide +kernel
theorem d_X11_readMay_63 : decode m_X11_readMay.2.1 63 = .ok (.aload_n 0, 1) := by decide +kernel
theorem d_X11_readMay_64 : decode m_X11_readMay.2.1 64 = .ok (.getfield 181, 3) := by decide +kernel
theorem d_X11_readMay_67 : decode m_X11_readMay.2.1 67 = .ok (.invokestatic 215, 3) := by decide +kernel
theorem d_X11_readMay_70 : decode m_X11_readMay.2.1 70 = .ok (.ifCond .eq 9, 3) := by decide +kernel
theorem d_X11_readMay_73 : decode m_X11_readMay.2.1 73 = .ok (.aload_n 0, 1) := by decide +kernel
theorem d_X11_readMay_74 : decode m_X11_readMay.2.1 74 = .ok (.iconst 3, 1) := by decide +kernel
theorem d_X11_readMay_75 : decode m_X11_readMay.2.1 75 = .ok (.invokevirtual 174, 3) := by decide +kernel
theorem d_X11_readMay_78 : decode m_X11_readMay.2.1 78 = .ok (.ireturn, 1) := by decide +kernel
theorem d_X11_readMay_79 : decode m_X11_readMay.2.1 79 = .ok (.aload_n 0, 1) := by decide +kernel
theorem d_X11_readMay_80 : decode m_X11_readMay.2.1 80 = .ok (.getfield 16, 3) := by decide +kernel
theorem d_X11_readMay_83 : decode m_X11_readMay.2.1 83 = .ok (.iload_n 2, 1) := by decide +kernel
theorem d_X11_readMay_84 : decode m_X11_readMay.2.1 84 = .ok (.dup2, 1) := by decide +kernel
theorem d_X11_readMay_85 : decode m_X11_readMay.2.1 85 = .ok (.iaload, 1) := by decide +kernel
theorem d_X11_readMay_86 : decode m_X11_readMay.2.1 86 = .ok (.iconst 1, 1) := by decide +kernel
theorem d_X11_readMay_87 : decode m_X11_readMay.2.1 87 = .ok (.aload_n 0, 1) := by decide +kernel
theorem d_X11_readMay_88 : decode m_X11_readMay.2.1 88 = .ok (.getfield 181, 3) := by decide +kernel
theorem d_X11_readMay_91 : decode m_X11_readMay.2.1 91 = .ok (.ishl, 1) := by decide +kernel
theorem d_X11_readMay_92 : decode m_X11_readMay.2.1 92 = .ok (.ior, 1) := by decide +kernel
theorem d_X11_readMay_93 : decode m_X11_readMay.2.1 93 = .ok (.iastore, 1) := by decide +kernel
theorem d_X11_readMay_94 : decode m_X11_readMay.2.1 94 = .ok (.aload_n 0, 1) := by decide +kernel
theorem d_X11_readMay_95 : decode m_X11_readMay.2.1 95 = .ok (.getfield 16, 3) := by decide +kernel
theorem d_X11_readMay_98 : decode m_X11_readMay.2.1 98 = .ok (.iconst 2, 1) := by decide +kernel
theorem d_X11_readMay_99 : decode m_X11_readMay.2.1 99 = .ok (.dup2, 1) := by decide +kernel
theorem d_X11_readMay_100 : decode m_X11_readMay.2.1 100 = .ok (.iaload, 1) := by decide +kernel
theorem d_X11_readMay_101 : decode m_X11_readMay.2.1 101 = .ok (.iconst 1, 1) := by decide +kernel
theorem d_X11_readMay_102 : decode m_X11_readMay.2.1 102 = .ok (.iadd, 1) := by decide +kernel
theorem d_X11_readMay_103 : decode m_X11_readMay.2.1 103 = .ok (.iastore, 1) := by decide +kernel
theorem d_X11_readMay_104 : decode m_X11_readMay.2.1 104 = .ok (.aload_n 0, 1) := by decide +kernel
theorem d_X11_readMay_105 : decode m_X11_readMay.2.1 105 = .ok (.invokevirtual 184, 3) := by decide +kernel
theorem d_X11_readMay_108 : decode m_X11_readMay.2.1 108 = .ok (.iconst 1, 1) := by decide +kernel
theorem d_X11_readMay_109 : decode m_X11_readMay.2.1 109 = .ok (.ireturn, 1) := by decide +kernel
set_option maxRecDepth 20000 in
theorem e_X11_readMay {E : jm_E} {d : Nat} {μ : jm_M} {Q : Option jm_V → jm_M → Prop}  (h : (∀ v ∈ ([jm_R 133] : List jm_V), jm_ok v) →
  ((μ 136 2 ≠ 40 →
    jc E m_X11_go d [jm_R 133] μ (fun (o : Option jm_V) (m2 : jm_M) => o = none →
    jc E m_X11_readKindTold d [jm_R 133] m2 (fun (o : Option jm_V) (m3 : jm_M) => ∀ r4 : Int, o = some (jm_I r4) → (r4 = 0 ∨ r4 = 1) →
    ((r4 ≠ 0 →
      jc E m_X11_go d [jm_R 133] m3 (fun (o : Option jm_V) (m7 : jm_M) => o = none →
      jc E m_X11_readKindTold d [jm_R 133] m7 (fun (o : Option jm_V) (m8 : jm_M) => ∀ r9 : Int, o = some (jm_I r9) → (r9 = 0 ∨ r9 = 1) →
      ((r9 ≠ 0 →
        ∀ x12 : Int, x12 = jm_wr ((jm_wr (20 + (jm_wr (4 * (m3 133 13))))) + 3) →
        (0 ≤ x12 ∧ x12 < 60) ∧
        jc E m_X11_has d [jm_I (m8 136 x12), jm_I (m8 133 13)] m8 (fun (o : Option jm_V) (m14 : jm_M) => ∀ r15 : Int, o = some (jm_I r15) → (r15 = 0 ∨ r15 = 1) →
        ((r15 = 0 →
          ∀ m18 : jm_M, m18 = (jm_up m14 136 x12 (jm_or (m14 136 x12) (jm_shl 1 (m14 133 13)))) →
          ∀ m19 : jm_M, m19 = (jm_up m18 136 2 (jm_wr ((m18 136 2) + 1))) →
          jc E m_X11_go d [jm_R 133] m19 (fun (o : Option jm_V) (m20 : jm_M) => o = none →
          Q (some (jm_I 1)) m20)) ∧
         (¬ (r15 = 0) →
          jc E m_X11_bad d [jm_R 133, jm_I 3] m14 (fun (o : Option jm_V) (m21 : jm_M) => ∀ r22 : Int, o = some (jm_I r22) → (r22 = 0 ∨ r22 = 1) →
          Q (some (jm_I r22)) m21))))) ∧
       (¬ (r9 ≠ 0) →
        Q (some (jm_I 0)) m8))))) ∧
     (¬ (r4 ≠ 0) →
      Q (some (jm_I 0)) m3))))) ∧
   (¬ (μ 136 2 ≠ 40) →
    jc E m_X11_bad d [jm_R 133, jm_I 4] μ (fun (o : Option jm_V) (m24 : jm_M) => ∀ r25 : Int, o = some (jm_I r25) → (r25 = 0 ∨ r25 = 1) →
    Q (some (jm_I r25)) m24)))) : jc E m_X11_readMay (d + 1) [jm_R 133] μ Q := by
  refine jm_Cl.of2 (by decide +kernel) (L0 := [some (jm_R 133), none, none]) rfl (Nat.le_of_ble_eq_true rfl) (fun hok => ?_)
  have h := h hok
  refine jm_aloadn d_X11_readMay_0 rfl ?_
  refine jm_getF (k := 15) (ki := 15) rfl cf_X11 (Nat.le_of_ble_eq_true rfl) f_X11_16 d_X11_readMay_1 rfl rfl is_133 fr_133_15 ?_
  refine jm_iconst (v := 2) d_X11_readMay_4 rfl (jm_okI (by decide) (by decide)) ?_
  refine jm_iaload d_X11_readMay_5 (ixl_136 (by decide) (by decide)) ?_
  refine jm_bipush (v := 40) d_X11_readMay_6 rfl (jm_okI (by decide) (by decide)) ?_
  refine jm_icmp_ne (tgt := 17) d_X11_readMay_8 (by decide) (fun c1 => ?_) (fun c1 => ?_)
  · have h := h.1 c1
    refine jm_aloadn d_X11_readMay_17 rfl ?_
    refine jm_invV (n1 := jm_N) (mc := 0) (ms := 0) (av := []) w_X11_go l_X11_184 d_X11_readMay_18 rfl is_133 ⟨_, _, rfl⟩ ⟨Nat.le_refl _, Nat.le_refl _⟩ (Nat.le_of_ble_eq_true rfl) rfl ?_
    refine jm_Cl.mono h (fun o m2 h hr _ => ?_)
    obtain rfl := jm_rokV hr
    have h := h rfl
    refine jm_aloadn d_X11_readMay_21 rfl ?_
    refine jm_invV (n1 := jm_N) (mc := 0) (ms := 0) (av := []) w_X11_readKindTold l_X11_212 d_X11_readMay_22 rfl is_133 ⟨_, _, rfl⟩ ⟨Nat.le_refl _, Nat.le_refl _⟩ (Nat.le_of_ble_eq_true rfl) rfl ?_
    refine jm_Cl.mono h (fun o m3 h hr _ => ?_)
    obtain ⟨r4, rfl, z5⟩ := jm_rokZ hr
    have h := h _ rfl z5
    refine jm_if_ne (tgt := 30) d_X11_readMay_25 (by decide) (fun c6 => ?_) (fun c6 => ?_)
    · have h := h.1 c6
      refine jm_aloadn d_X11_readMay_30 rfl ?_
      refine jm_getI (k := 13) (ki := 13) cf_X11 (Nat.le_of_ble_eq_true rfl) f_X11_181 d_X11_readMay_31 rfl rfl is_133 rfl ?_
      refine jm_istoren (L' := [some (jm_R _), some (jm_I _), none]) d_X11_readMay_34 (Nat.le_of_ble_eq_true rfl) rfl ?_
      refine jm_aloadn d_X11_readMay_35 rfl ?_
      refine jm_invV (n1 := jm_N) (mc := 0) (ms := 0) (av := []) w_X11_go l_X11_184 d_X11_readMay_36 rfl is_133 ⟨_, _, rfl⟩ ⟨Nat.le_refl _, Nat.le_refl _⟩ (Nat.le_of_ble_eq_true rfl) rfl ?_
      refine jm_Cl.mono h (fun o m7 h hr _ => ?_)
      obtain rfl := jm_rokV hr
      have h := h rfl
      refine jm_aloadn d_X11_readMay_39 rfl ?_
      refine jm_invV (n1 := jm_N) (mc := 0) (ms := 0) (av := []) w_X11_readKindTold l_X11_212 d_X11_readMay_40 rfl is_133 ⟨_, _, rfl⟩ ⟨Nat.le_refl _, Nat.le_refl _⟩ (Nat.le_of_ble_eq_true rfl) rfl ?_
      refine jm_Cl.mono h (fun o m8 h hr _ => ?_)
      obtain ⟨r9, rfl, z10⟩ := jm_rokZ hr
      have h := h _ rfl z10
      refine jm_if_ne (tgt := 48) d_X11_readMay_43 (by decide) (fun c11 => ?_) (fun c11 => ?_)
      · have h := h.1 c11
        refine jm_bipush (v := 20) d_X11_readMay_48 rfl (jm_okI (by decide) (by decide)) ?_
        refine jm_iconst (v := 4) d_X11_readMay_50 rfl (jm_okI (by decide) (by decide)) ?_
        refine jm_iloadn d_X11_readMay_51 rfl ?_
        refine jm_imul d_X11_readMay_52 ?_
        refine jm_iadd d_X11_readMay_53 ?_
        refine jm_iconst (v := 3) d_X11_readMay_54 rfl (jm_okI (by decide) (by decide)) ?_
        refine jm_iadd d_X11_readMay_55 ?_
        have h := h _ rfl
        refine jm_istoren (L' := [some (jm_R _), some (jm_I _), some (jm_I _)]) d_X11_readMay_56 (Nat.le_of_ble_eq_true rfl) rfl ?_
        refine jm_aloadn d_X11_readMay_57 rfl ?_
        refine jm_getF (k := 15) (ki := 15) rfl cf_X11 (Nat.le_of_ble_eq_true rfl) f_X11_16 d_X11_readMay_58 rfl rfl is_133 fr_133_15 ?_
        refine jm_iloadn d_X11_readMay_61 rfl ?_
        obtain ⟨f13, h⟩ := h
        refine jm_iaload d_X11_readMay_62 (ixl_136 f13.1 f13.2) ?_
        refine jm_aloadn d_X11_readMay_63 rfl ?_
        refine jm_getI (k := 13) (ki := 13) cf_X11 (Nat.le_of_ble_eq_true rfl) f_X11_181 d_X11_readMay_64 rfl rfl is_133 rfl ?_
        refine jm_invS (n1 := jm_N) (mc := 0) (ms := 0) (av := [jm_I _, jm_I _]) w_X11_has l_X11_215 d_X11_readMay_67 rfl ⟨Nat.le_refl _, Nat.le_refl _⟩ (Nat.le_of_ble_eq_true rfl) rfl ?_
        refine jm_Cl.mono h (fun o m14 h hr _ => ?_)
        obtain ⟨r15, rfl, z16⟩ := jm_rokZ hr
        have h := h _ rfl z16
        refine jm_if_eq (tgt := 79) d_X11_readMay_70 (by decide) (fun c17 => ?_) (fun c17 => ?_)
        · have h := h.1 c17
          refine jm_aloadn d_X11_readMay_79 rfl ?_
          refine jm_getF (k := 15) (ki := 15) rfl cf_X11 (Nat.le_of_ble_eq_true rfl) f_X11_16 d_X11_readMay_80 rfl rfl is_133 fr_133_15 ?_
          refine jm_iloadn d_X11_readMay_83 rfl ?_
          refine jm_dup2 rfl rfl d_X11_readMay_84 ?_
          refine jm_iaload d_X11_readMay_85 (ixl_136 f13.1 f13.2) ?_
          refine jm_iconst (v := 1) d_X11_readMay_86 rfl (jm_okI (by decide) (by decide)) ?_
          refine jm_aloadn d_X11_readMay_87 rfl ?_
          refine jm_getI (k := 13) (ki := 13) cf_X11 (Nat.le_of_ble_eq_true rfl) f_X11_181 d_X11_readMay_88 rfl rfl is_133 rfl ?_
          refine jm_ishl d_X11_readMay_91 ?_
          refine jm_ior d_X11_readMay_92 ?_
          refine jm_iastore d_X11_readMay_93 (ixl_136 f13.1 f13.2) ?_
          have h := h _ rfl
          refine jm_aloadn d_X11_readMay_94 rfl ?_
          refine jm_getF (k := 15) (ki := 15) rfl cf_X11 (Nat.le_of_ble_eq_true rfl) f_X11_16 d_X11_readMay_95 rfl rfl is_133 fr_133_15 ?_
          refine jm_iconst (v := 2) d_X11_readMay_98 rfl (jm_okI (by decide) (by decide)) ?_
          refine jm_dup2 rfl rfl d_X11_readMay_99 ?_
          refine jm_iaload d_X11_readMay_100 (ixl_136 (by decide) (by decide)) ?_
          refine jm_iconst (v := 1) d_X11_readMay_101 rfl (jm_okI (by decide) (by decide)) ?_
          refine jm_iadd d_X11_readMay_102 ?_
          refine jm_iastore d_X11_readMay_103 (ixl_136 (by decide) (by decide)) ?_
          have h := h _ rfl
          refine jm_aloadn d_X11_readMay_104 rfl ?_
          refine jm_invV (n1 := jm_N) (mc := 0) (ms := 0) (av := []) w_X11_go l_X11_184 d_X11_readMay_105 rfl is_133 ⟨_, _, rfl⟩ ⟨Nat.le_refl _, Nat.le_refl _⟩ (Nat.le_of_ble_eq_true rfl) rfl ?_
          refine jm_Cl.mono h (fun o m20 h hr _ => ?_)
          obtain rfl := jm_rokV hr
          have h := h rfl
          refine jm_iconst (v := 1) d_X11_readMay_108 rfl (jm_okI (by decide) (by decide)) ?_
          exact jm_ret (o := some (jm_I _)) d_X11_readMay_109 rfl ⟨Nat.le_refl _, Nat.le_refl _⟩ (jm_r_Z (by decide)) h rfl
        · have h := h.2 c17
          refine jm_aloadn d_X11_readMay_73 rfl ?_
          refine jm_iconst (v := 3) d_X11_readMay_74 rfl (jm_okI (by decide) (by decide)) ?_
          refine jm_invV (n1 := jm_N) (mc := 0) (ms := 0) (av := [jm_I _]) w_X11_bad l_X11_174 d_X11_readMay_75 rfl is_133 ⟨_, _, rfl⟩ ⟨Nat.le_refl _, Nat.le_refl _⟩ (Nat.le_of_ble_eq_true rfl) rfl ?_
          refine jm_Cl.mono h (fun o m21 h hr _ => ?_)
          obtain ⟨r22, rfl, z23⟩ := jm_rokZ hr
          have h := h _ rfl z23
          exact jm_ret (o := some (jm_I _)) d_X11_readMay_78 rfl ⟨Nat.le_refl _, Nat.le_refl _⟩ (jm_r_Z z23) h rfl
      · have h := h.2 c11
        refine jm_iconst (v := 0) d_X11_readMay_46 rfl (jm_okI (by decide) (by decide)) ?_
        exact jm_ret (o := some (jm_I _)) d_X11_readMay_47 rfl ⟨Nat.le_refl _, Nat.le_refl _⟩ (jm_r_Z (by decide)) h rfl
    · have h := h.2 c6
      refine jm_iconst (v := 0) d_X11_readMay_28 rfl (jm_okI (by decide) (by decide)) ?_
      exact jm_ret (o := some (jm_I _)) d_X11_readMay_29 rfl ⟨Nat.le_refl _, Nat.le_refl _⟩ (jm_r_Z (by decide)) h rfl
  · have h := h.2 c1
    refine jm_aloadn d_X11_readMay_11 rfl ?_
    refine jm_iconst (v := 4) d_X11_readMay_12 rfl (jm_okI (by decide) (by decide)) ?_
    refine jm_invV (n1 := jm_N) (mc := 0) (ms := 0) (av := [jm_I _]) w_X11_bad l_X11_174 d_X11_readMay_13 rfl is_133 ⟨_, _, rfl⟩ ⟨Nat.le_refl _, Nat.le_refl _⟩ (Nat.le_of_ble_eq_true rfl) rfl ?_
    refine jm_Cl.mono h (fun o m24 h hr _ => ?_)
    obtain ⟨r25, rfl, z26⟩ := jm_rokZ hr
    have h := h _ rfl z26
    exact jm_ret (o := some (jm_I _)) d_X11_readMay_16 rfl ⟨Nat.le_refl _, Nat.le_refl _⟩ (jm_r_Z z26) h rfl
/-! ('CombTableModel', 'readComb', '()Z') -/
theorem d_X11_readComb_0 : decode m_X11_readComb.2.1 0 = .ok (.aload_n 0, 1) := by decide +kernel
theorem d_X11_readComb_1 : decode m_X11_readComb.2.1 1 = .ok (.getfield 16, 3) := by decide +kernel
theorem d_X11_readComb_4 : decode m_X11_readComb.2.1 4 = .ok (.iconst 3, 1) := by decide +kernel
theorem d_X11_readComb_5 : decode m_X11_readComb.2.1 5 = .ok (.iaload, 1) := by decide +kernel
theorem d_X11_readComb_6 : decode m_X11_readComb.2.1 6 = .ok (.ifCond .le 9, 3) := by decide +kernel
theorem d_X11_readComb_9 : decode m_X11_readComb.2.1 9 = .ok (.aload_n 0, 1) := by decide +kernel
theorem d_X11_readComb_10 : decode m_X11_readComb.2.1 10 = .ok (.iconst 3, 1) := by decide +kernel
theorem d_X11_readComb_11 : decode m_X11_readComb.2.1 11 = .ok (.invokevirtual 174, 3) := by decide +kernel
theorem d_X11_readComb_14 : decode m_X11_readComb.2.1 14 = .ok (.ireturn, 1) := by decide +kernel
theorem d_X11_readComb_15 : decode m_X11_readComb.2.1 15 = .ok (.aload_n 0, 1) := by decide +kernel
theorem d_X11_readComb_16 : decode m_X11_readComb.2.1 16 = .ok (.invokevirtual 184, 3) := by decide +kernel
theorem d_X11_readComb_19 : decode m_X11_readComb.2.1 19 = .ok (.aload_n 0, 1) := by decide +kernel
theorem d_X11_readComb_20 : decode m_X11_readComb.2.1 20 = .ok (.getfield 16, 3) := by decide +kernel
theorem d_X11_readComb_23 : decode m_X11_readComb.2.1 23 = .ok (.iconst 3, 1) := by decide +kernel
theorem d_X11_readComb_24 : decode m_X11_readComb.2.1 24 = .ok (.iaload, 1) := by decide +kernel
theorem d_X11_readComb_25 : decode m_X11_readComb.2.1 25 = .ok (.ifCond .eq 11, 3) := by decide +kernel
theorem d_X11_readComb_28 : decode m_X11_readComb.2.1 28 = .ok (.aload_n 0, 1) := by decide +kernel
theorem d_X11_readComb_29 : decode m_X11_readComb.2.1 29 = .ok (.getfield 128, 3) := by decide +kernel
theorem d_X11_readComb_32 : decode m_X11_readComb.2.1 32 = .ok (.iconst 3, 1) := by decide +kernel
theorem d_X11_readComb_33 : decode m_X11_readComb.2.1 33 = .ok (.if_icmp .ne 65, 3) := by decide +kernel
theorem d_X11_readComb_36 : decode m_X11_readComb.2.1 36 = .ok (.aload_n 0, 1) := by decide +kernel
theorem d_X11_readComb_37 : decode m_X11_readComb.2.1 37 = .ok (.getfield 16, 3) := by decide +kernel
theorem d_X11_readComb_40 : decode m_X11_readComb.2.1 40 = .ok (.iconst 3, 1) := by decide +kernel
theorem d_X11_readComb_41 : decode m_X11_readComb.2.1 41 = .ok (.iaload, 1) := by decide +kernel
theorem d_X11_readComb_42 : decode m_X11_readComb.2.1 42 = .ok (.bipush 6, 2) := by decide +kernel
theorem d_X11_readComb_44 : decode m_X11_readComb.2.1 44 = .ok (.if_icmp .ne 9, 3) := by decide +kernel
theorem d_X11_readComb_47 : decode m_X11_readComb.2.1 47 = .ok (.aload_n 0, 1) := by decide +kernel
theorem d_X11_readComb_48 : decode m_X11_readComb.2.1 48 = .ok (.iconst 4, 1) := by decide +kernel
theorem d_X11_readComb_49 : decode m_X11_readComb.2.1 49 = .ok (.invokevirtual 174, 3) := by decide +kernel
theorem d_X11_readComb_52 : decode m_X11_readComb.2.1 52 = .ok (.ireturn, 1) := by decide +kernel
theorem d_X11_readComb_53 : decode m_X11_readComb.2.1 53 = .ok (.bipush 6, 2) := by decide +kernel
theorem d_X11_readComb_55 : decode m_X11_readComb.2.1 55 = .ok (.aload_n 0, 1) := by decide +kernel
theorem d_X11_readComb_56 : decode m_X11_readComb.2.1 56 = .ok (.getfield 16, 3) := by decide +kernel
theorem d_X11_readComb_59 : decode m_X11_readComb.2.1 59 = .ok (.iconst 3, 1) := by decide +kernel
theorem d_X11_readComb_60 : decode m_X11_readComb.2.1 60 = .ok (.iaload, 1) := by decide +kernel
theorem d_X11_readComb_61 : decode m_X11_readComb.2.1 61 = .ok (.iadd, 1) := by decide +kernel
theorem d_X11_readComb_62 : decode m_X11_readComb.2.1 62 = .ok (.istore_n 1, 1) := by decide +kernel
theorem d_X11_readComb_63 : decode m_X11_readComb.2.1 63 = .ok (.aload_n 0, 1) := by decide +kernel
theorem d_X11_readComb_64 : decode m_X11_readComb.2.1 64 = .ok (.iconst 1, 1) := by decide +kernel
theorem d_X11_readComb_65 : decode m_X11_readComb.2.1 65 = .ok (.bipush 6, 2) := by decide +kernel
theorem d_X11_readComb_67 : decode m_X11_readComb.2.1 67 = .ok (.invokevirtual 205, 3) := by decide +kernel
theorem d_X11_readComb_70 : decode m_X11_readComb.2.1 70 = .ok (.ifCond .ne 5, 3) := by decide +kernel
theorem d_X11_readComb_73 : decode m_X11_readComb.2.1 73 = .ok (.iconst 0, 1) := by decide +kernel
theorem d_X11_readComb_74 : decode m_X11_readComb.2.1 74 = .ok (.ireturn, 1) := by decide +kernel
theorem d_X11_readComb_75 : decode m_X11_readComb.2.1 75 = .ok (.aload_n 0, 1) := by decide +kernel
theorem d_X11_readComb_76 : decode m_X11_readComb.2.1 76 = .ok (.getfield 16, 3) := by decide +kernel
theorem d_X11_readComb_79 : decode m_X11_readComb.2.1 79 = .ok (.iload_n 1, 1) := by decide +kernel
theorem d_X11_readComb_80 : decode m_X11_readComb.2.1 80 = .ok (.aload_n 0, 1) := by decide +kernel
theorem d_X11_readComb_81 : decode m_X11_readComb.2.1 81 = .ok (.getfield 181, 3) := by decide +kernel
theorem d_X11_readComb_84 : decode m_X11_readComb.2.1 84 = .ok (.iastore, 1) := by decide +kernel
theorem d_X11_readComb_85 : decode m_X11_readComb.2.1 85 = .ok (.aload_n 0, 1) := by decide +kernel
theorem d_X11_readComb_86 : decode m_X11_readComb.2.1 86 = .ok (.getfield 16, 3) := by decide +kernel
theorem d_X11_readComb_89 : decode m_X11_readComb.2.1 89 = .ok (.iconst 3, 1) := by decide +kernel
theorem d_X11_readComb_90 : decode m_X11_readComb.2.1 90 = .ok (.dup2, 1) := by decide +kernel
theorem d_X11_readComb_91 : decode m_X11_readComb.2.1 91 = .ok (.iaload, 1) := by decide +kernel
theorem d_X11_readComb_92 : decode m_X11_readComb.2.1 92 = .ok (.iconst 1, 1) := by decide +kernel
theorem d_X11_readComb_93 : decode m_X11_readComb.2.1 93 = .ok (.iadd, 1) := by decide +kernel
theorem d_X11_readComb_94 : decode m_X11_readComb.2.1 94 = .ok (.iastore, 1) := by decide +kernel
theorem d_X11_readComb_95 : decode m_X11_readComb.2.1 95 = .ok (.goto (-76), 3) := by decide +kernel
theorem d_X11_readComb_98 : decode m_X11_readComb.2.1 98 = .ok (.iconst 1, 1) := by decide +kernel
theorem d_X11_readComb_99 : decode m_X11_readComb.2.1 99 = .ok (.ireturn, 1) := by decide +kernel
set_option maxRecDepth 20000 in
theorem e_X11_readComb {E : jm_E} {d : Nat} {μ : jm_M} {Q : Option jm_V → jm_M → Prop}  (h : (∀ v ∈ ([jm_R 133] : List jm_V), jm_ok v) →
  ((μ 136 3 ≤ 0 →
    jc E m_X11_go d [jm_R 133] μ (fun (o : Option jm_V) (m2 : jm_M) => o = none →
    jg E m_X11_readComb d 19 [some (jm_R 133), none] [] m2 Q)) ∧
   (¬ (μ 136 3 ≤ 0) →
    jc E m_X11_bad d [jm_R 133, jm_I 3] μ (fun (o : Option jm_V) (m3 : jm_M) => ∀ r4 : Int, o = some (jm_I r4) → (r4 = 0 ∨ r4 = 1) →
    Q (some (jm_I r4)) m3)))) : jc E m_X11_readComb (d + 1) [jm_R 133] μ Q := by
  refine jm_Cl.of2 (by decide +kernel) (L0 := [some (jm_R 133), none]) rfl (Nat.le_of_ble_eq_true rfl) (fun hok => ?_)
  have h := h hok
  refine jm_aloadn d_X11_readComb_0 rfl ?_
  refine jm_getF (k := 15) (ki := 15) rfl cf_X11 (Nat.le_of_ble_eq_true rfl) f_X11_16 d_X11_readComb_1 rfl rfl is_133 fr_133_15 ?_
  refine jm_iconst (v := 3) d_X11_readComb_4 rfl (jm_okI (by decide) (by decide)) ?_
  refine jm_iaload d_X11_readComb_5 (ixl_136 (by decide) (by decide)) ?_
  refine jm_if_le (tgt := 15) d_X11_readComb_6 (by decide) (fun c1 => ?_) (fun c1 => ?_)
  · have h := h.1 c1
    refine jm_aloadn d_X11_readComb_15 rfl ?_
    refine jm_invV (n1 := jm_N) (mc := 0) (ms := 0) (av := []) w_X11_go l_X11_184 d_X11_readComb_16 rfl is_133 ⟨_, _, rfl⟩ ⟨Nat.le_refl _, Nat.le_refl _⟩ (Nat.le_of_ble_eq_true rfl) rfl ?_
    refine jm_Cl.mono h (fun o m2 h hr _ => ?_)
    obtain rfl := jm_rokV hr
    have h := h rfl
    exact h
  · have h := h.2 c1
    refine jm_aloadn d_X11_readComb_9 rfl ?_
    refine jm_iconst (v := 3) d_X11_readComb_10 rfl (jm_okI (by decide) (by decide)) ?_
    refine jm_invV (n1 := jm_N) (mc := 0) (ms := 0) (av := [jm_I _]) w_X11_bad l_X11_174 d_X11_readComb_11 rfl is_133 ⟨_, _, rfl⟩ ⟨Nat.le_refl _, Nat.le_refl _⟩ (Nat.le_of_ble_eq_true rfl) rfl ?_
    refine jm_Cl.mono h (fun o m3 h hr _ => ?_)
    obtain ⟨r4, rfl, z5⟩ := jm_rokZ hr
    have h := h _ rfl z5
    exact jm_ret (o := some (jm_I _)) d_X11_readComb_14 rfl ⟨Nat.le_refl _, Nat.le_refl _⟩ (jm_r_Z z5) h rfl
set_option maxRecDepth 20000 in
theorem r_X11_readComb_19 {E : jm_E} {d : Nat} {μ : jm_M} {Q : Option jm_V → jm_M → Prop}  (h :
  ((μ 136 3 = 0 →
    jg E m_X11_readComb d 36 [some (jm_R 133), none] [] μ Q) ∧
   (¬ (μ 136 3 = 0) →
    ((μ 133 7 ≠ 3 →
      Q (some (jm_I 1)) μ) ∧
     (¬ (μ 133 7 ≠ 3) →
      jg E m_X11_readComb d 36 [some (jm_R 133), none] [] μ Q))))) : jg E m_X11_readComb d 19 [some (jm_R 133), none] [] μ Q := by
  refine jm_aloadn d_X11_readComb_19 rfl ?_
  refine jm_getF (k := 15) (ki := 15) rfl cf_X11 (Nat.le_of_ble_eq_true rfl) f_X11_16 d_X11_readComb_20 rfl rfl is_133 fr_133_15 ?_
  refine jm_iconst (v := 3) d_X11_readComb_23 rfl (jm_okI (by decide) (by decide)) ?_
  refine jm_iaload d_X11_readComb_24 (ixl_136 (by decide) (by decide)) ?_
  refine jm_if_eq (tgt := 36) d_X11_readComb_25 (by decide) (fun c1 => ?_) (fun c1 => ?_)
  · have h := h.1 c1
    exact h
  · have h := h.2 c1
    refine jm_aloadn d_X11_readComb_28 rfl ?_
    refine jm_getI (k := 7) (ki := 7) cf_X11 (Nat.le_of_ble_eq_true rfl) f_X11_128 d_X11_readComb_29 rfl rfl is_133 rfl ?_
    refine jm_iconst (v := 3) d_X11_readComb_32 rfl (jm_okI (by decide) (by decide)) ?_
    refine jm_icmp_ne (tgt := 98) d_X11_readComb_33 (by decide) (fun c2 => ?_) (fun c2 => ?_)
    · have h := h.1 c2
      refine jm_iconst (v := 1) d_X11_readComb_98 rfl (jm_okI (by decide) (by decide)) ?_
      exact jm_ret (o := some (jm_I _)) d_X11_readComb_99 rfl ⟨Nat.le_refl _, Nat.le_refl _⟩ (jm_r_Z (by decide)) h rfl
    · have h := h.2 c2
      exact h
set_option maxRecDepth 20000 in
theorem r_X11_readComb_36 {E : jm_E} {d : Nat} {μ : jm_M} {Q : Option jm_V → jm_M → Prop}  (h :
  ((μ 136 3 ≠ 6 →
    ∀ x2 : Int, x2 = jm_wr (6 + (μ 136 3)) →
    jc E m_X11_readNumber d [jm_R 133, jm_I 1, jm_I 6] μ (fun (o : Option jm_V) (m3 : jm_M) => ∀ r4 : Int, o = some (jm_I r4) → (r4 = 0 ∨ r4 = 1) →
    ((r4 ≠ 0 →
      (0 ≤ x2 ∧ x2 < 60) ∧
      ∀ m8 : jm_M, m8 = (jm_up m3 136 x2 (m3 133 13)) →
      ∀ m9 : jm_M, m9 = (jm_up m8 136 3 (jm_wr ((m8 136 3) + 1))) →
      jg E m_X11_readComb d 19 [some (jm_R 133), none] [] m9 Q) ∧
     (¬ (r4 ≠ 0) →
      Q (some (jm_I 0)) m3)))) ∧
   (¬ (μ 136 3 ≠ 6) →
    jc E m_X11_bad d [jm_R 133, jm_I 4] μ (fun (o : Option jm_V) (m10 : jm_M) => ∀ r11 : Int, o = some (jm_I r11) → (r11 = 0 ∨ r11 = 1) →
    Q (some (jm_I r11)) m10)))) : jg E m_X11_readComb d 36 [some (jm_R 133), none] [] μ Q := by
  refine jm_aloadn d_X11_readComb_36 rfl ?_
  refine jm_getF (k := 15) (ki := 15) rfl cf_X11 (Nat.le_of_ble_eq_true rfl) f_X11_16 d_X11_readComb_37 rfl rfl is_133 fr_133_15 ?_
  refine jm_iconst (v := 3) d_X11_readComb_40 rfl (jm_okI (by decide) (by decide)) ?_
  refine jm_iaload d_X11_readComb_41 (ixl_136 (by decide) (by decide)) ?_
  refine jm_bipush (v := 6) d_X11_readComb_42 rfl (jm_okI (by decide) (by decide)) ?_
  refine jm_icmp_ne (tgt := 53) d_X11_readComb_44 (by decide) (fun c1 => ?_) (fun c1 => ?_)
  · have h := h.1 c1
    refine jm_bipush (v := 6) d_X11_readComb_53 rfl (jm_okI (by decide) (by decide)) ?_
    refine jm_aloadn d_X11_readComb_55 rfl ?_
    refine jm_getF (k := 15) (ki := 15) rfl cf_X11 (Nat.le_of_ble_eq_true rfl) f_X11_16 d_X11_readComb_56 rfl rfl is_133 fr_133_15 ?_
    refine jm_iconst (v := 3) d_X11_readComb_59 rfl (jm_okI (by decide) (by decide)) ?_
    refine jm_iaload d_X11_readComb_60 (ixl_136 (by decide) (by decide)) ?_
    refine jm_iadd d_X11_readComb_61 ?_
    have h := h _ rfl
    refine jm_istoren (L' := [some (jm_R _), some (jm_I _)]) d_X11_readComb_62 (Nat.le_of_ble_eq_true rfl) rfl ?_
    refine jm_aloadn d_X11_readComb_63 rfl ?_
    refine jm_iconst (v := 1) d_X11_readComb_64 rfl (jm_okI (by decide) (by decide)) ?_
    refine jm_bipush (v := 6) d_X11_readComb_65 rfl (jm_okI (by decide) (by decide)) ?_
    refine jm_invV (n1 := jm_N) (mc := 0) (ms := 0) (av := [jm_I _, jm_I _]) w_X11_readNumber l_X11_205 d_X11_readComb_67 rfl is_133 ⟨_, _, rfl⟩ ⟨Nat.le_refl _, Nat.le_refl _⟩ (Nat.le_of_ble_eq_true rfl) rfl ?_
    refine jm_Cl.mono h (fun o m3 h hr _ => ?_)
    obtain ⟨r4, rfl, z5⟩ := jm_rokZ hr
    have h := h _ rfl z5
    refine jm_if_ne (tgt := 75) d_X11_readComb_70 (by decide) (fun c6 => ?_) (fun c6 => ?_)
    · have h := h.1 c6
      refine jm_aloadn d_X11_readComb_75 rfl ?_
      refine jm_getF (k := 15) (ki := 15) rfl cf_X11 (Nat.le_of_ble_eq_true rfl) f_X11_16 d_X11_readComb_76 rfl rfl is_133 fr_133_15 ?_
      refine jm_iloadn d_X11_readComb_79 rfl ?_
      refine jm_aloadn d_X11_readComb_80 rfl ?_
      refine jm_getI (k := 13) (ki := 13) cf_X11 (Nat.le_of_ble_eq_true rfl) f_X11_181 d_X11_readComb_81 rfl rfl is_133 rfl ?_
      obtain ⟨f7, h⟩ := h
      refine jm_iastore d_X11_readComb_84 (ixl_136 f7.1 f7.2) ?_
      have h := h _ rfl
      refine jm_aloadn d_X11_readComb_85 rfl ?_
      refine jm_getF (k := 15) (ki := 15) rfl cf_X11 (Nat.le_of_ble_eq_true rfl) f_X11_16 d_X11_readComb_86 rfl rfl is_133 fr_133_15 ?_
      refine jm_iconst (v := 3) d_X11_readComb_89 rfl (jm_okI (by decide) (by decide)) ?_
      refine jm_dup2 rfl rfl d_X11_readComb_90 ?_
      refine jm_iaload d_X11_readComb_91 (ixl_136 (by decide) (by decide)) ?_
      refine jm_iconst (v := 1) d_X11_readComb_92 rfl (jm_okI (by decide) (by decide)) ?_
      refine jm_iadd d_X11_readComb_93 ?_
      refine jm_iastore d_X11_readComb_94 (ixl_136 (by decide) (by decide)) ?_
      have h := h _ rfl
      refine jm_goto (tgt := 19) d_X11_readComb_95 (by decide) ?_
      exact jm_weak2 h (And.intro rfl trivial)
    · have h := h.2 c6
      refine jm_iconst (v := 0) d_X11_readComb_73 rfl (jm_okI (by decide) (by decide)) ?_
      exact jm_ret (o := some (jm_I _)) d_X11_readComb_74 rfl ⟨Nat.le_refl _, Nat.le_refl _⟩ (jm_r_Z (by decide)) h rfl
  · have h := h.2 c1
    refine jm_aloadn d_X11_readComb_47 rfl ?_
    refine jm_iconst (v := 4) d_X11_readComb_48 rfl (jm_okI (by decide) (by decide)) ?_
    refine jm_invV (n1 := jm_N) (mc := 0) (ms := 0) (av := [jm_I _]) w_X11_bad l_X11_174 d_X11_readComb_49 rfl is_133 ⟨_, _, rfl⟩ ⟨Nat.le_refl _, Nat.le_refl _⟩ (Nat.le_of_ble_eq_true rfl) rfl ?_
    refine jm_Cl.mono h (fun o m10 h hr _ => ?_)
    obtain ⟨r11, rfl, z12⟩ := jm_rokZ hr
    have h := h _ rfl z12
    exact jm_ret (o := some (jm_I _)) d_X11_readComb_52 rfl ⟨Nat.le_refl _, Nat.le_refl _⟩ (jm_r_Z z12) h rfl
/-! ('CombTableModel', 'readOnce', '(I)Z') -/
theorem d_X11_readOnce_0 : decode m_X11_readOnce.2.1 0 = .ok (.aload_n 0, 1) := by decide +kernel
theorem d_X11_readOnce_1 : decode m_X11_readOnce.2.1 1 = .ok (.getfield 16, 3) := by decide +kernel
theorem d_X11_readOnce_4 : decode m_X11_readOnce.2.1 4 = .ok (.iload_n 1, 1) := by decide +kernel
theorem d_X11_readOnce_5 : decode m_X11_readOnce.2.1 5 = .ok (.iaload, 1) := by decide +kernel
theorem d_X11_readOnce_6 : decode m_X11_readOnce.2.1 6 = .ok (.ifCond .le 9, 3) := by decide +kernel
theorem d_X11_readOnce_9 : decode m_X11_readOnce.2.1 9 = .ok (.aload_n 0, 1) := by decide +kernel
theorem d_X11_readOnce_10 : decode m_X11_readOnce.2.1 10 = .ok (.iconst 3, 1) := by decide +kernel
theorem d_X11_readOnce_11 : decode m_X11_readOnce.2.1 11 = .ok (.invokevirtual 174, 3) := by decide +kernel
theorem d_X11_readOnce_14 : decode m_X11_readOnce.2.1 14 = .ok (.ireturn, 1) := by decide +kernel
theorem d_X11_readOnce_15 : decode m_X11_readOnce.2.1 15 = .ok (.aload_n 0, 1) := by decide +kernel
theorem d_X11_readOnce_16 : decode m_X11_readOnce.2.1 16 = .ok (.getfield 16, 3) := by decide +kernel
theorem d_X11_readOnce_19 : decode m_X11_readOnce.2.1 19 = .ok (.iload_n 1, 1) := by decide +kernel
theorem d_X11_readOnce_20 : decode m_X11_readOnce.2.1 20 = .ok (.iconst 1, 1) := by decide +kernel
theorem d_X11_readOnce_21 : decode m_X11_readOnce.2.1 21 = .ok (.iastore, 1) := by decide +kernel
theorem d_X11_readOnce_22 : decode m_X11_readOnce.2.1 22 = .ok (.aload_n 0, 1) := by decide +kernel
theorem d_X11_readOnce_23 : decode m_X11_readOnce.2.1 23 = .ok (.invokevirtual 184, 3) := by decide +kernel
theorem d_X11_readOnce_26 : decode m_X11_readOnce.2.1 26 = .ok (.iconst 1, 1) := by decide +kernel
theorem d_X11_readOnce_27 : decode m_X11_readOnce.2.1 27 = .ok (.ireturn, 1) := by decide +kernel
set_option maxRecDepth 20000 in
theorem e_X11_readOnce {E : jm_E} {d : Nat} {μ : jm_M} {Q : Option jm_V → jm_M → Prop} {v1 : Int} (h : (∀ v ∈ ([jm_R 133, jm_I v1] : List jm_V), jm_ok v) →
  (0 ≤ v1 ∧ v1 < 60) ∧
  ((μ 136 v1 ≤ 0 →
    ∀ m3 : jm_M, m3 = (jm_up μ 136 v1 1) →
    jc E m_X11_go d [jm_R 133] m3 (fun (o : Option jm_V) (m4 : jm_M) => o = none →
    Q (some (jm_I 1)) m4)) ∧
   (¬ (μ 136 v1 ≤ 0) →
    jc E m_X11_bad d [jm_R 133, jm_I 3] μ (fun (o : Option jm_V) (m5 : jm_M) => ∀ r6 : Int, o = some (jm_I r6) → (r6 = 0 ∨ r6 = 1) →
    Q (some (jm_I r6)) m5)))) : jc E m_X11_readOnce (d + 1) [jm_R 133, jm_I v1] μ Q := by
  refine jm_Cl.of2 (by decide +kernel) (L0 := [some (jm_R 133), some (jm_I v1)]) rfl (Nat.le_of_ble_eq_true rfl) (fun hok => ?_)
  have h := h hok
  refine jm_aloadn d_X11_readOnce_0 rfl ?_
  refine jm_getF (k := 15) (ki := 15) rfl cf_X11 (Nat.le_of_ble_eq_true rfl) f_X11_16 d_X11_readOnce_1 rfl rfl is_133 fr_133_15 ?_
  refine jm_iloadn d_X11_readOnce_4 rfl ?_
  obtain ⟨f1, h⟩ := h
  refine jm_iaload d_X11_readOnce_5 (ixl_136 f1.1 f1.2) ?_
  refine jm_if_le (tgt := 15) d_X11_readOnce_6 (by decide) (fun c2 => ?_) (fun c2 => ?_)
  · have h := h.1 c2
    refine jm_aloadn d_X11_readOnce_15 rfl ?_
    refine jm_getF (k := 15) (ki := 15) rfl cf_X11 (Nat.le_of_ble_eq_true rfl) f_X11_16 d_X11_readOnce_16 rfl rfl is_133 fr_133_15 ?_
    refine jm_iloadn d_X11_readOnce_19 rfl ?_
    refine jm_iconst (v := 1) d_X11_readOnce_20 rfl (jm_okI (by decide) (by decide)) ?_
    refine jm_iastore d_X11_readOnce_21 (ixl_136 f1.1 f1.2) ?_
    have h := h _ rfl
    refine jm_aloadn d_X11_readOnce_22 rfl ?_
    refine jm_invV (n1 := jm_N) (mc := 0) (ms := 0) (av := []) w_X11_go l_X11_184 d_X11_readOnce_23 rfl is_133 ⟨_, _, rfl⟩ ⟨Nat.le_refl _, Nat.le_refl _⟩ (Nat.le_of_ble_eq_true rfl) rfl ?_
    refine jm_Cl.mono h (fun o m4 h hr _ => ?_)
    obtain rfl := jm_rokV hr
    have h := h rfl
    refine jm_iconst (v := 1) d_X11_readOnce_26 rfl (jm_okI (by decide) (by decide)) ?_
    exact jm_ret (o := some (jm_I _)) d_X11_readOnce_27 rfl ⟨Nat.le_refl _, Nat.le_refl _⟩ (jm_r_Z (by decide)) h rfl
  · have h := h.2 c2
    refine jm_aloadn d_X11_readOnce_9 rfl ?_
    refine jm_iconst (v := 3) d_X11_readOnce_10 rfl (jm_okI (by decide) (by decide)) ?_
    refine jm_invV (n1 := jm_N) (mc := 0) (ms := 0) (av := [jm_I _]) w_X11_bad l_X11_174 d_X11_readOnce_11 rfl is_133 ⟨_, _, rfl⟩ ⟨Nat.le_refl _, Nat.le_refl _⟩ (Nat.le_of_ble_eq_true rfl) rfl ?_
    refine jm_Cl.mono h (fun o m5 h hr _ => ?_)
    obtain ⟨r6, rfl, z7⟩ := jm_rokZ hr
    have h := h _ rfl z7
    exact jm_ret (o := some (jm_I _)) d_X11_readOnce_14 rfl ⟨Nat.le_refl _, Nat.le_refl _⟩ (jm_r_Z z7) h rfl
/-! ('CombTableModel', 'readLine', '()Z') -/
theorem d_X11_readLine_0 : decode m_X11_readLine.2.1 0 = .ok (.aload_n 0, 1) := by decide +kernel
theorem d_X11_readLine_1 : decode m_X11_readLine.2.1 1 = .ok (.iconst 0, 1) := by decide +kernel
theorem d_X11_readLine_2 : decode m_X11_readLine.2.1 2 = .ok (.invokevirtual 209, 3) := by decide +kernel
theorem d_X11_readLine_5 : decode m_X11_readLine.2.1 5 = .ok (.ifCond .eq 11, 3) := by decide +kernel
theorem d_X11_readLine_8 : decode m_X11_readLine.2.1 8 = .ok (.aload_n 0, 1) := by decide +kernel
theorem d_X11_readLine_9 : decode m_X11_readLine.2.1 9 = .ok (.invokevirtual 218, 3) := by decide +kernel
theorem d_X11_readLine_12 : decode m_X11_readLine.2.1 12 = .ok (.istore_n 1, 1) := by decide +kernel
theorem d_X11_readLine_13 : decode m_X11_readLine.2.1 13 = .ok (.goto 90, 3) := by decide +kernel
theorem d_X11_readLine_16 : decode m_X11_readLine.2.1 16 = .ok (.aload_n 0, 1) := by decide +kernel
theorem d_X11_readLine_17 : decode m_X11_readLine.2.1 17 = .ok (.iconst 1, 1) := by decide +kernel
theorem d_X11_readLine_18 : decode m_X11_readLine.2.1 18 = .ok (.invokevirtual 209, 3) := by decide +kernel
theorem d_X11_readLine_21 : decode m_X11_readLine.2.1 21 = .ok (.ifCond .eq 11, 3) := by decide +kernel
theorem d_X11_readLine_24 : decode m_X11_readLine.2.1 24 = .ok (.aload_n 0, 1) := by decide +kernel
theorem d_X11_readLine_25 : decode m_X11_readLine.2.1 25 = .ok (.invokevirtual 221, 3) := by decide +kernel
theorem d_X11_readLine_28 : decode m_X11_readLine.2.1 28 = .ok (.istore_n 1, 1) := by decide +kernel
theorem d_X11_readLine_29 : decode m_X11_readLine.2.1 29 = .ok (.goto 74, 3) := by decide +kernel
theorem d_X11_readLine_32 : decode m_X11_readLine.2.1 32 = .ok (.aload_n 0, 1) := by decide +kernel
theorem d_X11_readLine_33 : decode m_X11_readLine.2.1 33 = .ok (.iconst 2, 1) := by decide +kernel
theorem d_X11_readLine_34 : decode m_X11_readLine.2.1 34 = .ok (.invokevirtual 209, 3) := by decide +kernel
theorem d_X11_readLine_37 : decode m_X11_readLine.2.1 37 = .ok (.ifCond .eq 11, 3) := by decide +kernel
theorem d_X11_readLine_40 : decode m_X11_readLine.2.1 40 = .ok (.aload_n 0, 1) := by decide +kernel
theorem d_X11_readLine_41 : decode m_X11_readLine.2.1 41 = .ok (.invokevirtual 224, 3) := by decide +kernel
theorem d_X11_readLine_44 : decode m_X11_readLine.2.1 44 = .ok (.istore_n 1, 1) := by decide +kernel
theorem d_X11_readLine_45 : decode m_X11_readLine.2.1 45 = .ok (.goto 58, 3) := by decide +kernel
theorem d_X11_readLine_48 : decode m_X11_readLine.2.1 48 = .ok (.aload_n 0, 1) := by decide +kernel
theorem d_X11_readLine_49 : decode m_X11_readLine.2.1 49 = .ok (.iconst 3, 1) := by decide +kernel
theorem d_X11_readLine_50 : decode m_X11_readLine.2.1 50 = .ok (.invokevirtual 209, 3) := by decide +kernel
theorem d_X11_readLine_53 : decode m_X11_readLine.2.1 53 = .ok (.ifCond .eq 11, 3) := by decide +kernel
theorem d_X11_readLine_56 : decode m_X11_readLine.2.1 56 = .ok (.aload_n 0, 1) := by decide +kernel
theorem d_X11_readLine_57 : decode m_X11_readLine.2.1 57 = .ok (.invokevirtual 227, 3) := by decide +kernel
theorem d_X11_readLine_60 : decode m_X11_readLine.2.1 60 = .ok (.istore_n 1, 1) := by decide +kernel
theorem d_X11_readLine_61 : decode m_X11_readLine.2.1 61 = .ok (.goto 42, 3) := by decide +kernel
theorem d_X11_readLine_64 : decode m_X11_readLine.2.1 64 = .ok (.aload_n 0, 1) := by decide +kernel
theorem d_X11_readLine_65 : decode m_X11_readLine.2.1 65 = .ok (.iconst 4, 1) := by decide +kernel
theorem d_X11_readLine_66 : decode m_X11_readLine.2.1 66 = .ok (.invokevirtual 209, 3) := by decide +kernel
theorem d_X11_readLine_69 : decode m_X11_readLine.2.1 69 = .ok (.ifCond .eq 12, 3) := by decide +kernel
theorem d_X11_readLine_72 : decode m_X11_readLine.2.1 72 = .ok (.aload_n 0, 1) := by decide +kernel
theorem d_X11_readLine_73 : decode m_X11_readLine.2.1 73 = .ok (.iconst 4, 1) := by decide +kernel
theorem d_X11_readLine_74 : decode m_X11_readLine.2.1 74 = .ok (.invokevirtual 230, 3) := by decide +kernel
theorem d_X11_readLine_77 : decode m_X11_readLine.2.1 77 = .ok (.istore_n 1, 1) := by decide +kernel
theorem d_X11_readLine_78 : decode m_X11_readLine.2.1 78 = .ok (.goto 25, 3) := by decide +kernel
theorem d_X11_readLine_81 : decode m_X11_readLine.2.1 81 = .ok (.aload_n 0, 1) := by decide +kernel
theorem d_X11_readLine_82 : decode m_X11_readLine.2.1 82 = .ok (.iconst 5, 1) := by decide +kernel
theorem d_X11_readLine_83 : decode m_X11_readLine.2.1 83 = .ok (.invokevirtual 209, 3) := by decide +kernel
theorem d_X11_readLine_86 : decode m_X11_readLine.2.1 86 = .ok (.ifCond .eq 11, 3) := by decide +kernel
theorem d_X11_readLine_89 : decode m_X11_readLine.2.1 89 = .ok (.aload_n 0, 1) := by decide +kernel
theorem d_X11_readLine_90 : decode m_X11_readLine.2.1 90 = .ok (.iconst 5, 1) := by decide +kernel
theorem d_X11_readLine_91 : decode m_X11_readLine.2.1 91 = .ok (.invokevirtual 230, 3) := by decide +kernel
theorem d_X11_readLine_94 : decode m_X11_readLine.2.1 94 = .ok (.goto 8, 3) := by decide +kernel
theorem d_X11_readLine_97 : decode m_X11_readLine.2.1 97 = .ok (.aload_n 0, 1) := by decide +kernel
theorem d_X11_readLine_98 : decode m_X11_readLine.2.1 98 = .ok (.iconst 1, 1) := by decide +kernel
theorem d_X11_readLine_99 : decode m_X11_readLine.2.1 99 = .ok (.invokevirtual 174, 3) := by decide +kernel
theorem d_X11_readLine_102 : decode m_X11_readLine.2.1 102 = .ok (.istore_n 1, 1) := by decide +kernel
theorem d_X11_readLine_103 : decode m_X11_readLine.2.1 103 = .ok (.iload_n 1, 1) := by decide +kernel
theorem d_X11_readLine_104 : decode m_X11_readLine.2.1 104 = .ok (.ifCond .eq 14, 3) := by decide +kernel
theorem d_X11_readLine_107 : decode m_X11_readLine.2.1 107 = .ok (.aload_n 0, 1) := by decide +kernel
theorem d_X11_readLine_108 : decode m_X11_readLine.2.1 108 = .ok (.invokevirtual 233, 3) := by decide +kernel
theorem d_X11_readLine_111 : decode m_X11_readLine.2.1 111 = .ok (.ifCond .eq 7, 3) := by decide +kernel
theorem d_X11_readLine_114 : decode m_X11_readLine.2.1 114 = .ok (.iconst 1, 1) := by decide +kernel
theorem d_X11_readLine_115 : decode m_X11_readLine.2.1 115 = .ok (.goto 4, 3) := by decide +kernel
theorem d_X11_readLine_118 : decode m_X11_readLine.2.1 118 = .ok (.iconst 0, 1) := by decide +kernel
theorem d_X11_readLine_119 : decode m_X11_readLine.2.1 119 = .ok (.ireturn, 1) := by decide +kernel
set_option maxRecDepth 20000 in
theorem e_X11_readLine {E : jm_E} {d : Nat} {μ : jm_M} {Q : Option jm_V → jm_M → Prop}  (h : (∀ v ∈ ([jm_R 133] : List jm_V), jm_ok v) →
  jc E m_X11_isWord d [jm_R 133, jm_I 0] μ (fun (o : Option jm_V) (m1 : jm_M) => ∀ r2 : Int, o = some (jm_I r2) → (r2 = 0 ∨ r2 = 1) →
  ((r2 = 0 →
    jc E m_X11_isWord d [jm_R 133, jm_I 1] m1 (fun (o : Option jm_V) (m5 : jm_M) => ∀ r6 : Int, o = some (jm_I r6) → (r6 = 0 ∨ r6 = 1) →
    ((r6 = 0 →
      jc E m_X11_isWord d [jm_R 133, jm_I 2] m5 (fun (o : Option jm_V) (m9 : jm_M) => ∀ r10 : Int, o = some (jm_I r10) → (r10 = 0 ∨ r10 = 1) →
      ((r10 = 0 →
        jc E m_X11_isWord d [jm_R 133, jm_I 3] m9 (fun (o : Option jm_V) (m13 : jm_M) => ∀ r14 : Int, o = some (jm_I r14) → (r14 = 0 ∨ r14 = 1) →
        ((r14 = 0 →
          jc E m_X11_isWord d [jm_R 133, jm_I 4] m13 (fun (o : Option jm_V) (m17 : jm_M) => ∀ r18 : Int, o = some (jm_I r18) → (r18 = 0 ∨ r18 = 1) →
          ((r18 = 0 →
            jc E m_X11_isWord d [jm_R 133, jm_I 5] m17 (fun (o : Option jm_V) (m21 : jm_M) => ∀ r22 : Int, o = some (jm_I r22) → (r22 = 0 ∨ r22 = 1) →
            ((r22 = 0 →
              jc E m_X11_bad d [jm_R 133, jm_I 1] m21 (fun (o : Option jm_V) (m25 : jm_M) => ∀ r26 : Int, o = some (jm_I r26) → (r26 = 0 ∨ r26 = 1) →
              ((r26 = 0 →
                Q (some (jm_I 0)) m25) ∧
               (¬ (r26 = 0) →
                jc E m_X11_readEnd d [jm_R 133] m25 (fun (o : Option jm_V) (m29 : jm_M) => ∀ r30 : Int, o = some (jm_I r30) → (r30 = 0 ∨ r30 = 1) →
                ((r30 = 0 →
                  Q (some (jm_I 0)) m29) ∧
                 (¬ (r30 = 0) →
                  Q (some (jm_I 1)) m29))))))) ∧
             (¬ (r22 = 0) →
              jc E m_X11_readOnce d [jm_R 133, jm_I 5] m21 (fun (o : Option jm_V) (m33 : jm_M) => ∀ r34 : Int, o = some (jm_I r34) → (r34 = 0 ∨ r34 = 1) →
              ((r34 = 0 →
                Q (some (jm_I 0)) m33) ∧
               (¬ (r34 = 0) →
                jc E m_X11_readEnd d [jm_R 133] m33 (fun (o : Option jm_V) (m37 : jm_M) => ∀ r38 : Int, o = some (jm_I r38) → (r38 = 0 ∨ r38 = 1) →
                ((r38 = 0 →
                  Q (some (jm_I 0)) m37) ∧
                 (¬ (r38 = 0) →
                  Q (some (jm_I 1)) m37)))))))))) ∧
           (¬ (r18 = 0) →
            jc E m_X11_readOnce d [jm_R 133, jm_I 4] m17 (fun (o : Option jm_V) (m41 : jm_M) => ∀ r42 : Int, o = some (jm_I r42) → (r42 = 0 ∨ r42 = 1) →
            ((r42 = 0 →
              Q (some (jm_I 0)) m41) ∧
             (¬ (r42 = 0) →
              jc E m_X11_readEnd d [jm_R 133] m41 (fun (o : Option jm_V) (m45 : jm_M) => ∀ r46 : Int, o = some (jm_I r46) → (r46 = 0 ∨ r46 = 1) →
              ((r46 = 0 →
                Q (some (jm_I 0)) m45) ∧
               (¬ (r46 = 0) →
                Q (some (jm_I 1)) m45)))))))))) ∧
         (¬ (r14 = 0) →
          jc E m_X11_readComb d [jm_R 133] m13 (fun (o : Option jm_V) (m49 : jm_M) => ∀ r50 : Int, o = some (jm_I r50) → (r50 = 0 ∨ r50 = 1) →
          ((r50 = 0 →
            Q (some (jm_I 0)) m49) ∧
           (¬ (r50 = 0) →
            jc E m_X11_readEnd d [jm_R 133] m49 (fun (o : Option jm_V) (m53 : jm_M) => ∀ r54 : Int, o = some (jm_I r54) → (r54 = 0 ∨ r54 = 1) →
            ((r54 = 0 →
              Q (some (jm_I 0)) m53) ∧
             (¬ (r54 = 0) →
              Q (some (jm_I 1)) m53)))))))))) ∧
       (¬ (r10 = 0) →
        jc E m_X11_readMay d [jm_R 133] m9 (fun (o : Option jm_V) (m57 : jm_M) => ∀ r58 : Int, o = some (jm_I r58) → (r58 = 0 ∨ r58 = 1) →
        ((r58 = 0 →
          Q (some (jm_I 0)) m57) ∧
         (¬ (r58 = 0) →
          jc E m_X11_readEnd d [jm_R 133] m57 (fun (o : Option jm_V) (m61 : jm_M) => ∀ r62 : Int, o = some (jm_I r62) → (r62 = 0 ∨ r62 = 1) →
          ((r62 = 0 →
            Q (some (jm_I 0)) m61) ∧
           (¬ (r62 = 0) →
            Q (some (jm_I 1)) m61)))))))))) ∧
     (¬ (r6 = 0) →
      jc E m_X11_readKind d [jm_R 133] m5 (fun (o : Option jm_V) (m65 : jm_M) => ∀ r66 : Int, o = some (jm_I r66) → (r66 = 0 ∨ r66 = 1) →
      ((r66 = 0 →
        Q (some (jm_I 0)) m65) ∧
       (¬ (r66 = 0) →
        jc E m_X11_readEnd d [jm_R 133] m65 (fun (o : Option jm_V) (m69 : jm_M) => ∀ r70 : Int, o = some (jm_I r70) → (r70 = 0 ∨ r70 = 1) →
        ((r70 = 0 →
          Q (some (jm_I 0)) m69) ∧
         (¬ (r70 = 0) →
          Q (some (jm_I 1)) m69)))))))))) ∧
   (¬ (r2 = 0) →
    jc E m_X11_readWho d [jm_R 133] m1 (fun (o : Option jm_V) (m73 : jm_M) => ∀ r74 : Int, o = some (jm_I r74) → (r74 = 0 ∨ r74 = 1) →
    ((r74 = 0 →
      Q (some (jm_I 0)) m73) ∧
     (¬ (r74 = 0) →
      jc E m_X11_readEnd d [jm_R 133] m73 (fun (o : Option jm_V) (m77 : jm_M) => ∀ r78 : Int, o = some (jm_I r78) → (r78 = 0 ∨ r78 = 1) →
      ((r78 = 0 →
        Q (some (jm_I 0)) m77) ∧
       (¬ (r78 = 0) →
        Q (some (jm_I 1)) m77)))))))))) : jc E m_X11_readLine (d + 1) [jm_R 133] μ Q := by
  refine jm_Cl.of2 (by decide +kernel) (L0 := [some (jm_R 133), none]) rfl (Nat.le_of_ble_eq_true rfl) (fun hok => ?_)
  have h := h hok
  refine jm_aloadn d_X11_readLine_0 rfl ?_
  refine jm_iconst (v := 0) d_X11_readLine_1 rfl (jm_okI (by decide) (by decide)) ?_
  refine jm_invV (n1 := jm_N) (mc := 0) (ms := 0) (av := [jm_I _]) w_X11_isWord l_X11_209 d_X11_readLine_2 rfl is_133 ⟨_, _, rfl⟩ ⟨Nat.le_refl _, Nat.le_refl _⟩ (Nat.le_of_ble_eq_true rfl) rfl ?_
  refine jm_Cl.mono h (fun o m1 h hr _ => ?_)
  obtain ⟨r2, rfl, z3⟩ := jm_rokZ hr
  have h := h _ rfl z3
  refine jm_if_eq (tgt := 16) d_X11_readLine_5 (by decide) (fun c4 => ?_) (fun c4 => ?_)
  · have h := h.1 c4
    refine jm_aloadn d_X11_readLine_16 rfl ?_
    refine jm_iconst (v := 1) d_X11_readLine_17 rfl (jm_okI (by decide) (by decide)) ?_
    refine jm_invV (n1 := jm_N) (mc := 0) (ms := 0) (av := [jm_I _]) w_X11_isWord l_X11_209 d_X11_readLine_18 rfl is_133 ⟨_, _, rfl⟩ ⟨Nat.le_refl _, Nat.le_refl _⟩ (Nat.le_of_ble_eq_true rfl) rfl ?_
    refine jm_Cl.mono h (fun o m5 h hr _ => ?_)
    obtain ⟨r6, rfl, z7⟩ := jm_rokZ hr
    have h := h _ rfl z7
    refine jm_if_eq (tgt := 32) d_X11_readLine_21 (by decide) (fun c8 => ?_) (fun c8 => ?_)
    · have h := h.1 c8
      refine jm_aloadn d_X11_readLine_32 rfl ?_
      refine jm_iconst (v := 2) d_X11_readLine_33 rfl (jm_okI (by decide) (by decide)) ?_
      refine jm_invV (n1 := jm_N) (mc := 0) (ms := 0) (av := [jm_I _]) w_X11_isWord l_X11_209 d_X11_readLine_34 rfl is_133 ⟨_, _, rfl⟩ ⟨Nat.le_refl _, Nat.le_refl _⟩ (Nat.le_of_ble_eq_true rfl) rfl ?_
      refine jm_Cl.mono h (fun o m9 h hr _ => ?_)
      obtain ⟨r10, rfl, z11⟩ := jm_rokZ hr
      have h := h _ rfl z11
      refine jm_if_eq (tgt := 48) d_X11_readLine_37 (by decide) (fun c12 => ?_) (fun c12 => ?_)
      · have h := h.1 c12
        refine jm_aloadn d_X11_readLine_48 rfl ?_
        refine jm_iconst (v := 3) d_X11_readLine_49 rfl (jm_okI (by decide) (by decide)) ?_
        refine jm_invV (n1 := jm_N) (mc := 0) (ms := 0) (av := [jm_I _]) w_X11_isWord l_X11_209 d_X11_readLine_50 rfl is_133 ⟨_, _, rfl⟩ ⟨Nat.le_refl _, Nat.le_refl _⟩ (Nat.le_of_ble_eq_true rfl) rfl ?_
        refine jm_Cl.mono h (fun o m13 h hr _ => ?_)
        obtain ⟨r14, rfl, z15⟩ := jm_rokZ hr
        have h := h _ rfl z15
        refine jm_if_eq (tgt := 64) d_X11_readLine_53 (by decide) (fun c16 => ?_) (fun c16 => ?_)
        · have h := h.1 c16
          refine jm_aloadn d_X11_readLine_64 rfl ?_
          refine jm_iconst (v := 4) d_X11_readLine_65 rfl (jm_okI (by decide) (by decide)) ?_
          refine jm_invV (n1 := jm_N) (mc := 0) (ms := 0) (av := [jm_I _]) w_X11_isWord l_X11_209 d_X11_readLine_66 rfl is_133 ⟨_, _, rfl⟩ ⟨Nat.le_refl _, Nat.le_refl _⟩ (Nat.le_of_ble_eq_true rfl) rfl ?_
          refine jm_Cl.mono h (fun o m17 h hr _ => ?_)
          obtain ⟨r18, rfl, z19⟩ := jm_rokZ hr
          have h := h _ rfl z19
          refine jm_if_eq (tgt := 81) d_X11_readLine_69 (by decide) (fun c20 => ?_) (fun c20 => ?_)
          · have h := h.1 c20
            refine jm_aloadn d_X11_readLine_81 rfl ?_
            refine jm_iconst (v := 5) d_X11_readLine_82 rfl (jm_okI (by decide) (by decide)) ?_
            refine jm_invV (n1 := jm_N) (mc := 0) (ms := 0) (av := [jm_I _]) w_X11_isWord l_X11_209 d_X11_readLine_83 rfl is_133 ⟨_, _, rfl⟩ ⟨Nat.le_refl _, Nat.le_refl _⟩ (Nat.le_of_ble_eq_true rfl) rfl ?_
            refine jm_Cl.mono h (fun o m21 h hr _ => ?_)
            obtain ⟨r22, rfl, z23⟩ := jm_rokZ hr
            have h := h _ rfl z23
            refine jm_if_eq (tgt := 97) d_X11_readLine_86 (by decide) (fun c24 => ?_) (fun c24 => ?_)
            · have h := h.1 c24
              refine jm_aloadn d_X11_readLine_97 rfl ?_
              refine jm_iconst (v := 1) d_X11_readLine_98 rfl (jm_okI (by decide) (by decide)) ?_
              refine jm_invV (n1 := jm_N) (mc := 0) (ms := 0) (av := [jm_I _]) w_X11_bad l_X11_174 d_X11_readLine_99 rfl is_133 ⟨_, _, rfl⟩ ⟨Nat.le_refl _, Nat.le_refl _⟩ (Nat.le_of_ble_eq_true rfl) rfl ?_
              refine jm_Cl.mono h (fun o m25 h hr _ => ?_)
              obtain ⟨r26, rfl, z27⟩ := jm_rokZ hr
              have h := h _ rfl z27
              refine jm_istoren (L' := [some (jm_R _), some (jm_I _)]) d_X11_readLine_102 (Nat.le_of_ble_eq_true rfl) rfl ?_
              refine jm_iloadn d_X11_readLine_103 rfl ?_
              refine jm_if_eq (tgt := 118) d_X11_readLine_104 (by decide) (fun c28 => ?_) (fun c28 => ?_)
              · have h := h.1 c28
                refine jm_iconst (v := 0) d_X11_readLine_118 rfl (jm_okI (by decide) (by decide)) ?_
                exact jm_ret (o := some (jm_I _)) d_X11_readLine_119 rfl ⟨Nat.le_refl _, Nat.le_refl _⟩ (jm_r_Z (by decide)) h rfl
              · have h := h.2 c28
                refine jm_aloadn d_X11_readLine_107 rfl ?_
                refine jm_invV (n1 := jm_N) (mc := 0) (ms := 0) (av := []) w_X11_readEnd l_X11_233 d_X11_readLine_108 rfl is_133 ⟨_, _, rfl⟩ ⟨Nat.le_refl _, Nat.le_refl _⟩ (Nat.le_of_ble_eq_true rfl) rfl ?_
                refine jm_Cl.mono h (fun o m29 h hr _ => ?_)
                obtain ⟨r30, rfl, z31⟩ := jm_rokZ hr
                have h := h _ rfl z31
                refine jm_if_eq (tgt := 118) d_X11_readLine_111 (by decide) (fun c32 => ?_) (fun c32 => ?_)
                · have h := h.1 c32
                  refine jm_iconst (v := 0) d_X11_readLine_118 rfl (jm_okI (by decide) (by decide)) ?_
                  exact jm_ret (o := some (jm_I _)) d_X11_readLine_119 rfl ⟨Nat.le_refl _, Nat.le_refl _⟩ (jm_r_Z (by decide)) h rfl
                · have h := h.2 c32
                  refine jm_iconst (v := 1) d_X11_readLine_114 rfl (jm_okI (by decide) (by decide)) ?_
                  refine jm_goto (tgt := 119) d_X11_readLine_115 (by decide) ?_
                  exact jm_ret (o := some (jm_I _)) d_X11_readLine_119 rfl ⟨Nat.le_refl _, Nat.le_refl _⟩ (jm_r_Z (by decide)) h rfl
            · have h := h.2 c24
              refine jm_aloadn d_X11_readLine_89 rfl ?_
              refine jm_iconst (v := 5) d_X11_readLine_90 rfl (jm_okI (by decide) (by decide)) ?_
              refine jm_invV (n1 := jm_N) (mc := 0) (ms := 0) (av := [jm_I _]) w_X11_readOnce l_X11_230 d_X11_readLine_91 rfl is_133 ⟨_, _, rfl⟩ ⟨Nat.le_refl _, Nat.le_refl _⟩ (Nat.le_of_ble_eq_true rfl) rfl ?_
              refine jm_Cl.mono h (fun o m33 h hr _ => ?_)
              obtain ⟨r34, rfl, z35⟩ := jm_rokZ hr
              have h := h _ rfl z35
              refine jm_goto (tgt := 102) d_X11_readLine_94 (by decide) ?_
              refine jm_istoren (L' := [some (jm_R _), some (jm_I _)]) d_X11_readLine_102 (Nat.le_of_ble_eq_true rfl) rfl ?_
              refine jm_iloadn d_X11_readLine_103 rfl ?_
              refine jm_if_eq (tgt := 118) d_X11_readLine_104 (by decide) (fun c36 => ?_) (fun c36 => ?_)
              · have h := h.1 c36
                refine jm_iconst (v := 0) d_X11_readLine_118 rfl (jm_okI (by decide) (by decide)) ?_
                exact jm_ret (o := some (jm_I _)) d_X11_readLine_119 rfl ⟨Nat.le_refl _, Nat.le_refl _⟩ (jm_r_Z (by decide)) h rfl
              · have h := h.2 c36
                refine jm_aloadn d_X11_readLine_107 rfl ?_
                refine jm_invV (n1 := jm_N) (mc := 0) (ms := 0) (av := []) w_X11_readEnd l_X11_233 d_X11_readLine_108 rfl is_133 ⟨_, _, rfl⟩ ⟨Nat.le_refl _, Nat.le_refl _⟩ (Nat.le_of_ble_eq_true rfl) rfl ?_
                refine jm_Cl.mono h (fun o m37 h hr _ => ?_)
                obtain ⟨r38, rfl, z39⟩ := jm_rokZ hr
                have h := h _ rfl z39
                refine jm_if_eq (tgt := 118) d_X11_readLine_111 (by decide) (fun c40 => ?_) (fun c40 => ?_)
                · have h := h.1 c40
                  refine jm_iconst (v := 0) d_X11_readLine_118 rfl (jm_okI (by decide) (by decide)) ?_
                  exact jm_ret (o := some (jm_I _)) d_X11_readLine_119 rfl ⟨Nat.le_refl _, Nat.le_refl _⟩ (jm_r_Z (by decide)) h rfl
                · have h := h.2 c40
                  refine jm_iconst (v := 1) d_X11_readLine_114 rfl (jm_okI (by decide) (by decide)) ?_
                  refine jm_goto (tgt := 119) d_X11_readLine_115 (by decide) ?_
                  exact jm_ret (o := some (jm_I _)) d_X11_readLine_119 rfl ⟨Nat.le_refl _, Nat.le_refl _⟩ (jm_r_Z (by decide)) h rfl
          · have h := h.2 c20
            refine jm_aloadn d_X11_readLine_72 rfl ?_
            refine jm_iconst (v := 4) d_X11_readLine_73 rfl (jm_okI (by decide) (by decide)) ?_
            refine jm_invV (n1 := jm_N) (mc := 0) (ms := 0) (av := [jm_I _]) w_X11_readOnce l_X11_230 d_X11_readLine_74 rfl is_133 ⟨_, _, rfl⟩ ⟨Nat.le_refl _, Nat.le_refl _⟩ (Nat.le_of_ble_eq_true rfl) rfl ?_
            refine jm_Cl.mono h (fun o m41 h hr _ => ?_)
            obtain ⟨r42, rfl, z43⟩ := jm_rokZ hr
            have h := h _ rfl z43
            refine jm_istoren (L' := [some (jm_R _), some (jm_I _)]) d_X11_readLine_77 (Nat.le_of_ble_eq_true rfl) rfl ?_
            refine jm_goto (tgt := 103) d_X11_readLine_78 (by decide) ?_
            refine jm_iloadn d_X11_readLine_103 rfl ?_
            refine jm_if_eq (tgt := 118) d_X11_readLine_104 (by decide) (fun c44 => ?_) (fun c44 => ?_)
            · have h := h.1 c44
              refine jm_iconst (v := 0) d_X11_readLine_118 rfl (jm_okI (by decide) (by decide)) ?_
              exact jm_ret (o := some (jm_I _)) d_X11_readLine_119 rfl ⟨Nat.le_refl _, Nat.le_refl _⟩ (jm_r_Z (by decide)) h rfl
            · have h := h.2 c44
              refine jm_aloadn d_X11_readLine_107 rfl ?_
              refine jm_invV (n1 := jm_N) (mc := 0) (ms := 0) (av := []) w_X11_readEnd l_X11_233 d_X11_readLine_108 rfl is_133 ⟨_, _, rfl⟩ ⟨Nat.le_refl _, Nat.le_refl _⟩ (Nat.le_of_ble_eq_true rfl) rfl ?_
              refine jm_Cl.mono h (fun o m45 h hr _ => ?_)
              obtain ⟨r46, rfl, z47⟩ := jm_rokZ hr
              have h := h _ rfl z47
              refine jm_if_eq (tgt := 118) d_X11_readLine_111 (by decide) (fun c48 => ?_) (fun c48 => ?_)
              · have h := h.1 c48
                refine jm_iconst (v := 0) d_X11_readLine_118 rfl (jm_okI (by decide) (by decide)) ?_
                exact jm_ret (o := some (jm_I _)) d_X11_readLine_119 rfl ⟨Nat.le_refl _, Nat.le_refl _⟩ (jm_r_Z (by decide)) h rfl
              · have h := h.2 c48
                refine jm_iconst (v := 1) d_X11_readLine_114 rfl (jm_okI (by decide) (by decide)) ?_
                refine jm_goto (tgt := 119) d_X11_readLine_115 (by decide) ?_
                exact jm_ret (o := some (jm_I _)) d_X11_readLine_119 rfl ⟨Nat.le_refl _, Nat.le_refl _⟩ (jm_r_Z (by decide)) h rfl
        · have h := h.2 c16
          refine jm_aloadn d_X11_readLine_56 rfl ?_
          refine jm_invV (n1 := jm_N) (mc := 0) (ms := 0) (av := []) w_X11_readComb l_X11_227 d_X11_readLine_57 rfl is_133 ⟨_, _, rfl⟩ ⟨Nat.le_refl _, Nat.le_refl _⟩ (Nat.le_of_ble_eq_true rfl) rfl ?_
          refine jm_Cl.mono h (fun o m49 h hr _ => ?_)
          obtain ⟨r50, rfl, z51⟩ := jm_rokZ hr
          have h := h _ rfl z51
          refine jm_istoren (L' := [some (jm_R _), some (jm_I _)]) d_X11_readLine_60 (Nat.le_of_ble_eq_true rfl) rfl ?_
          refine jm_goto (tgt := 103) d_X11_readLine_61 (by decide) ?_
          refine jm_iloadn d_X11_readLine_103 rfl ?_
          refine jm_if_eq (tgt := 118) d_X11_readLine_104 (by decide) (fun c52 => ?_) (fun c52 => ?_)
          · have h := h.1 c52
            refine jm_iconst (v := 0) d_X11_readLine_118 rfl (jm_okI (by decide) (by decide)) ?_
            exact jm_ret (o := some (jm_I _)) d_X11_readLine_119 rfl ⟨Nat.le_refl _, Nat.le_refl _⟩ (jm_r_Z (by decide)) h rfl
          · have h := h.2 c52
            refine jm_aloadn d_X11_readLine_107 rfl ?_
            refine jm_invV (n1 := jm_N) (mc := 0) (ms := 0) (av := []) w_X11_readEnd l_X11_233 d_X11_readLine_108 rfl is_133 ⟨_, _, rfl⟩ ⟨Nat.le_refl _, Nat.le_refl _⟩ (Nat.le_of_ble_eq_true rfl) rfl ?_
            refine jm_Cl.mono h (fun o m53 h hr _ => ?_)
            obtain ⟨r54, rfl, z55⟩ := jm_rokZ hr
            have h := h _ rfl z55
            refine jm_if_eq (tgt := 118) d_X11_readLine_111 (by decide) (fun c56 => ?_) (fun c56 => ?_)
            · have h := h.1 c56
              refine jm_iconst (v := 0) d_X11_readLine_118 rfl (jm_okI (by decide) (by decide)) ?_
              exact jm_ret (o := some (jm_I _)) d_X11_readLine_119 rfl ⟨Nat.le_refl _, Nat.le_refl _⟩ (jm_r_Z (by decide)) h rfl
            · have h := h.2 c56
              refine jm_iconst (v := 1) d_X11_readLine_114 rfl (jm_okI (by decide) (by decide)) ?_
              refine jm_goto (tgt := 119) d_X11_readLine_115 (by decide) ?_
              exact jm_ret (o := some (jm_I _)) d_X11_readLine_119 rfl ⟨Nat.le_refl _, Nat.le_refl _⟩ (jm_r_Z (by decide)) h rfl
      · have h := h.2 c12
        refine jm_aloadn d_X11_readLine_40 rfl ?_
        refine jm_invV (n1 := jm_N) (mc := 0) (ms := 0) (av := []) w_X11_readMay l_X11_224 d_X11_readLine_41 rfl is_133 ⟨_, _, rfl⟩ ⟨Nat.le_refl _, Nat.le_refl _⟩ (Nat.le_of_ble_eq_true rfl) rfl ?_
        refine jm_Cl.mono h (fun o m57 h hr _ => ?_)
        obtain ⟨r58, rfl, z59⟩ := jm_rokZ hr
        have h := h _ rfl z59
        refine jm_istoren (L' := [some (jm_R _), some (jm_I _)]) d_X11_readLine_44 (Nat.le_of_ble_eq_true rfl) rfl ?_
        refine jm_goto (tgt := 103) d_X11_readLine_45 (by decide) ?_
        refine jm_iloadn d_X11_readLine_103 rfl ?_
        refine jm_if_eq (tgt := 118) d_X11_readLine_104 (by decide) (fun c60 => ?_) (fun c60 => ?_)
        · have h := h.1 c60
          refine jm_iconst (v := 0) d_X11_readLine_118 rfl (jm_okI (by decide) (by decide)) ?_
          exact jm_ret (o := some (jm_I _)) d_X11_readLine_119 rfl ⟨Nat.le_refl _, Nat.le_refl _⟩ (jm_r_Z (by decide)) h rfl
        · have h := h.2 c60
          refine jm_aloadn d_X11_readLine_107 rfl ?_
          refine jm_invV (n1 := jm_N) (mc := 0) (ms := 0) (av := []) w_X11_readEnd l_X11_233 d_X11_readLine_108 rfl is_133 ⟨_, _, rfl⟩ ⟨Nat.le_refl _, Nat.le_refl _⟩ (Nat.le_of_ble_eq_true rfl) rfl ?_
          refine jm_Cl.mono h (fun o m61 h hr _ => ?_)
          obtain ⟨r62, rfl, z63⟩ := jm_rokZ hr
          have h := h _ rfl z63
          refine jm_if_eq (tgt := 118) d_X11_readLine_111 (by decide) (fun c64 => ?_) (fun c64 => ?_)
          · have h := h.1 c64
            refine jm_iconst (v := 0) d_X11_readLine_118 rfl (jm_okI (by decide) (by decide)) ?_
            exact jm_ret (o := some (jm_I _)) d_X11_readLine_119 rfl ⟨Nat.le_refl _, Nat.le_refl _⟩ (jm_r_Z (by decide)) h rfl
          · have h := h.2 c64
            refine jm_iconst (v := 1) d_X11_readLine_114 rfl (jm_okI (by decide) (by decide)) ?_
            refine jm_goto (tgt := 119) d_X11_readLine_115 (by decide) ?_
            exact jm_ret (o := some (jm_I _)) d_X11_readLine_119 rfl ⟨Nat.le_refl _, Nat.le_refl _⟩ (jm_r_Z (by decide)) h rfl
    · have h := h.2 c8
      refine jm_aloadn d_X11_readLine_24 rfl ?_
      refine jm_invV (n1 := jm_N) (mc := 0) (ms := 0) (av := []) w_X11_readKind l_X11_221 d_X11_readLine_25 rfl is_133 ⟨_, _, rfl⟩ ⟨Nat.le_refl _, Nat.le_refl _⟩ (Nat.le_of_ble_eq_true rfl) rfl ?_
      refine jm_Cl.mono h (fun o m65 h hr _ => ?_)
      obtain ⟨r66, rfl, z67⟩ := jm_rokZ hr
      have h := h _ rfl z67
      refine jm_istoren (L' := [some (jm_R _), some (jm_I _)]) d_X11_readLine_28 (Nat.le_of_ble_eq_true rfl) rfl ?_
      refine jm_goto (tgt := 103) d_X11_readLine_29 (by decide) ?_
      refine jm_iloadn d_X11_readLine_103 rfl ?_
      refine jm_if_eq (tgt := 118) d_X11_readLine_104 (by decide) (fun c68 => ?_) (fun c68 => ?_)
      · have h := h.1 c68
        refine jm_iconst (v := 0) d_X11_readLine_118 rfl (jm_okI (by decide) (by decide)) ?_
        exact jm_ret (o := some (jm_I _)) d_X11_readLine_119 rfl ⟨Nat.le_refl _, Nat.le_refl _⟩ (jm_r_Z (by decide)) h rfl
      · have h := h.2 c68
        refine jm_aloadn d_X11_readLine_107 rfl ?_
        refine jm_invV (n1 := jm_N) (mc := 0) (ms := 0) (av := []) w_X11_readEnd l_X11_233 d_X11_readLine_108 rfl is_133 ⟨_, _, rfl⟩ ⟨Nat.le_refl _, Nat.le_refl _⟩ (Nat.le_of_ble_eq_true rfl) rfl ?_
        refine jm_Cl.mono h (fun o m69 h hr _ => ?_)
        obtain ⟨r70, rfl, z71⟩ := jm_rokZ hr
        have h := h _ rfl z71
        refine jm_if_eq (tgt := 118) d_X11_readLine_111 (by decide) (fun c72 => ?_) (fun c72 => ?_)
        · have h := h.1 c72
          refine jm_iconst (v := 0) d_X11_readLine_118 rfl (jm_okI (by decide) (by decide)) ?_
          exact jm_ret (o := some (jm_I _)) d_X11_readLine_119 rfl ⟨Nat.le_refl _, Nat.le_refl _⟩ (jm_r_Z (by decide)) h rfl
        · have h := h.2 c72
          refine jm_iconst (v := 1) d_X11_readLine_114 rfl (jm_okI (by decide) (by decide)) ?_
          refine jm_goto (tgt := 119) d_X11_readLine_115 (by decide) ?_
          exact jm_ret (o := some (jm_I _)) d_X11_readLine_119 rfl ⟨Nat.le_refl _, Nat.le_refl _⟩ (jm_r_Z (by decide)) h rfl
  · have h := h.2 c4
    refine jm_aloadn d_X11_readLine_8 rfl ?_
    refine jm_invV (n1 := jm_N) (mc := 0) (ms := 0) (av := []) w_X11_readWho l_X11_218 d_X11_readLine_9 rfl is_133 ⟨_, _, rfl⟩ ⟨Nat.le_refl _, Nat.le_refl _⟩ (Nat.le_of_ble_eq_true rfl) rfl ?_
    refine jm_Cl.mono h (fun o m73 h hr _ => ?_)
    obtain ⟨r74, rfl, z75⟩ := jm_rokZ hr
    have h := h _ rfl z75
    refine jm_istoren (L' := [some (jm_R _), some (jm_I _)]) d_X11_readLine_12 (Nat.le_of_ble_eq_true rfl) rfl ?_
    refine jm_goto (tgt := 103) d_X11_readLine_13 (by decide) ?_
    refine jm_iloadn d_X11_readLine_103 rfl ?_
    refine jm_if_eq (tgt := 118) d_X11_readLine_104 (by decide) (fun c76 => ?_) (fun c76 => ?_)
    · have h := h.1 c76
      refine jm_iconst (v := 0) d_X11_readLine_118 rfl (jm_okI (by decide) (by decide)) ?_
      exact jm_ret (o := some (jm_I _)) d_X11_readLine_119 rfl ⟨Nat.le_refl _, Nat.le_refl _⟩ (jm_r_Z (by decide)) h rfl
    · have h := h.2 c76
      refine jm_aloadn d_X11_readLine_107 rfl ?_
      refine jm_invV (n1 := jm_N) (mc := 0) (ms := 0) (av := []) w_X11_readEnd l_X11_233 d_X11_readLine_108 rfl is_133 ⟨_, _, rfl⟩ ⟨Nat.le_refl _, Nat.le_refl _⟩ (Nat.le_of_ble_eq_true rfl) rfl ?_
      refine jm_Cl.mono h (fun o m77 h hr _ => ?_)
      obtain ⟨r78, rfl, z79⟩ := jm_rokZ hr
      have h := h _ rfl z79
      refine jm_if_eq (tgt := 118) d_X11_readLine_111 (by decide) (fun c80 => ?_) (fun c80 => ?_)
      · have h := h.1 c80
        refine jm_iconst (v := 0) d_X11_readLine_118 rfl (jm_okI (by decide) (by decide)) ?_
        exact jm_ret (o := some (jm_I _)) d_X11_readLine_119 rfl ⟨Nat.le_refl _, Nat.le_refl _⟩ (jm_r_Z (by decide)) h rfl
      · have h := h.2 c80
        refine jm_iconst (v := 1) d_X11_readLine_114 rfl (jm_okI (by decide) (by decide)) ?_
        refine jm_goto (tgt := 119) d_X11_readLine_115 (by decide) ?_
        exact jm_ret (o := some (jm_I _)) d_X11_readLine_119 rfl ⟨Nat.le_refl _, Nat.le_refl _⟩ (jm_r_Z (by decide)) h rfl
/-! ('CombTableModel', 'table', '()I') -/
theorem d_X11_table_0 : decode m_X11_table.2.1 0 = .ok (.aload_n 0, 1) := by decide +kernel
theorem d_X11_table_1 : decode m_X11_table.2.1 1 = .ok (.sipush 900, 3) := by decide +kernel
theorem d_X11_table_4 : decode m_X11_table.2.1 4 = .ok (.invokevirtual 236, 3) := by decide +kernel
theorem d_X11_table_7 : decode m_X11_table.2.1 7 = .ok (.iconst 0, 1) := by decide +kernel
theorem d_X11_table_8 : decode m_X11_table.2.1 8 = .ok (.istore_n 1, 1) := by decide +kernel
theorem d_X11_table_9 : decode m_X11_table.2.1 9 = .ok (.iload_n 1, 1) := by decide +kernel
theorem d_X11_table_10 : decode m_X11_table.2.1 10 = .ok (.bipush 60, 2) := by decide +kernel
theorem d_X11_table_12 : decode m_X11_table.2.1 12 = .ok (.if_icmp .ge 16, 3) := by decide +kernel
theorem d_X11_table_15 : decode m_X11_table.2.1 15 = .ok (.aload_n 0, 1) := by decide +kernel
theorem d_X11_table_16 : decode m_X11_table.2.1 16 = .ok (.getfield 16, 3) := by decide +kernel
theorem d_X11_table_19 : decode m_X11_table.2.1 19 = .ok (.iload_n 1, 1) := by decide +kernel
theorem d_X11_table_20 : decode m_X11_table.2.1 20 = .ok (.iconst 0, 1) := by decide +kernel
theorem d_X11_table_21 : decode m_X11_table.2.1 21 = .ok (.iastore, 1) := by decide +kernel
theorem d_X11_table_22 : decode m_X11_table.2.1 22 = .ok (.iinc 1 1, 3) := by decide +kernel
theorem d_X11_table_25 : decode m_X11_table.2.1 25 = .ok (.goto (-16), 3) := by decide +kernel
theorem d_X11_table_28 : decode m_X11_table.2.1 28 = .ok (.iconst 0, 1) := by decide +kernel
theorem d_X11_table_29 : decode m_X11_table.2.1 29 = .ok (.istore_n 1, 1) := by decide +kernel
theorem d_X11_table_30 : decode m_X11_table.2.1 30 = .ok (.aload_n 0, 1) := by decide +kernel
theorem d_X11_table_31 : decode m_X11_table.2.1 31 = .ok (.getfield 128, 3) := by decide +kernel
theorem d_X11_table_34 : decode m_X11_table.2.1 34 = .ok (.ifCond .eq 23, 3) := by decide +kernel
theorem d_X11_table_37 : decode m_X11_table.2.1 37 = .ok (.aload_n 0, 1) := by decide +kernel
theorem d_X11_table_38 : decode m_X11_table.2.1 38 = .ok (.invokevirtual 239, 3) := by decide +kernel
theorem d_X11_table_41 : decode m_X11_table.2.1 41 = .ok (.ifCond .ne 10, 3) := by decide +kernel
theorem d_X11_table_44 : decode m_X11_table.2.1 44 = .ok (.iconst (-1), 1) := by decide +kernel
theorem d_X11_table_45 : decode m_X11_table.2.1 45 = .ok (.aload_n 0, 1) := by decide +kernel
theorem d_X11_table_46 : decode m_X11_table.2.1 46 = .ok (.getfield 171, 3) := by decide +kernel
theorem d_X11_table_49 : decode m_X11_table.2.1 49 = .ok (.isub, 1) := by decide +kernel
theorem d_X11_table_50 : decode m_X11_table.2.1 50 = .ok (.ireturn, 1) := by decide +kernel
theorem d_X11_table_51 : decode m_X11_table.2.1 51 = .ok (.iinc 1 1, 3) := by decide +kernel
theorem d_X11_table_54 : decode m_X11_table.2.1 54 = .ok (.goto (-24), 3) := by decide +kernel
theorem d_X11_table_57 : decode m_X11_table.2.1 57 = .ok (.iconst 0, 1) := by decide +kernel
theorem d_X11_table_58 : decode m_X11_table.2.1 58 = .ok (.istore_n 2, 1) := by decide +kernel
theorem d_X11_table_59 : decode m_X11_table.2.1 59 = .ok (.iload_n 2, 1) := by decide +kernel
theorem d_X11_table_60 : decode m_X11_table.2.1 60 = .ok (.bipush 60, 2) := by decide +kernel
theorem d_X11_table_62 : decode m_X11_table.2.1 62 = .ok (.if_icmp .ge 21, 3) := by decide +kernel
theorem d_X11_table_65 : decode m_X11_table.2.1 65 = .ok (.aload_n 0, 1) := by decide +kernel
theorem d_X11_table_66 : decode m_X11_table.2.1 66 = .ok (.getfield 13, 3) := by decide +kernel
theorem d_X11_table_69 : decode m_X11_table.2.1 69 = .ok (.iload_n 2, 1) := by decide +kernel
theorem d_X11_table_70 : decode m_X11_table.2.1 70 = .ok (.aload_n 0, 1) := by decide +kernel
theorem d_X11_table_71 : decode m_X11_table.2.1 71 = .ok (.getfield 16, 3) := by decide +kernel
theorem d_X11_table_74 : decode m_X11_table.2.1 74 = .ok (.iload_n 2, 1) := by decide +kernel
theorem d_X11_table_75 : decode m_X11_table.2.1 75 = .ok (.iaload, 1) := by decide +kernel
theorem d_X11_table_76 : decode m_X11_table.2.1 76 = .ok (.iastore, 1) := by decide +kernel
theorem d_X11_table_77 : decode m_X11_table.2.1 77 = .ok (.iinc 2 1, 3) := by decide +kernel
theorem d_X11_table_80 : decode m_X11_table.2.1 80 = .ok (.goto (-21), 3) := by decide +kernel
theorem d_X11_table_83 : decode m_X11_table.2.1 83 = .ok (.iconst 0, 1) := by decide +kernel
theorem d_X11_table_84 : decode m_X11_table.2.1 84 = .ok (.istore_n 2, 1) := by decide +kernel
theorem d_X11_table_85 : decode m_X11_table.2.1 85 = .ok (.iload_n 2, 1) := by decide +kernel
theorem d_X11_table_86 : decode m_X11_table.2.1 86 = .ok (.bipush 18, 2) := by decide +kernel
theorem d_X11_table_88 : decode m_X11_table.2.1 88 = .ok (.if_icmp .ge 21, 3) := by decide +kernel
theorem d_X11_table_91 : decode m_X11_table.2.1 91 = .ok (.aload_n 0, 1) := by decide +kernel
theorem d_X11_table_92 : decode m_X11_table.2.1 92 = .ok (.getfield 25, 3) := by decide +kernel
theorem d_X11_table_95 : decode m_X11_table.2.1 95 = .ok (.iload_n 2, 1) := by decide +kernel
theorem d_X11_table_96 : decode m_X11_table.2.1 96 = .ok (.aload_n 0, 1) := by decide +kernel
theorem d_X11_table_97 : decode m_X11_table.2.1 97 = .ok (.getfield 29, 3) := by decide +kernel
theorem d_X11_table_100 : decode m_X11_table.2.1 100 = .ok (.iload_n 2, 1) := by decide +kernel
theorem d_X11_table_101 : decode m_X11_table.2.1 101 = .ok (.laload, 1) := by decide +kernel
theorem d_X11_table_102 : decode m_X11_table.2.1 102 = .ok (.lastore, 1) := by decide +kernel
theorem d_X11_table_103 : decode m_X11_table.2.1 103 = .ok (.iinc 2 1, 3) := by decide +kernel
theorem d_X11_table_106 : decode m_X11_table.2.1 106 = .ok (.goto (-21), 3) := by decide +kernel
theorem d_X11_table_109 : decode m_X11_table.2.1 109 = .ok (.aload_n 0, 1) := by decide +kernel
theorem d_X11_table_110 : decode m_X11_table.2.1 110 = .ok (.getfield 13, 3) := by decide +kernel
theorem d_X11_table_113 : decode m_X11_table.2.1 113 = .ok (.bipush 60, 2) := by decide +kernel
theorem d_X11_table_115 : decode m_X11_table.2.1 115 = .ok (.iconst 0, 1) := by decide +kernel
theorem d_X11_table_116 : decode m_X11_table.2.1 116 = .ok (.iastore, 1) := by decide +kernel
theorem d_X11_table_117 : decode m_X11_table.2.1 117 = .ok (.aload_n 0, 1) := by decide +kernel
theorem d_X11_table_118 : decode m_X11_table.2.1 118 = .ok (.getfield 13, 3) := by decide +kernel
theorem d_X11_table_121 : decode m_X11_table.2.1 121 = .ok (.sipush 861, 3) := by decide +kernel
theorem d_X11_table_124 : decode m_X11_table.2.1 124 = .ok (.iconst 0, 1) := by decide +kernel
theorem d_X11_table_125 : decode m_X11_table.2.1 125 = .ok (.iastore, 1) := by decide +kernel
theorem d_X11_table_126 : decode m_X11_table.2.1 126 = .ok (.aload_n 0, 1) := by decide +kernel
theorem d_X11_table_127 : decode m_X11_table.2.1 127 = .ok (.getfield 13, 3) := by decide +kernel
theorem d_X11_table_130 : decode m_X11_table.2.1 130 = .ok (.sipush 910, 3) := by decide +kernel
theorem d_X11_table_133 : decode m_X11_table.2.1 133 = .ok (.iconst 0, 1) := by decide +kernel
theorem d_X11_table_134 : decode m_X11_table.2.1 134 = .ok (.iastore, 1) := by decide +kernel
theorem d_X11_table_135 : decode m_X11_table.2.1 135 = .ok (.iload_n 1, 1) := by decide +kernel
theorem d_X11_table_136 : decode m_X11_table.2.1 136 = .ok (.ireturn, 1) := by decide +kernel
set_option maxRecDepth 20000 in
theorem e_X11_table {E : jm_E} {d : Nat} {μ : jm_M} {Q : Option jm_V → jm_M → Prop}  (h : (∀ v ∈ ([jm_R 133] : List jm_V), jm_ok v) →
  jc E m_X11_begin d [jm_R 133, jm_I 900] μ (fun (o : Option jm_V) (m1 : jm_M) => o = none →
  jg E m_X11_table d 9 [some (jm_R 133), some (jm_I 0), none] [] m1 Q)) : jc E m_X11_table (d + 1) [jm_R 133] μ Q := by
  refine jm_Cl.of2 (by decide +kernel) (L0 := [some (jm_R 133), none, none]) rfl (Nat.le_of_ble_eq_true rfl) (fun hok => ?_)
  have h := h hok
  refine jm_aloadn d_X11_table_0 rfl ?_
  refine jm_sipush (v := 900) d_X11_table_1 rfl (jm_okI (by decide) (by decide)) ?_
  refine jm_invV (n1 := jm_N) (mc := 0) (ms := 0) (av := [jm_I _]) w_X11_begin l_X11_236 d_X11_table_4 rfl is_133 ⟨_, _, rfl⟩ ⟨Nat.le_refl _, Nat.le_refl _⟩ (Nat.le_of_ble_eq_true rfl) rfl ?_
  refine jm_Cl.mono h (fun o m1 h hr _ => ?_)
  obtain rfl := jm_rokV hr
  have h := h rfl
  refine jm_iconst (v := 0) d_X11_table_7 rfl (jm_okI (by decide) (by decide)) ?_
  refine jm_istoren (L' := [some (jm_R _), some (jm_I _), none]) d_X11_table_8 (Nat.le_of_ble_eq_true rfl) rfl ?_
  exact h
set_option maxRecDepth 20000 in
theorem r_X11_table_9 {E : jm_E} {d : Nat} {μ : jm_M} {Q : Option jm_V → jm_M → Prop} {v1 : Int} (h :
  ((60 ≤ v1 →
    jg E m_X11_table d 30 [some (jm_R 133), some (jm_I 0), none] [] μ Q) ∧
   (¬ (60 ≤ v1) →
    (0 ≤ v1 ∧ v1 < 60) ∧
    ∀ m3 : jm_M, m3 = (jm_up μ 136 v1 0) →
    jg E m_X11_table d 9 [some (jm_R 133), some (jm_I (jm_wr (v1 + 1))), none] [] m3 Q))) : jg E m_X11_table d 9 [some (jm_R 133), some (jm_I v1), none] [] μ Q := by
  refine jm_iloadn d_X11_table_9 rfl ?_
  refine jm_bipush (v := 60) d_X11_table_10 rfl (jm_okI (by decide) (by decide)) ?_
  refine jm_icmp_ge (tgt := 28) d_X11_table_12 (by decide) (fun c1 => ?_) (fun c1 => ?_)
  · have h := h.1 c1
    refine jm_iconst (v := 0) d_X11_table_28 rfl (jm_okI (by decide) (by decide)) ?_
    refine jm_istoren (L' := [some (jm_R _), some (jm_I _), none]) d_X11_table_29 (Nat.le_of_ble_eq_true rfl) rfl ?_
    exact h
  · have h := h.2 c1
    refine jm_aloadn d_X11_table_15 rfl ?_
    refine jm_getF (k := 15) (ki := 15) rfl cf_X11 (Nat.le_of_ble_eq_true rfl) f_X11_16 d_X11_table_16 rfl rfl is_133 fr_133_15 ?_
    refine jm_iloadn d_X11_table_19 rfl ?_
    refine jm_iconst (v := 0) d_X11_table_20 rfl (jm_okI (by decide) (by decide)) ?_
    obtain ⟨f2, h⟩ := h
    refine jm_iastore d_X11_table_21 (ixl_136 f2.1 f2.2) ?_
    have h := h _ rfl
    refine jm_iinc (L' := [some (jm_R _), some (jm_I _), none]) d_X11_table_22 rfl rfl (Nat.le_of_ble_eq_true rfl) rfl ?_
    refine jm_goto (tgt := 9) d_X11_table_25 (by decide) ?_
    exact h
set_option maxRecDepth 20000 in
theorem r_X11_table_30 {E : jm_E} {d : Nat} {μ : jm_M} {Q : Option jm_V → jm_M → Prop} {v1 : Int} (h :
  ((μ 133 7 = 0 →
    jg E m_X11_table d 59 [some (jm_R 133), some (jm_I v1), some (jm_I 0)] [] μ Q) ∧
   (¬ (μ 133 7 = 0) →
    jc E m_X11_readLine d [jm_R 133] μ (fun (o : Option jm_V) (m2 : jm_M) => ∀ r3 : Int, o = some (jm_I r3) → (r3 = 0 ∨ r3 = 1) →
    ((r3 ≠ 0 →
      jg E m_X11_table d 30 [some (jm_R 133), some (jm_I (jm_wr (v1 + 1))), none] [] m2 Q) ∧
     (¬ (r3 ≠ 0) →
      Q (some (jm_I (jm_wr (((-1)) - (m2 133 11))))) m2)))))) : jg E m_X11_table d 30 [some (jm_R 133), some (jm_I v1), none] [] μ Q := by
  refine jm_aloadn d_X11_table_30 rfl ?_
  refine jm_getI (k := 7) (ki := 7) cf_X11 (Nat.le_of_ble_eq_true rfl) f_X11_128 d_X11_table_31 rfl rfl is_133 rfl ?_
  refine jm_if_eq (tgt := 57) d_X11_table_34 (by decide) (fun c1 => ?_) (fun c1 => ?_)
  · have h := h.1 c1
    refine jm_iconst (v := 0) d_X11_table_57 rfl (jm_okI (by decide) (by decide)) ?_
    refine jm_istoren (L' := [some (jm_R _), some (jm_I _), some (jm_I _)]) d_X11_table_58 (Nat.le_of_ble_eq_true rfl) rfl ?_
    exact h
  · have h := h.2 c1
    refine jm_aloadn d_X11_table_37 rfl ?_
    refine jm_invV (n1 := jm_N) (mc := 0) (ms := 0) (av := []) w_X11_readLine l_X11_239 d_X11_table_38 rfl is_133 ⟨_, _, rfl⟩ ⟨Nat.le_refl _, Nat.le_refl _⟩ (Nat.le_of_ble_eq_true rfl) rfl ?_
    refine jm_Cl.mono h (fun o m2 h hr _ => ?_)
    obtain ⟨r3, rfl, z4⟩ := jm_rokZ hr
    have h := h _ rfl z4
    refine jm_if_ne (tgt := 51) d_X11_table_41 (by decide) (fun c5 => ?_) (fun c5 => ?_)
    · have h := h.1 c5
      refine jm_iinc (L' := [some (jm_R _), some (jm_I _), none]) d_X11_table_51 rfl rfl (Nat.le_of_ble_eq_true rfl) rfl ?_
      refine jm_goto (tgt := 30) d_X11_table_54 (by decide) ?_
      exact h
    · have h := h.2 c5
      refine jm_iconst (v := (-1)) d_X11_table_44 rfl (jm_okI (by decide) (by decide)) ?_
      refine jm_aloadn d_X11_table_45 rfl ?_
      refine jm_getI (k := 11) (ki := 11) cf_X11 (Nat.le_of_ble_eq_true rfl) f_X11_171 d_X11_table_46 rfl rfl is_133 rfl ?_
      refine jm_isub d_X11_table_49 ?_
      exact jm_ret (o := some (jm_I _)) d_X11_table_50 rfl ⟨Nat.le_refl _, Nat.le_refl _⟩ jm_r_I h rfl
set_option maxRecDepth 20000 in
theorem r_X11_table_59 {E : jm_E} {d : Nat} {μ : jm_M} {Q : Option jm_V → jm_M → Prop} {v1 v2 : Int} (h :
  ((60 ≤ v2 →
    jg E m_X11_table d 85 [some (jm_R 133), some (jm_I v1), some (jm_I 0)] [] μ Q) ∧
   (¬ (60 ≤ v2) →
    (0 ≤ v2 ∧ v2 < 60) ∧
    (0 ≤ v2 ∧ v2 < 1152) ∧
    ∀ m4 : jm_M, m4 = (jm_up μ 135 v2 (μ 136 v2)) →
    jg E m_X11_table d 59 [some (jm_R 133), some (jm_I v1), some (jm_I (jm_wr (v2 + 1)))] [] m4 Q))) : jg E m_X11_table d 59 [some (jm_R 133), some (jm_I v1), some (jm_I v2)] [] μ Q := by
  refine jm_iloadn d_X11_table_59 rfl ?_
  refine jm_bipush (v := 60) d_X11_table_60 rfl (jm_okI (by decide) (by decide)) ?_
  refine jm_icmp_ge (tgt := 83) d_X11_table_62 (by decide) (fun c1 => ?_) (fun c1 => ?_)
  · have h := h.1 c1
    refine jm_iconst (v := 0) d_X11_table_83 rfl (jm_okI (by decide) (by decide)) ?_
    refine jm_istoren (L' := [some (jm_R _), some (jm_I _), some (jm_I _)]) d_X11_table_84 (Nat.le_of_ble_eq_true rfl) rfl ?_
    exact h
  · have h := h.2 c1
    refine jm_aloadn d_X11_table_65 rfl ?_
    refine jm_getF (k := 14) (ki := 14) rfl cf_X11 (Nat.le_of_ble_eq_true rfl) f_X11_13 d_X11_table_66 rfl rfl is_133 fr_133_14 ?_
    refine jm_iloadn d_X11_table_69 rfl ?_
    refine jm_aloadn d_X11_table_70 rfl ?_
    refine jm_getF (k := 15) (ki := 15) rfl cf_X11 (Nat.le_of_ble_eq_true rfl) f_X11_16 d_X11_table_71 rfl rfl is_133 fr_133_15 ?_
    refine jm_iloadn d_X11_table_74 rfl ?_
    obtain ⟨f2, h⟩ := h
    refine jm_iaload d_X11_table_75 (ixl_136 f2.1 f2.2) ?_
    obtain ⟨f3, h⟩ := h
    refine jm_iastore d_X11_table_76 (ixl_135 f3.1 f3.2) ?_
    have h := h _ rfl
    refine jm_iinc (L' := [some (jm_R _), some (jm_I _), some (jm_I _)]) d_X11_table_77 rfl rfl (Nat.le_of_ble_eq_true rfl) rfl ?_
    refine jm_goto (tgt := 59) d_X11_table_80 (by decide) ?_
    exact h
set_option maxRecDepth 20000 in
theorem r_X11_table_85 {E : jm_E} {d : Nat} {μ : jm_M} {Q : Option jm_V → jm_M → Prop} {v1 v2 : Int} (h :
  ((18 ≤ v2 →
    ∀ m2 : jm_M, m2 = (jm_up μ 135 60 0) →
    ∀ m3 : jm_M, m3 = (jm_up m2 135 861 0) →
    ∀ m4 : jm_M, m4 = (jm_up m3 135 910 0) →
    Q (some (jm_I v1)) m4) ∧
   (¬ (18 ≤ v2) →
    (0 ≤ v2 ∧ v2 < 18) ∧
    ∀ m6 : jm_M, m6 = (jm_up μ 139 v2 (μ 140 v2)) →
    jg E m_X11_table d 85 [some (jm_R 133), some (jm_I v1), some (jm_I (jm_wr (v2 + 1)))] [] m6 Q))) : jg E m_X11_table d 85 [some (jm_R 133), some (jm_I v1), some (jm_I v2)] [] μ Q := by
  refine jm_iloadn d_X11_table_85 rfl ?_
  refine jm_bipush (v := 18) d_X11_table_86 rfl (jm_okI (by decide) (by decide)) ?_
  refine jm_icmp_ge (tgt := 109) d_X11_table_88 (by decide) (fun c1 => ?_) (fun c1 => ?_)
  · have h := h.1 c1
    refine jm_aloadn d_X11_table_109 rfl ?_
    refine jm_getF (k := 14) (ki := 14) rfl cf_X11 (Nat.le_of_ble_eq_true rfl) f_X11_13 d_X11_table_110 rfl rfl is_133 fr_133_14 ?_
    refine jm_bipush (v := 60) d_X11_table_113 rfl (jm_okI (by decide) (by decide)) ?_
    refine jm_iconst (v := 0) d_X11_table_115 rfl (jm_okI (by decide) (by decide)) ?_
    refine jm_iastore d_X11_table_116 (ixl_135 (by decide) (by decide)) ?_
    have h := h _ rfl
    refine jm_aloadn d_X11_table_117 rfl ?_
    refine jm_getF (k := 14) (ki := 14) rfl cf_X11 (Nat.le_of_ble_eq_true rfl) f_X11_13 d_X11_table_118 rfl rfl is_133 fr_133_14 ?_
    refine jm_sipush (v := 861) d_X11_table_121 rfl (jm_okI (by decide) (by decide)) ?_
    refine jm_iconst (v := 0) d_X11_table_124 rfl (jm_okI (by decide) (by decide)) ?_
    refine jm_iastore d_X11_table_125 (ixl_135 (by decide) (by decide)) ?_
    have h := h _ rfl
    refine jm_aloadn d_X11_table_126 rfl ?_
    refine jm_getF (k := 14) (ki := 14) rfl cf_X11 (Nat.le_of_ble_eq_true rfl) f_X11_13 d_X11_table_127 rfl rfl is_133 fr_133_14 ?_
    refine jm_sipush (v := 910) d_X11_table_130 rfl (jm_okI (by decide) (by decide)) ?_
    refine jm_iconst (v := 0) d_X11_table_133 rfl (jm_okI (by decide) (by decide)) ?_
    refine jm_iastore d_X11_table_134 (ixl_135 (by decide) (by decide)) ?_
    have h := h _ rfl
    refine jm_iloadn d_X11_table_135 rfl ?_
    exact jm_ret (o := some (jm_I _)) d_X11_table_136 rfl ⟨Nat.le_refl _, Nat.le_refl _⟩ jm_r_I h rfl
  · have h := h.2 c1
    refine jm_aloadn d_X11_table_91 rfl ?_
    refine jm_getF (k := 18) (ki := 18) rfl cf_X11 (Nat.le_of_ble_eq_true rfl) f_X11_25 d_X11_table_92 rfl rfl is_133 fr_133_18 ?_
    refine jm_iloadn d_X11_table_95 rfl ?_
    refine jm_aloadn d_X11_table_96 rfl ?_
    refine jm_getF (k := 19) (ki := 19) rfl cf_X11 (Nat.le_of_ble_eq_true rfl) f_X11_29 d_X11_table_97 rfl rfl is_133 fr_133_19 ?_
    refine jm_iloadn d_X11_table_100 rfl ?_
    obtain ⟨f5, h⟩ := h
    refine jm_laload d_X11_table_101 (ixl_140 f5.1 f5.2) ?_
    refine jm_lastore d_X11_table_102 (ixl_139 f5.1 f5.2) ?_
    have h := h _ rfl
    refine jm_iinc (L' := [some (jm_R _), some (jm_I _), some (jm_I _)]) d_X11_table_103 rfl rfl (Nat.le_of_ble_eq_true rfl) rfl ?_
    refine jm_goto (tgt := 85) d_X11_table_106 (by decide) ?_
    exact h
/-! ('CombTableModel', 'fault', '()I') -/
theorem d_X11_fault_0 : decode m_X11_fault.2.1 0 = .ok (.aload_n 0, 1) := by decide +kernel
theorem d_X11_fault_1 : decode m_X11_fault.2.1 1 = .ok (.iconst 0, 1) := by decide +kernel
theorem d_X11_fault_2 : decode m_X11_fault.2.1 2 = .ok (.putfield 106, 3) := by decide +kernel
theorem d_X11_fault_5 : decode m_X11_fault.2.1 5 = .ok (.aload_n 0, 1) := by decide +kernel
theorem d_X11_fault_6 : decode m_X11_fault.2.1 6 = .ok (.getfield 168, 3) := by decide +kernel
theorem d_X11_fault_9 : decode m_X11_fault.2.1 9 = .ok (.ireturn, 1) := by decide +kernel
set_option maxRecDepth 20000 in
theorem e_X11_fault {E : jm_E} {d : Nat} {μ : jm_M} {Q : Option jm_V → jm_M → Prop}  (h : (∀ v ∈ ([jm_R 133] : List jm_V), jm_ok v) →
  Q (some (jm_I (μ 133 10))) (jm_up μ 133 0 0)) : jc E m_X11_fault (d + 1) [jm_R 133] μ Q := by
  refine jm_Cl.of2 (by decide +kernel) (L0 := [some (jm_R 133)]) rfl (Nat.le_of_ble_eq_true rfl) (fun hok => ?_)
  have h := h hok
  refine jm_aloadn d_X11_fault_0 rfl ?_
  refine jm_iconst (v := 0) d_X11_fault_1 rfl (jm_okI (by decide) (by decide)) ?_
  refine jm_putI (k := 0) (ki := 0) cf_X11 (Nat.le_of_ble_eq_true rfl) f_X11_106 d_X11_fault_2 (fun z => absurd z (by decide)) rfl rfl rfl (fun _ => rfl) is_133 ?_
  refine jm_aloadn d_X11_fault_5 rfl ?_
  refine jm_getI (k := 10) (ki := 10) cf_X11 (Nat.le_of_ble_eq_true rfl) f_X11_168 d_X11_fault_6 rfl rfl is_133 ((jm_up_i (by decide)).trans rfl) ?_
  exact jm_ret (o := some (jm_I _)) d_X11_fault_9 rfl ⟨Nat.le_refl _, Nat.le_refl _⟩ jm_r_I h rfl
/-! ('CombTableModel', 'isWho', '(I)Z') -/
theorem d_X11_isWho_0 : decode m_X11_isWho.2.1 0 = .ok (.iload_n 1, 1) := by decide +kernel
theorem d_X11_isWho_1 : decode m_X11_isWho.2.1 1 = .ok (.ifCond .lt 17, 3) := by decide +kernel
theorem d_X11_isWho_4 : decode m_X11_isWho.2.1 4 = .ok (.iload_n 1, 1) := by decide +kernel
theorem d_X11_isWho_5 : decode m_X11_isWho.2.1 5 = .ok (.aload_n 0, 1) := by decide +kernel
theorem d_X11_isWho_6 : decode m_X11_isWho.2.1 6 = .ok (.getfield 13, 3) := by decide +kernel
theorem d_X11_isWho_9 : decode m_X11_isWho.2.1 9 = .ok (.iconst 0, 1) := by decide +kernel
theorem d_X11_isWho_10 : decode m_X11_isWho.2.1 10 = .ok (.iaload, 1) := by decide +kernel
theorem d_X11_isWho_11 : decode m_X11_isWho.2.1 11 = .ok (.if_icmp .ge 7, 3) := by decide +kernel
theorem d_X11_isWho_14 : decode m_X11_isWho.2.1 14 = .ok (.iconst 1, 1) := by decide +kernel
theorem d_X11_isWho_15 : decode m_X11_isWho.2.1 15 = .ok (.goto 4, 3) := by decide +kernel
theorem d_X11_isWho_18 : decode m_X11_isWho.2.1 18 = .ok (.iconst 0, 1) := by decide +kernel
theorem d_X11_isWho_19 : decode m_X11_isWho.2.1 19 = .ok (.ireturn, 1) := by decide +kernel
set_option maxRecDepth 20000 in
theorem e_X11_isWho {E : jm_E} {d : Nat} {μ : jm_M} {Q : Option jm_V → jm_M → Prop} {v1 : Int} (h : (∀ v ∈ ([jm_R 133, jm_I v1] : List jm_V), jm_ok v) →
  ((v1 < 0 →
    Q (some (jm_I 0)) μ) ∧
   (¬ (v1 < 0) →
    ((μ 135 0 ≤ v1 →
      Q (some (jm_I 0)) μ) ∧
     (¬ (μ 135 0 ≤ v1) →
      Q (some (jm_I 1)) μ))))) : jc E m_X11_isWho (d + 1) [jm_R 133, jm_I v1] μ Q := by
  refine jm_Cl.of2 (by decide +kernel) (L0 := [some (jm_R 133), some (jm_I v1)]) rfl (Nat.le_of_ble_eq_true rfl) (fun hok => ?_)
  have h := h hok
  refine jm_iloadn d_X11_isWho_0 rfl ?_
  refine jm_if_lt (tgt := 18) d_X11_isWho_1 (by decide) (fun c1 => ?_) (fun c1 => ?_)
  · have h := h.1 c1
    refine jm_iconst (v := 0) d_X11_isWho_18 rfl (jm_okI (by decide) (by decide)) ?_
    exact jm_ret (o := some (jm_I _)) d_X11_isWho_19 rfl ⟨Nat.le_refl _, Nat.le_refl _⟩ (jm_r_Z (by decide)) h rfl
  · have h := h.2 c1
    refine jm_iloadn d_X11_isWho_4 rfl ?_
    refine jm_aloadn d_X11_isWho_5 rfl ?_
    refine jm_getF (k := 14) (ki := 14) rfl cf_X11 (Nat.le_of_ble_eq_true rfl) f_X11_13 d_X11_isWho_6 rfl rfl is_133 fr_133_14 ?_
    refine jm_iconst (v := 0) d_X11_isWho_9 rfl (jm_okI (by decide) (by decide)) ?_
    refine jm_iaload d_X11_isWho_10 (ixl_135 (by decide) (by decide)) ?_
    refine jm_icmp_ge (tgt := 18) d_X11_isWho_11 (by decide) (fun c2 => ?_) (fun c2 => ?_)
    · have h := h.1 c2
      refine jm_iconst (v := 0) d_X11_isWho_18 rfl (jm_okI (by decide) (by decide)) ?_
      exact jm_ret (o := some (jm_I _)) d_X11_isWho_19 rfl ⟨Nat.le_refl _, Nat.le_refl _⟩ (jm_r_Z (by decide)) h rfl
    · have h := h.2 c2
      refine jm_iconst (v := 1) d_X11_isWho_14 rfl (jm_okI (by decide) (by decide)) ?_
      refine jm_goto (tgt := 19) d_X11_isWho_15 (by decide) ?_
      exact jm_ret (o := some (jm_I _)) d_X11_isWho_19 rfl ⟨Nat.le_refl _, Nat.le_refl _⟩ (jm_r_Z (by decide)) h rfl
/-! ('CombTableModel', 'isKind', '(I)Z') -/
theorem d_X11_isKind_0 : decode m_X11_isKind.2.1 0 = .ok (.iload_n 1, 1) := by decide +kernel
theorem d_X11_isKind_1 : decode m_X11_isKind.2.1 1 = .ok (.ifCond .lt 17, 3) := by decide +kernel
theorem d_X11_isKind_4 : decode m_X11_isKind.2.1 4 = .ok (.iload_n 1, 1) := by decide +kernel
theorem d_X11_isKind_5 : decode m_X11_isKind.2.1 5 = .ok (.aload_n 0, 1) := by decide +kernel
theorem d_X11_isKind_6 : decode m_X11_isKind.2.1 6 = .ok (.getfield 13, 3) := by decide +kernel
theorem d_X11_isKind_9 : decode m_X11_isKind.2.1 9 = .ok (.iconst 1, 1) := by decide +kernel
theorem d_X11_isKind_10 : decode m_X11_isKind.2.1 10 = .ok (.iaload, 1) := by decide +kernel
theorem d_X11_isKind_11 : decode m_X11_isKind.2.1 11 = .ok (.if_icmp .ge 7, 3) := by decide +kernel
theorem d_X11_isKind_14 : decode m_X11_isKind.2.1 14 = .ok (.iconst 1, 1) := by decide +kernel
theorem d_X11_isKind_15 : decode m_X11_isKind.2.1 15 = .ok (.goto 4, 3) := by decide +kernel
theorem d_X11_isKind_18 : decode m_X11_isKind.2.1 18 = .ok (.iconst 0, 1) := by decide +kernel
theorem d_X11_isKind_19 : decode m_X11_isKind.2.1 19 = .ok (.ireturn, 1) := by decide +kernel
set_option maxRecDepth 20000 in
theorem e_X11_isKind {E : jm_E} {d : Nat} {μ : jm_M} {Q : Option jm_V → jm_M → Prop} {v1 : Int} (h : (∀ v ∈ ([jm_R 133, jm_I v1] : List jm_V), jm_ok v) →
  ((v1 < 0 →
    Q (some (jm_I 0)) μ) ∧
   (¬ (v1 < 0) →
    ((μ 135 1 ≤ v1 →
      Q (some (jm_I 0)) μ) ∧
     (¬ (μ 135 1 ≤ v1) →
      Q (some (jm_I 1)) μ))))) : jc E m_X11_isKind (d + 1) [jm_R 133, jm_I v1] μ Q := by
  refine jm_Cl.of2 (by decide +kernel) (L0 := [some (jm_R 133), some (jm_I v1)]) rfl (Nat.le_of_ble_eq_true rfl) (fun hok => ?_)
  have h := h hok
  refine jm_iloadn d_X11_isKind_0 rfl ?_
  refine jm_if_lt (tgt := 18) d_X11_isKind_1 (by decide) (fun c1 => ?_) (fun c1 => ?_)
  · have h := h.1 c1
    refine jm_iconst (v := 0) d_X11_isKind_18 rfl (jm_okI (by decide) (by decide)) ?_
    exact jm_ret (o := some (jm_I _)) d_X11_isKind_19 rfl ⟨Nat.le_refl _, Nat.le_refl _⟩ (jm_r_Z (by decide)) h rfl
  · have h := h.2 c1
    refine jm_iloadn d_X11_isKind_4 rfl ?_
    refine jm_aloadn d_X11_isKind_5 rfl ?_
    refine jm_getF (k := 14) (ki := 14) rfl cf_X11 (Nat.le_of_ble_eq_true rfl) f_X11_13 d_X11_isKind_6 rfl rfl is_133 fr_133_14 ?_
    refine jm_iconst (v := 1) d_X11_isKind_9 rfl (jm_okI (by decide) (by decide)) ?_
    refine jm_iaload d_X11_isKind_10 (ixl_135 (by decide) (by decide)) ?_
    refine jm_icmp_ge (tgt := 18) d_X11_isKind_11 (by decide) (fun c2 => ?_) (fun c2 => ?_)
    · have h := h.1 c2
      refine jm_iconst (v := 0) d_X11_isKind_18 rfl (jm_okI (by decide) (by decide)) ?_
      exact jm_ret (o := some (jm_I _)) d_X11_isKind_19 rfl ⟨Nat.le_refl _, Nat.le_refl _⟩ (jm_r_Z (by decide)) h rfl
    · have h := h.2 c2
      refine jm_iconst (v := 1) d_X11_isKind_14 rfl (jm_okI (by decide) (by decide)) ?_
      refine jm_goto (tgt := 19) d_X11_isKind_15 (by decide) ?_
      exact jm_ret (o := some (jm_I _)) d_X11_isKind_19 rfl ⟨Nat.le_refl _, Nat.le_refl _⟩ (jm_r_Z (by decide)) h rfl
/-! ('CombTableModel', 'rank', '(I)I') -/
theorem d_X11_rank_0 : decode m_X11_rank.2.1 0 = .ok (.aload_n 0, 1) := by decide +kernel
theorem d_X11_rank_1 : decode m_X11_rank.2.1 1 = .ok (.iconst 0, 1) := by decide +kernel
theorem d_X11_rank_2 : decode m_X11_rank.2.1 2 = .ok (.putfield 106, 3) := by decide +kernel
theorem d_X11_rank_5 : decode m_X11_rank.2.1 5 = .ok (.aload_n 0, 1) := by decide +kernel
theorem d_X11_rank_6 : decode m_X11_rank.2.1 6 = .ok (.iload_n 1, 1) := by decide +kernel
theorem d_X11_rank_7 : decode m_X11_rank.2.1 7 = .ok (.invokevirtual 242, 3) := by decide +kernel
theorem d_X11_rank_10 : decode m_X11_rank.2.1 10 = .ok (.ifCond .eq 15, 3) := by decide +kernel
theorem d_X11_rank_13 : decode m_X11_rank.2.1 13 = .ok (.aload_n 0, 1) := by decide +kernel
theorem d_X11_rank_14 : decode m_X11_rank.2.1 14 = .ok (.getfield 13, 3) := by decide +kernel
theorem d_X11_rank_17 : decode m_X11_rank.2.1 17 = .ok (.bipush 12, 2) := by decide +kernel
theorem d_X11_rank_19 : decode m_X11_rank.2.1 19 = .ok (.iload_n 1, 1) := by decide +kernel
theorem d_X11_rank_20 : decode m_X11_rank.2.1 20 = .ok (.iadd, 1) := by decide +kernel
theorem d_X11_rank_21 : decode m_X11_rank.2.1 21 = .ok (.iaload, 1) := by decide +kernel
theorem d_X11_rank_22 : decode m_X11_rank.2.1 22 = .ok (.goto 4, 3) := by decide +kernel
theorem d_X11_rank_25 : decode m_X11_rank.2.1 25 = .ok (.iconst (-1), 1) := by decide +kernel
theorem d_X11_rank_26 : decode m_X11_rank.2.1 26 = .ok (.ireturn, 1) := by decide +kernel
set_option maxRecDepth 20000 in
theorem e_X11_rank {E : jm_E} {d : Nat} {μ : jm_M} {Q : Option jm_V → jm_M → Prop} {v1 : Int} (h : (∀ v ∈ ([jm_R 133, jm_I v1] : List jm_V), jm_ok v) →
  jc E m_X11_isWho d [jm_R 133, jm_I v1] (jm_up μ 133 0 0) (fun (o : Option jm_V) (m1 : jm_M) => ∀ r2 : Int, o = some (jm_I r2) → (r2 = 0 ∨ r2 = 1) →
  ((r2 = 0 →
    Q (some (jm_I ((-1)))) m1) ∧
   (¬ (r2 = 0) →
    (0 ≤ jm_wr (12 + v1) ∧ jm_wr (12 + v1) < 1152) ∧
    Q (some (jm_I (m1 135 (jm_wr (12 + v1))))) m1)))) : jc E m_X11_rank (d + 1) [jm_R 133, jm_I v1] μ Q := by
  refine jm_Cl.of2 (by decide +kernel) (L0 := [some (jm_R 133), some (jm_I v1)]) rfl (Nat.le_of_ble_eq_true rfl) (fun hok => ?_)
  have h := h hok
  refine jm_aloadn d_X11_rank_0 rfl ?_
  refine jm_iconst (v := 0) d_X11_rank_1 rfl (jm_okI (by decide) (by decide)) ?_
  refine jm_putI (k := 0) (ki := 0) cf_X11 (Nat.le_of_ble_eq_true rfl) f_X11_106 d_X11_rank_2 (fun z => absurd z (by decide)) rfl rfl rfl (fun _ => rfl) is_133 ?_
  refine jm_aloadn d_X11_rank_5 rfl ?_
  refine jm_iloadn d_X11_rank_6 rfl ?_
  refine jm_invV (n1 := jm_N) (mc := 0) (ms := 0) (av := [jm_I _]) w_X11_isWho l_X11_242 d_X11_rank_7 rfl is_133 ⟨_, _, rfl⟩ ⟨Nat.le_refl _, Nat.le_refl _⟩ (Nat.le_of_ble_eq_true rfl) rfl ?_
  refine jm_Cl.mono h (fun o m1 h hr _ => ?_)
  obtain ⟨r2, rfl, z3⟩ := jm_rokZ hr
  have h := h _ rfl z3
  refine jm_if_eq (tgt := 25) d_X11_rank_10 (by decide) (fun c4 => ?_) (fun c4 => ?_)
  · have h := h.1 c4
    refine jm_iconst (v := (-1)) d_X11_rank_25 rfl (jm_okI (by decide) (by decide)) ?_
    exact jm_ret (o := some (jm_I _)) d_X11_rank_26 rfl ⟨Nat.le_refl _, Nat.le_refl _⟩ jm_r_I h rfl
  · have h := h.2 c4
    refine jm_aloadn d_X11_rank_13 rfl ?_
    refine jm_getF (k := 14) (ki := 14) rfl cf_X11 (Nat.le_of_ble_eq_true rfl) f_X11_13 d_X11_rank_14 rfl rfl is_133 fr_133_14 ?_
    refine jm_bipush (v := 12) d_X11_rank_17 rfl (jm_okI (by decide) (by decide)) ?_
    refine jm_iloadn d_X11_rank_19 rfl ?_
    refine jm_iadd d_X11_rank_20 ?_
    obtain ⟨f5, h⟩ := h
    refine jm_iaload d_X11_rank_21 (ixl_135 f5.1 f5.2) ?_
    refine jm_goto (tgt := 26) d_X11_rank_22 (by decide) ?_
    exact jm_ret (o := some (jm_I _)) d_X11_rank_26 rfl ⟨Nat.le_refl _, Nat.le_refl _⟩ jm_r_I h rfl
/-! ('CombTableModel', 'kind', '(II)I') -/
theorem d_X11_kind_0 : decode m_X11_kind.2.1 0 = .ok (.aload_n 0, 1) := by decide +kernel
theorem d_X11_kind_1 : decode m_X11_kind.2.1 1 = .ok (.iload_n 1, 1) := by decide +kernel
theorem d_X11_kind_2 : decode m_X11_kind.2.1 2 = .ok (.invokevirtual 245, 3) := by decide +kernel
theorem d_X11_kind_5 : decode m_X11_kind.2.1 5 = .ok (.ifCond .eq 12, 3) := by decide +kernel
theorem d_X11_kind_8 : decode m_X11_kind.2.1 8 = .ok (.iload_n 2, 1) := by decide +kernel
theorem d_X11_kind_9 : decode m_X11_kind.2.1 9 = .ok (.iconst 0, 1) := by decide +kernel
theorem d_X11_kind_10 : decode m_X11_kind.2.1 10 = .ok (.iconst 3, 1) := by decide +kernel
theorem d_X11_kind_11 : decode m_X11_kind.2.1 11 = .ok (.invokestatic 177, 3) := by decide +kernel
theorem d_X11_kind_14 : decode m_X11_kind.2.1 14 = .ok (.ifCond .ne 8, 3) := by decide +kernel
theorem d_X11_kind_17 : decode m_X11_kind.2.1 17 = .ok (.aload_n 0, 1) := by decide +kernel
theorem d_X11_kind_18 : decode m_X11_kind.2.1 18 = .ok (.invokevirtual 248, 3) := by decide +kernel
theorem d_X11_kind_21 : decode m_X11_kind.2.1 21 = .ok (.ireturn, 1) := by decide +kernel
theorem d_X11_kind_22 : decode m_X11_kind.2.1 22 = .ok (.aload_n 0, 1) := by decide +kernel
theorem d_X11_kind_23 : decode m_X11_kind.2.1 23 = .ok (.iconst 0, 1) := by decide +kernel
theorem d_X11_kind_24 : decode m_X11_kind.2.1 24 = .ok (.putfield 106, 3) := by decide +kernel
theorem d_X11_kind_27 : decode m_X11_kind.2.1 27 = .ok (.aload_n 0, 1) := by decide +kernel
theorem d_X11_kind_28 : decode m_X11_kind.2.1 28 = .ok (.getfield 13, 3) := by decide +kernel
theorem d_X11_kind_31 : decode m_X11_kind.2.1 31 = .ok (.bipush 20, 2) := by decide +kernel
theorem d_X11_kind_33 : decode m_X11_kind.2.1 33 = .ok (.iconst 4, 1) := by decide +kernel
theorem d_X11_kind_34 : decode m_X11_kind.2.1 34 = .ok (.iload_n 1, 1) := by decide +kernel
theorem d_X11_kind_35 : decode m_X11_kind.2.1 35 = .ok (.imul, 1) := by decide +kernel
theorem d_X11_kind_36 : decode m_X11_kind.2.1 36 = .ok (.iadd, 1) := by decide +kernel
theorem d_X11_kind_37 : decode m_X11_kind.2.1 37 = .ok (.iload_n 2, 1) := by decide +kernel
theorem d_X11_kind_38 : decode m_X11_kind.2.1 38 = .ok (.iadd, 1) := by decide +kernel
theorem d_X11_kind_39 : decode m_X11_kind.2.1 39 = .ok (.iaload, 1) := by decide +kernel
theorem d_X11_kind_40 : decode m_X11_kind.2.1 40 = .ok (.ireturn, 1) := by decide +kernel
set_option maxRecDepth 20000 in
theorem e_X11_kind {E : jm_E} {d : Nat} {μ : jm_M} {Q : Option jm_V → jm_M → Prop} {v1 v2 : Int} (h : (∀ v ∈ ([jm_R 133, jm_I v1, jm_I v2] : List jm_V), jm_ok v) →
  jc E m_X11_isKind d [jm_R 133, jm_I v1] μ (fun (o : Option jm_V) (m1 : jm_M) => ∀ r2 : Int, o = some (jm_I r2) → (r2 = 0 ∨ r2 = 1) →
  ((r2 = 0 →
    jc E m_X11_refuse d [jm_R 133] m1 (fun (o : Option jm_V) (m5 : jm_M) => ∀ r6 : Int, o = some (jm_I r6) →
    Q (some (jm_I r6)) m5)) ∧
   (¬ (r2 = 0) →
    jc E m_X11_isIn d [jm_I v2, jm_I 0, jm_I 3] m1 (fun (o : Option jm_V) (m7 : jm_M) => ∀ r8 : Int, o = some (jm_I r8) → (r8 = 0 ∨ r8 = 1) →
    ((r8 ≠ 0 →
      (0 ≤ jm_wr ((jm_wr (20 + (jm_wr (4 * v1)))) + v2) ∧ jm_wr ((jm_wr (20 + (jm_wr (4 * v1)))) + v2) < 1152) ∧
      Q (some (jm_I (m7 135 (jm_wr ((jm_wr (20 + (jm_wr (4 * v1)))) + v2))))) (jm_up m7 133 0 0)) ∧
     (¬ (r8 ≠ 0) →
      jc E m_X11_refuse d [jm_R 133] m7 (fun (o : Option jm_V) (m12 : jm_M) => ∀ r13 : Int, o = some (jm_I r13) →
      Q (some (jm_I r13)) m12)))))))) : jc E m_X11_kind (d + 1) [jm_R 133, jm_I v1, jm_I v2] μ Q := by
  refine jm_Cl.of2 (by decide +kernel) (L0 := [some (jm_R 133), some (jm_I v1), some (jm_I v2)]) rfl (Nat.le_of_ble_eq_true rfl) (fun hok => ?_)
  have h := h hok
  refine jm_aloadn d_X11_kind_0 rfl ?_
  refine jm_iloadn d_X11_kind_1 rfl ?_
  refine jm_invV (n1 := jm_N) (mc := 0) (ms := 0) (av := [jm_I _]) w_X11_isKind l_X11_245 d_X11_kind_2 rfl is_133 ⟨_, _, rfl⟩ ⟨Nat.le_refl _, Nat.le_refl _⟩ (Nat.le_of_ble_eq_true rfl) rfl ?_
  refine jm_Cl.mono h (fun o m1 h hr _ => ?_)
  obtain ⟨r2, rfl, z3⟩ := jm_rokZ hr
  have h := h _ rfl z3
  refine jm_if_eq (tgt := 17) d_X11_kind_5 (by decide) (fun c4 => ?_) (fun c4 => ?_)
  · have h := h.1 c4
    refine jm_aloadn d_X11_kind_17 rfl ?_
    refine jm_invV (n1 := jm_N) (mc := 0) (ms := 0) (av := []) w_X11_refuse l_X11_248 d_X11_kind_18 rfl is_133 ⟨_, _, rfl⟩ ⟨Nat.le_refl _, Nat.le_refl _⟩ (Nat.le_of_ble_eq_true rfl) rfl ?_
    refine jm_Cl.mono h (fun o m5 h hr _ => ?_)
    obtain ⟨r6, rfl⟩ := jm_rokI hr
    have h := h _ rfl
    exact jm_ret (o := some (jm_I _)) d_X11_kind_21 rfl ⟨Nat.le_refl _, Nat.le_refl _⟩ jm_r_I h rfl
  · have h := h.2 c4
    refine jm_iloadn d_X11_kind_8 rfl ?_
    refine jm_iconst (v := 0) d_X11_kind_9 rfl (jm_okI (by decide) (by decide)) ?_
    refine jm_iconst (v := 3) d_X11_kind_10 rfl (jm_okI (by decide) (by decide)) ?_
    refine jm_invS (n1 := jm_N) (mc := 0) (ms := 0) (av := [jm_I _, jm_I _, jm_I _]) w_X11_isIn l_X11_177 d_X11_kind_11 rfl ⟨Nat.le_refl _, Nat.le_refl _⟩ (Nat.le_of_ble_eq_true rfl) rfl ?_
    refine jm_Cl.mono h (fun o m7 h hr _ => ?_)
    obtain ⟨r8, rfl, z9⟩ := jm_rokZ hr
    have h := h _ rfl z9
    refine jm_if_ne (tgt := 22) d_X11_kind_14 (by decide) (fun c10 => ?_) (fun c10 => ?_)
    · have h := h.1 c10
      refine jm_aloadn d_X11_kind_22 rfl ?_
      refine jm_iconst (v := 0) d_X11_kind_23 rfl (jm_okI (by decide) (by decide)) ?_
      refine jm_putI (k := 0) (ki := 0) cf_X11 (Nat.le_of_ble_eq_true rfl) f_X11_106 d_X11_kind_24 (fun z => absurd z (by decide)) rfl rfl rfl (fun _ => rfl) is_133 ?_
      refine jm_aloadn d_X11_kind_27 rfl ?_
      refine jm_getF (k := 14) (ki := 14) rfl cf_X11 (Nat.le_of_ble_eq_true rfl) f_X11_13 d_X11_kind_28 rfl rfl is_133 fr_133_14 ?_
      refine jm_bipush (v := 20) d_X11_kind_31 rfl (jm_okI (by decide) (by decide)) ?_
      refine jm_iconst (v := 4) d_X11_kind_33 rfl (jm_okI (by decide) (by decide)) ?_
      refine jm_iloadn d_X11_kind_34 rfl ?_
      refine jm_imul d_X11_kind_35 ?_
      refine jm_iadd d_X11_kind_36 ?_
      refine jm_iloadn d_X11_kind_37 rfl ?_
      refine jm_iadd d_X11_kind_38 ?_
      obtain ⟨f11, h⟩ := h
      refine jm_ialoadv d_X11_kind_39 (ixl_135 f11.1 f11.2) ((jm_up_lj (by decide)).trans rfl) ?_
      exact jm_ret (o := some (jm_I _)) d_X11_kind_40 rfl ⟨Nat.le_refl _, Nat.le_refl _⟩ jm_r_I h rfl
    · have h := h.2 c10
      refine jm_aloadn d_X11_kind_17 rfl ?_
      refine jm_invV (n1 := jm_N) (mc := 0) (ms := 0) (av := []) w_X11_refuse l_X11_248 d_X11_kind_18 rfl is_133 ⟨_, _, rfl⟩ ⟨Nat.le_refl _, Nat.le_refl _⟩ (Nat.le_of_ble_eq_true rfl) rfl ?_
      refine jm_Cl.mono h (fun o m12 h hr _ => ?_)
      obtain ⟨r13, rfl⟩ := jm_rokI hr
      have h := h _ rfl
      exact jm_ret (o := some (jm_I _)) d_X11_kind_21 rfl ⟨Nat.le_refl _, Nat.le_refl _⟩ jm_r_I h rfl
