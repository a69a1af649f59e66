/-! ('CombTableLaw', 'put', '([III)I') -/
theorem d_L_put_0 : decode m_L_put.2.1 0 = .ok (.bipush 24, 2) := by decide +kernel
theorem d_L_put_2 : decode m_L_put.2.1 2 = .ok (.bipush 8, 2) := by decide +kernel
theorem d_L_put_4 : decode m_L_put.2.1 4 = .ok (.iload_n 1, 1) := by decide +kernel
theorem d_L_put_5 : decode m_L_put.2.1 5 = .ok (.iconst 3, 1) := by decide +kernel
theorem d_L_put_6 : decode m_L_put.2.1 6 = .ok (.iand, 1) := by decide +kernel
theorem d_L_put_7 : decode m_L_put.2.1 7 = .ok (.imul, 1) := by decide +kernel
theorem d_L_put_8 : decode m_L_put.2.1 8 = .ok (.isub, 1) := by decide +kernel
theorem d_L_put_9 : decode m_L_put.2.1 9 = .ok (.istore_n 3, 1) := by decide +kernel
theorem d_L_put_10 : decode m_L_put.2.1 10 = .ok (.aload_n 0, 1) := by decide +kernel
theorem d_L_put_11 : decode m_L_put.2.1 11 = .ok (.iload_n 1, 1) := by decide +kernel
theorem d_L_put_12 : decode m_L_put.2.1 12 = .ok (.iconst 2, 1) := by decide +kernel
theorem d_L_put_13 : decode m_L_put.2.1 13 = .ok (.ishr, 1) := by decide +kernel
theorem d_L_put_14 : decode m_L_put.2.1 14 = .ok (.aload_n 0, 1) := by decide +kernel
theorem d_L_put_15 : decode m_L_put.2.1 15 = .ok (.iload_n 1, 1) := by decide +kernel
theorem d_L_put_16 : decode m_L_put.2.1 16 = .ok (.iconst 2, 1) := by decide +kernel
theorem d_L_put_17 : decode m_L_put.2.1 17 = .ok (.ishr, 1) := by decide +kernel
theorem d_L_put_18 : decode m_L_put.2.1 18 = .ok (.iaload, 1) := by decide +kernel
theorem d_L_put_19 : decode m_L_put.2.1 19 = .ok (.sipush 255, 3) := by decide +kernel
theorem d_L_put_22 : decode m_L_put.2.1 22 = .ok (.iload_n 3, 1) := by decide +kernel
theorem d_L_put_23 : decode m_L_put.2.1 23 = .ok (.ishl, 1) := by decide +kernel
theorem d_L_put_24 : decode m_L_put.2.1 24 = .ok (.iconst (-1), 1) := by decide +kernel
theorem d_L_put_25 : decode m_L_put.2.1 25 = .ok (.ixor, 1) := by decide +kernel
theorem d_L_put_26 : decode m_L_put.2.1 26 = .ok (.iand, 1) := by decide +kernel
theorem d_L_put_27 : decode m_L_put.2.1 27 = .ok (.iload_n 2, 1) := by decide +kernel
theorem d_L_put_28 : decode m_L_put.2.1 28 = .ok (.sipush 255, 3) := by decide +kernel
theorem d_L_put_31 : decode m_L_put.2.1 31 = .ok (.iand, 1) := by decide +kernel
theorem d_L_put_32 : decode m_L_put.2.1 32 = .ok (.iload_n 3, 1) := by decide +kernel
theorem d_L_put_33 : decode m_L_put.2.1 33 = .ok (.ishl, 1) := by decide +kernel
theorem d_L_put_34 : decode m_L_put.2.1 34 = .ok (.ior, 1) := by decide +kernel
theorem d_L_put_35 : decode m_L_put.2.1 35 = .ok (.iastore, 1) := by decide +kernel
theorem d_L_put_36 : decode m_L_put.2.1 36 = .ok (.iload_n 1, 1) := by decide +kernel
theorem d_L_put_37 : decode m_L_put.2.1 37 = .ok (.iconst 1, 1) := by decide +kernel
theorem d_L_put_38 : decode m_L_put.2.1 38 = .ok (.iadd, 1) := by decide +kernel
theorem d_L_put_39 : decode m_L_put.2.1 39 = .ok (.ireturn, 1) := by decide +kernel
set_option maxRecDepth 20000 in
theorem e_L_put {E : jm_E} {d : Nat} {μ : jm_M} {Q : Option jm_V → jm_M → Prop} {v1 v2 : Int} (h : (∀ v ∈ ([jm_R 133, jm_I v1, jm_I v2] : List jm_V), jm_ok v) →
  ∀ x1 : Int, x1 = jm_wr (24 - (jm_wr (8 * (jm_and v1 3)))) →
  (0 ≤ jm_shr v1 2 ∧ jm_shr v1 2 < 64) ∧
  ∀ m3 : jm_M, m3 = (jm_up μ 133 (jm_shr v1 2) (jm_or (jm_and (μ 133 (jm_shr v1 2)) (jm_xor (jm_shl 255 x1) ((-1)))) (jm_shl (jm_and v2 255) x1))) →
  Q (some (jm_I (jm_wr (v1 + 1)))) m3) : jc E m_L_put (d + 1) [jm_R 133, jm_I v1, jm_I v2] μ Q := by
  refine jm_Cl.of2 (by decide +kernel) (L0 := [some (jm_R 133), some (jm_I v1), some (jm_I v2), none]) rfl (Nat.le_of_ble_eq_true rfl) (fun hok => ?_)
  have h := h hok
  refine jm_bipush (v := 24) d_L_put_0 rfl (jm_okI (by decide) (by decide)) ?_
  refine jm_bipush (v := 8) d_L_put_2 rfl (jm_okI (by decide) (by decide)) ?_
  refine jm_iloadn d_L_put_4 rfl ?_
  refine jm_iconst (v := 3) d_L_put_5 rfl (jm_okI (by decide) (by decide)) ?_
  refine jm_iand d_L_put_6 ?_
  refine jm_imul d_L_put_7 ?_
  refine jm_isub d_L_put_8 ?_
  have h := h _ rfl
  refine jm_istoren (L' := [some (jm_R _), some (jm_I _), some (jm_I _), some (jm_I _)]) d_L_put_9 (Nat.le_of_ble_eq_true rfl) rfl ?_
  refine jm_aloadn d_L_put_10 rfl ?_
  refine jm_iloadn d_L_put_11 rfl ?_
  refine jm_iconst (v := 2) d_L_put_12 rfl (jm_okI (by decide) (by decide)) ?_
  refine jm_ishr d_L_put_13 ?_
  refine jm_aloadn d_L_put_14 rfl ?_
  refine jm_iloadn d_L_put_15 rfl ?_
  refine jm_iconst (v := 2) d_L_put_16 rfl (jm_okI (by decide) (by decide)) ?_
  refine jm_ishr d_L_put_17 ?_
  obtain ⟨f2, h⟩ := h
  refine jm_iaload d_L_put_18 (ixl_133 f2.1 f2.2) ?_
  refine jm_sipush (v := 255) d_L_put_19 rfl (jm_okI (by decide) (by decide)) ?_
  refine jm_iloadn d_L_put_22 rfl ?_
  refine jm_ishl d_L_put_23 ?_
  refine jm_iconst (v := (-1)) d_L_put_24 rfl (jm_okI (by decide) (by decide)) ?_
  refine jm_ixor d_L_put_25 ?_
  refine jm_iand d_L_put_26 ?_
  refine jm_iloadn d_L_put_27 rfl ?_
  refine jm_sipush (v := 255) d_L_put_28 rfl (jm_okI (by decide) (by decide)) ?_
  refine jm_iand d_L_put_31 ?_
  refine jm_iloadn d_L_put_32 rfl ?_
  refine jm_ishl d_L_put_33 ?_
  refine jm_ior d_L_put_34 ?_
  refine jm_iastore d_L_put_35 (ixl_133 f2.1 f2.2) ?_
  have h := h _ rfl
  refine jm_iloadn d_L_put_36 rfl ?_
  refine jm_iconst (v := 1) d_L_put_37 rfl (jm_okI (by decide) (by decide)) ?_
  refine jm_iadd d_L_put_38 ?_
  exact jm_ret (o := some (jm_I _)) d_L_put_39 rfl ⟨Nat.le_refl _, Nat.le_refl _⟩ jm_r_I h rfl
/-! ('CombTableLaw', 'add', '([IILjava/lang/String;)I') -/
theorem d_L_add_0 : decode m_L_add.2.1 0 = .ok (.iload_n 1, 1) := by decide +kernel
theorem d_L_add_1 : decode m_L_add.2.1 1 = .ok (.istore_n 3, 1) := by decide +kernel
theorem d_L_add_2 : decode m_L_add.2.1 2 = .ok (.iconst 0, 1) := by decide +kernel
theorem d_L_add_3 : decode m_L_add.2.1 3 = .ok (.istore 4, 2) := by decide +kernel
theorem d_L_add_5 : decode m_L_add.2.1 5 = .ok (.iload 4, 2) := by decide +kernel
theorem d_L_add_7 : decode m_L_add.2.1 7 = .ok (.aload_n 2, 1) := by decide +kernel
theorem d_L_add_8 : decode m_L_add.2.1 8 = .ok (.invokevirtual 7, 3) := by decide +kernel
theorem d_L_add_11 : decode m_L_add.2.1 11 = .ok (.if_icmp .ge 21, 3) := by decide +kernel
theorem d_L_add_14 : decode m_L_add.2.1 14 = .ok (.aload_n 0, 1) := by decide +kernel
theorem d_L_add_15 : decode m_L_add.2.1 15 = .ok (.iload_n 3, 1) := by decide +kernel
theorem d_L_add_16 : decode m_L_add.2.1 16 = .ok (.aload_n 2, 1) := by decide +kernel
theorem d_L_add_17 : decode m_L_add.2.1 17 = .ok (.iload 4, 2) := by decide +kernel
theorem d_L_add_19 : decode m_L_add.2.1 19 = .ok (.invokevirtual 13, 3) := by decide +kernel
theorem d_L_add_22 : decode m_L_add.2.1 22 = .ok (.invokestatic 17, 3) := by decide +kernel
theorem d_L_add_25 : decode m_L_add.2.1 25 = .ok (.istore_n 3, 1) := by decide +kernel
theorem d_L_add_26 : decode m_L_add.2.1 26 = .ok (.iinc 4 1, 3) := by decide +kernel
theorem d_L_add_29 : decode m_L_add.2.1 29 = .ok (.goto (-24), 3) := by decide +kernel
theorem d_L_add_32 : decode m_L_add.2.1 32 = .ok (.iload_n 3, 1) := by decide +kernel
theorem d_L_add_33 : decode m_L_add.2.1 33 = .ok (.ireturn, 1) := by decide +kernel
set_option maxRecDepth 20000 in
theorem e_L_add {E : jm_E} {d : Nat} {μ : jm_M} {Q : Option jm_V → jm_M → Prop} {v1 v2 : Int} (h : (∀ v ∈ ([jm_R 133, jm_I v1, jm_R v2] : List jm_V), jm_ok v) →
  jg E m_L_add d 5 [some (jm_R 133), none, some (jm_R v2), some (jm_I v1), some (jm_I 0)] [] μ Q) : jc E m_L_add (d + 1) [jm_R 133, jm_I v1, jm_R v2] μ Q := by
  refine jm_Cl.of2 (by decide +kernel) (L0 := [some (jm_R 133), some (jm_I v1), some (jm_R v2), none, none]) rfl (Nat.le_of_ble_eq_true rfl) (fun hok => ?_)
  have h := h hok
  refine jm_iloadn d_L_add_0 rfl ?_
  refine jm_istoren (L' := [some (jm_R _), some (jm_I _), some (jm_R _), some (jm_I _), none]) d_L_add_1 (Nat.le_of_ble_eq_true rfl) rfl ?_
  refine jm_iconst (v := 0) d_L_add_2 rfl (jm_okI (by decide) (by decide)) ?_
  refine jm_istore (L' := [some (jm_R _), some (jm_I _), some (jm_R _), some (jm_I _), some (jm_I _)]) d_L_add_3 (Nat.le_of_ble_eq_true rfl) rfl ?_
  exact jm_weak2 h (And.intro rfl (And.intro rfl (And.intro rfl (And.intro rfl trivial))))
set_option maxRecDepth 20000 in
theorem r_L_add_5 {E : jm_E} {d : Nat} {μ : jm_M} {Q : Option jm_V → jm_M → Prop} {v2 v3 v4 : Int} (h :
  (jm_ik v2) ∧
  (4 ≤ d) ∧
  ((jm_klen v2 ≤ v4 →
    Q (some (jm_I v3)) μ) ∧
   (¬ (jm_klen v2 ≤ v4) →
    (0 ≤ v4 ∧ v4 < jm_klen v2) ∧
    jc E m_L_put d [jm_R 133, jm_I v3, jm_I (jm_kch v2 v4)] μ (fun (o : Option jm_V) (m5 : jm_M) => ∀ r6 : Int, o = some (jm_I r6) →
    jg E m_L_add d 5 [some (jm_R 133), none, some (jm_R v2), some (jm_I r6), some (jm_I (jm_wr (v4 + 1)))] [] m5 Q)))) : jg E m_L_add d 5 [some (jm_R 133), none, some (jm_R v2), some (jm_I v3), some (jm_I v4)] [] μ Q := by
  refine jm_iload d_L_add_5 rfl ?_
  refine jm_aloadn d_L_add_7 rfl ?_
  obtain ⟨f1, h⟩ := h
  obtain ⟨f2, h⟩ := h
  refine jm_klenr l_L_7 d_L_add_8 f1 f2 ⟨Nat.le_refl _, Nat.le_refl _⟩ (Nat.le_of_ble_eq_true rfl) ?_
  refine jm_icmp_ge (tgt := 32) d_L_add_11 (by decide) (fun c3 => ?_) (fun c3 => ?_)
  · have h := h.1 c3
    refine jm_iloadn d_L_add_32 rfl ?_
    exact jm_ret (o := some (jm_I _)) d_L_add_33 rfl ⟨Nat.le_refl _, Nat.le_refl _⟩ jm_r_I h rfl
  · have h := h.2 c3
    refine jm_aloadn d_L_add_14 rfl ?_
    refine jm_iloadn d_L_add_15 rfl ?_
    refine jm_aloadn d_L_add_16 rfl ?_
    refine jm_iload d_L_add_17 rfl ?_
    obtain ⟨f4, h⟩ := h
    refine jm_kchr l_L_13 d_L_add_19 f1 f4 f2 ⟨Nat.le_refl _, Nat.le_refl _⟩ (Nat.le_of_ble_eq_true rfl) ?_
    refine jm_invS (n1 := jm_N) (mc := 0) (ms := 0) (av := [jm_R _, jm_I _, jm_I _]) w_L_put l_L_17 d_L_add_22 rfl ⟨Nat.le_refl _, Nat.le_refl _⟩ (Nat.le_of_ble_eq_true rfl) rfl ?_
    refine jm_Cl.mono h (fun o m5 h hr _ => ?_)
    obtain ⟨r6, rfl⟩ := jm_rokI hr
    have h := h _ rfl
    refine jm_istoren (L' := [some (jm_R _), none, some (jm_R _), some (jm_I _), some (jm_I _)]) d_L_add_25 (Nat.le_of_ble_eq_true rfl) rfl ?_
    refine jm_iinc (L' := [some (jm_R _), none, some (jm_R _), some (jm_I _), some (jm_I _)]) d_L_add_26 rfl rfl (Nat.le_of_ble_eq_true rfl) rfl ?_
    refine jm_goto (tgt := 5) d_L_add_29 (by decide) ?_
    exact h
/-! ('CombTableLaw', 'number', '([III)I') -/
theorem d_L_number_0 : decode m_L_number.2.1 0 = .ok (.iload_n 2, 1) := by decide +kernel
theorem d_L_number_1 : decode m_L_number.2.1 1 = .ok (.bipush 9, 2) := by decide +kernel
theorem d_L_number_3 : decode m_L_number.2.1 3 = .ok (.if_icmp .le 29, 3) := by decide +kernel
theorem d_L_number_6 : decode m_L_number.2.1 6 = .ok (.aload_n 0, 1) := by decide +kernel
theorem d_L_number_7 : decode m_L_number.2.1 7 = .ok (.aload_n 0, 1) := by decide +kernel
theorem d_L_number_8 : decode m_L_number.2.1 8 = .ok (.iload_n 1, 1) := by decide +kernel
theorem d_L_number_9 : decode m_L_number.2.1 9 = .ok (.bipush 48, 2) := by decide +kernel
theorem d_L_number_11 : decode m_L_number.2.1 11 = .ok (.iload_n 2, 1) := by decide +kernel
theorem d_L_number_12 : decode m_L_number.2.1 12 = .ok (.bipush 10, 2) := by decide +kernel
theorem d_L_number_14 : decode m_L_number.2.1 14 = .ok (.idiv, 1) := by decide +kernel
theorem d_L_number_15 : decode m_L_number.2.1 15 = .ok (.iadd, 1) := by decide +kernel
theorem d_L_number_16 : decode m_L_number.2.1 16 = .ok (.invokestatic 17, 3) := by decide +kernel
theorem d_L_number_19 : decode m_L_number.2.1 19 = .ok (.bipush 48, 2) := by decide +kernel
theorem d_L_number_21 : decode m_L_number.2.1 21 = .ok (.iload_n 2, 1) := by decide +kernel
theorem d_L_number_22 : decode m_L_number.2.1 22 = .ok (.bipush 10, 2) := by decide +kernel
theorem d_L_number_24 : decode m_L_number.2.1 24 = .ok (.irem, 1) := by decide +kernel
theorem d_L_number_25 : decode m_L_number.2.1 25 = .ok (.iadd, 1) := by decide +kernel
theorem d_L_number_26 : decode m_L_number.2.1 26 = .ok (.invokestatic 17, 3) := by decide +kernel
theorem d_L_number_29 : decode m_L_number.2.1 29 = .ok (.goto 12, 3) := by decide +kernel
theorem d_L_number_32 : decode m_L_number.2.1 32 = .ok (.aload_n 0, 1) := by decide +kernel
theorem d_L_number_33 : decode m_L_number.2.1 33 = .ok (.iload_n 1, 1) := by decide +kernel
theorem d_L_number_34 : decode m_L_number.2.1 34 = .ok (.bipush 48, 2) := by decide +kernel
theorem d_L_number_36 : decode m_L_number.2.1 36 = .ok (.iload_n 2, 1) := by decide +kernel
theorem d_L_number_37 : decode m_L_number.2.1 37 = .ok (.iadd, 1) := by decide +kernel
theorem d_L_number_38 : decode m_L_number.2.1 38 = .ok (.invokestatic 17, 3) := by decide +kernel
theorem d_L_number_41 : decode m_L_number.2.1 41 = .ok (.ireturn, 1) := by decide +kernel
set_option maxRecDepth 20000 in
theorem e_L_number {E : jm_E} {d : Nat} {μ : jm_M} {Q : Option jm_V → jm_M → Prop} {v1 v2 : Int} (h : (∀ v ∈ ([jm_R 133, jm_I v1, jm_I v2] : List jm_V), jm_ok v) →
  ((v2 ≤ 9 →
    jc E m_L_put d [jm_R 133, jm_I v1, jm_I (jm_wr (48 + v2))] μ (fun (o : Option jm_V) (m2 : jm_M) => ∀ r3 : Int, o = some (jm_I r3) →
    Q (some (jm_I r3)) m2)) ∧
   (¬ (v2 ≤ 9) →
    jc E m_L_put d [jm_R 133, jm_I v1, jm_I (jm_wr (48 + (jm_quo v2 10)))] μ (fun (o : Option jm_V) (m4 : jm_M) => ∀ r5 : Int, o = some (jm_I r5) →
    jc E m_L_put d [jm_R 133, jm_I r5, jm_I (jm_wr (48 + (jm_rem v2 10)))] m4 (fun (o : Option jm_V) (m6 : jm_M) => ∀ r7 : Int, o = some (jm_I r7) →
    Q (some (jm_I r7)) m6))))) : jc E m_L_number (d + 1) [jm_R 133, jm_I v1, jm_I v2] μ Q := by
  refine jm_Cl.of2 (by decide +kernel) (L0 := [some (jm_R 133), some (jm_I v1), some (jm_I v2)]) rfl (Nat.le_of_ble_eq_true rfl) (fun hok => ?_)
  have h := h hok
  refine jm_iloadn d_L_number_0 rfl ?_
  refine jm_bipush (v := 9) d_L_number_1 rfl (jm_okI (by decide) (by decide)) ?_
  refine jm_icmp_le (tgt := 32) d_L_number_3 (by decide) (fun c1 => ?_) (fun c1 => ?_)
  · have h := h.1 c1
    refine jm_aloadn d_L_number_32 rfl ?_
    refine jm_iloadn d_L_number_33 rfl ?_
    refine jm_bipush (v := 48) d_L_number_34 rfl (jm_okI (by decide) (by decide)) ?_
    refine jm_iloadn d_L_number_36 rfl ?_
    refine jm_iadd d_L_number_37 ?_
    refine jm_invS (n1 := jm_N) (mc := 0) (ms := 0) (av := [jm_R _, jm_I _, jm_I _]) w_L_put l_L_17 d_L_number_38 rfl ⟨Nat.le_refl _, Nat.le_refl _⟩ (Nat.le_of_ble_eq_true rfl) rfl ?_
    refine jm_Cl.mono h (fun o m2 h hr _ => ?_)
    obtain ⟨r3, rfl⟩ := jm_rokI hr
    have h := h _ rfl
    exact jm_ret (o := some (jm_I _)) d_L_number_41 rfl ⟨Nat.le_refl _, Nat.le_refl _⟩ jm_r_I h rfl
  · have h := h.2 c1
    refine jm_aloadn d_L_number_6 rfl ?_
    refine jm_aloadn d_L_number_7 rfl ?_
    refine jm_iloadn d_L_number_8 rfl ?_
    refine jm_bipush (v := 48) d_L_number_9 rfl (jm_okI (by decide) (by decide)) ?_
    refine jm_iloadn d_L_number_11 rfl ?_
    refine jm_bipush (v := 10) d_L_number_12 rfl (jm_okI (by decide) (by decide)) ?_
    refine jm_idiv d_L_number_14 (by decide) ?_
    refine jm_iadd d_L_number_15 ?_
    refine jm_invS (n1 := jm_N) (mc := 0) (ms := 0) (av := [jm_R _, jm_I _, jm_I _]) w_L_put l_L_17 d_L_number_16 rfl ⟨Nat.le_refl _, Nat.le_refl _⟩ (Nat.le_of_ble_eq_true rfl) rfl ?_
    refine jm_Cl.mono h (fun o m4 h hr _ => ?_)
    obtain ⟨r5, rfl⟩ := jm_rokI hr
    have h := h _ rfl
    refine jm_bipush (v := 48) d_L_number_19 rfl (jm_okI (by decide) (by decide)) ?_
    refine jm_iloadn d_L_number_21 rfl ?_
    refine jm_bipush (v := 10) d_L_number_22 rfl (jm_okI (by decide) (by decide)) ?_
    refine jm_irem d_L_number_24 (by decide) ?_
    refine jm_iadd d_L_number_25 ?_
    refine jm_invS (n1 := jm_N) (mc := 0) (ms := 0) (av := [jm_R _, jm_I _, jm_I _]) w_L_put l_L_17 d_L_number_26 rfl ⟨Nat.le_refl _, Nat.le_refl _⟩ (Nat.le_of_ble_eq_true rfl) rfl ?_
    refine jm_Cl.mono h (fun o m6 h hr _ => ?_)
    obtain ⟨r7, rfl⟩ := jm_rokI hr
    have h := h _ rfl
    refine jm_goto (tgt := 41) d_L_number_29 (by decide) ?_
    exact jm_ret (o := some (jm_I _)) d_L_number_41 rfl ⟨Nat.le_refl _, Nat.le_refl _⟩ jm_r_I h rfl
/-! ('CombTableLaw', 'more', '(LCombTable;[III)I') -/
theorem d_L_more_0 : decode m_L_more.2.1 0 = .ok (.iconst 0, 1) := by decide +kernel
theorem d_L_more_1 : decode m_L_more.2.1 1 = .ok (.istore 4, 2) := by decide +kernel
theorem d_L_more_3 : decode m_L_more.2.1 3 = .ok (.iconst 4, 1) := by decide +kernel
theorem d_L_more_4 : decode m_L_more.2.1 4 = .ok (.iload 4, 2) := by decide +kernel
theorem d_L_more_6 : decode m_L_more.2.1 6 = .ok (.imul, 1) := by decide +kernel
theorem d_L_more_7 : decode m_L_more.2.1 7 = .ok (.iload_n 2, 1) := by decide +kernel
theorem d_L_more_8 : decode m_L_more.2.1 8 = .ok (.if_icmp .ge 100, 3) := by decide +kernel
theorem d_L_more_11 : decode m_L_more.2.1 11 = .ok (.aload_n 0, 1) := by decide +kernel
theorem d_L_more_12 : decode m_L_more.2.1 12 = .ok (.aload_n 1, 1) := by decide +kernel
theorem d_L_more_13 : decode m_L_more.2.1 13 = .ok (.iload 4, 2) := by decide +kernel
theorem d_L_more_15 : decode m_L_more.2.1 15 = .ok (.iaload, 1) := by decide +kernel
theorem d_L_more_16 : decode m_L_more.2.1 16 = .ok (.iload 4, 2) := by decide +kernel
theorem d_L_more_18 : decode m_L_more.2.1 18 = .ok (.iconst 1, 1) := by decide +kernel
theorem d_L_more_19 : decode m_L_more.2.1 19 = .ok (.iadd, 1) := by decide +kernel
theorem d_L_more_20 : decode m_L_more.2.1 20 = .ok (.bipush 64, 2) := by decide +kernel
theorem d_L_more_22 : decode m_L_more.2.1 22 = .ok (.if_icmp .ge 12, 3) := by decide +kernel
theorem d_L_more_25 : decode m_L_more.2.1 25 = .ok (.aload_n 1, 1) := by decide +kernel
theorem d_L_more_26 : decode m_L_more.2.1 26 = .ok (.iload 4, 2) := by decide +kernel
theorem d_L_more_28 : decode m_L_more.2.1 28 = .ok (.iconst 1, 1) := by decide +kernel
theorem d_L_more_29 : decode m_L_more.2.1 29 = .ok (.iadd, 1) := by decide +kernel
theorem d_L_more_30 : decode m_L_more.2.1 30 = .ok (.iaload, 1) := by decide +kernel
theorem d_L_more_31 : decode m_L_more.2.1 31 = .ok (.goto 4, 3) := by decide +kernel
theorem d_L_more_34 : decode m_L_more.2.1 34 = .ok (.iconst 0, 1) := by decide +kernel
theorem d_L_more_35 : decode m_L_more.2.1 35 = .ok (.iload 4, 2) := by decide +kernel
theorem d_L_more_37 : decode m_L_more.2.1 37 = .ok (.iconst 2, 1) := by decide +kernel
theorem d_L_more_38 : decode m_L_more.2.1 38 = .ok (.iadd, 1) := by decide +kernel
theorem d_L_more_39 : decode m_L_more.2.1 39 = .ok (.bipush 64, 2) := by decide +kernel
theorem d_L_more_41 : decode m_L_more.2.1 41 = .ok (.if_icmp .ge 12, 3) := by decide +kernel
theorem d_L_more_44 : decode m_L_more.2.1 44 = .ok (.aload_n 1, 1) := by decide +kernel
theorem d_L_more_45 : decode m_L_more.2.1 45 = .ok (.iload 4, 2) := by decide +kernel
theorem d_L_more_47 : decode m_L_more.2.1 47 = .ok (.iconst 2, 1) := by decide +kernel
theorem d_L_more_48 : decode m_L_more.2.1 48 = .ok (.iadd, 1) := by decide +kernel
theorem d_L_more_49 : decode m_L_more.2.1 49 = .ok (.iaload, 1) := by decide +kernel
theorem d_L_more_50 : decode m_L_more.2.1 50 = .ok (.goto 4, 3) := by decide +kernel
theorem d_L_more_53 : decode m_L_more.2.1 53 = .ok (.iconst 0, 1) := by decide +kernel
theorem d_L_more_54 : decode m_L_more.2.1 54 = .ok (.iload 4, 2) := by decide +kernel
theorem d_L_more_56 : decode m_L_more.2.1 56 = .ok (.iconst 3, 1) := by decide +kernel
theorem d_L_more_57 : decode m_L_more.2.1 57 = .ok (.iadd, 1) := by decide +kernel
theorem d_L_more_58 : decode m_L_more.2.1 58 = .ok (.bipush 64, 2) := by decide +kernel
theorem d_L_more_60 : decode m_L_more.2.1 60 = .ok (.if_icmp .ge 12, 3) := by decide +kernel
theorem d_L_more_63 : decode m_L_more.2.1 63 = .ok (.aload_n 1, 1) := by decide +kernel
theorem d_L_more_64 : decode m_L_more.2.1 64 = .ok (.iload 4, 2) := by decide +kernel
theorem d_L_more_66 : decode m_L_more.2.1 66 = .ok (.iconst 3, 1) := by decide +kernel
theorem d_L_more_67 : decode m_L_more.2.1 67 = .ok (.iadd, 1) := by decide +kernel
theorem d_L_more_68 : decode m_L_more.2.1 68 = .ok (.iaload, 1) := by decide +kernel
theorem d_L_more_69 : decode m_L_more.2.1 69 = .ok (.goto 4, 3) := by decide +kernel
theorem d_L_more_72 : decode m_L_more.2.1 72 = .ok (.iconst 0, 1) := by decide +kernel
theorem d_L_more_73 : decode m_L_more.2.1 73 = .ok (.iload 4, 2) := by decide +kernel
theorem d_L_more_75 : decode m_L_more.2.1 75 = .ok (.iconst 4, 1) := by decide +kernel
theorem d_L_more_76 : decode m_L_more.2.1 76 = .ok (.iadd, 1) := by decide +kernel
theorem d_L_more_77 : decode m_L_more.2.1 77 = .ok (.bipush 64, 2) := by decide +kernel
theorem d_L_more_79 : decode m_L_more.2.1 79 = .ok (.if_icmp .ge 12, 3) := by decide +kernel
theorem d_L_more_82 : decode m_L_more.2.1 82 = .ok (.aload_n 1, 1) := by decide +kernel
theorem d_L_more_83 : decode m_L_more.2.1 83 = .ok (.iload 4, 2) := by decide +kernel
theorem d_L_more_85 : decode m_L_more.2.1 85 = .ok (.iconst 4, 1) := by decide +kernel
theorem d_L_more_86 : decode m_L_more.2.1 86 = .ok (.iadd, 1) := by decide +kernel
theorem d_L_more_87 : decode m_L_more.2.1 87 = .ok (.iaload, 1) := by decide +kernel
theorem d_L_more_88 : decode m_L_more.2.1 88 = .ok (.goto 4, 3) := by decide +kernel
theorem d_L_more_91 : decode m_L_more.2.1 91 = .ok (.iconst 0, 1) := by decide +kernel
theorem d_L_more_92 : decode m_L_more.2.1 92 = .ok (.invokevirtual 23, 3) := by decide +kernel
theorem d_L_more_95 : decode m_L_more.2.1 95 = .ok (.ifCond .ge 7, 3) := by decide +kernel
theorem d_L_more_98 : decode m_L_more.2.1 98 = .ok (.sipush (-3000), 3) := by decide +kernel
theorem d_L_more_101 : decode m_L_more.2.1 101 = .ok (.ireturn, 1) := by decide +kernel
theorem d_L_more_102 : decode m_L_more.2.1 102 = .ok (.iinc 4 5, 3) := by decide +kernel
theorem d_L_more_105 : decode m_L_more.2.1 105 = .ok (.goto (-102), 3) := by decide +kernel
theorem d_L_more_108 : decode m_L_more.2.1 108 = .ok (.aload_n 0, 1) := by decide +kernel
theorem d_L_more_109 : decode m_L_more.2.1 109 = .ok (.iload_n 3, 1) := by decide +kernel
theorem d_L_more_110 : decode m_L_more.2.1 110 = .ok (.iload_n 2, 1) := by decide +kernel
theorem d_L_more_111 : decode m_L_more.2.1 111 = .ok (.iadd, 1) := by decide +kernel
theorem d_L_more_112 : decode m_L_more.2.1 112 = .ok (.invokevirtual 29, 3) := by decide +kernel
theorem d_L_more_115 : decode m_L_more.2.1 115 = .ok (.ifCond .eq 9, 3) := by decide +kernel
theorem d_L_more_118 : decode m_L_more.2.1 118 = .ok (.iload_n 3, 1) := by decide +kernel
theorem d_L_more_119 : decode m_L_more.2.1 119 = .ok (.iload_n 2, 1) := by decide +kernel
theorem d_L_more_120 : decode m_L_more.2.1 120 = .ok (.iadd, 1) := by decide +kernel
theorem d_L_more_121 : decode m_L_more.2.1 121 = .ok (.goto 6, 3) := by decide +kernel
theorem d_L_more_124 : decode m_L_more.2.1 124 = .ok (.sipush (-3000), 3) := by decide +kernel
theorem d_L_more_127 : decode m_L_more.2.1 127 = .ok (.ireturn, 1) := by decide +kernel
set_option maxRecDepth 20000 in
theorem e_L_more {E : jm_E} {d : Nat} {μ : jm_M} {Q : Option jm_V → jm_M → Prop} {v2 v3 : Int} (h : (∀ v ∈ ([jm_R 0, jm_R 133, jm_I v2, jm_I v3] : List jm_V), jm_ok v) →
  jg E m_L_more d 3 [some (jm_R 0), some (jm_R 133), some (jm_I v2), some (jm_I v3), some (jm_I 0)] [] μ Q) : jc E m_L_more (d + 1) [jm_R 0, jm_R 133, jm_I v2, jm_I v3] μ Q := by
  refine jm_Cl.of2 (by decide +kernel) (L0 := [some (jm_R 0), some (jm_R 133), some (jm_I v2), some (jm_I v3), none]) rfl (Nat.le_of_ble_eq_true rfl) (fun hok => ?_)
  have h := h hok
  refine jm_iconst (v := 0) d_L_more_0 rfl (jm_okI (by decide) (by decide)) ?_
  refine jm_istore (L' := [some (jm_R _), some (jm_R _), some (jm_I _), some (jm_I _), some (jm_I _)]) d_L_more_1 (Nat.le_of_ble_eq_true rfl) rfl ?_
  exact h
set_option maxRecDepth 20000 in
theorem r_L_more_3 {E : jm_E} {d : Nat} {μ : jm_M} {Q : Option jm_V → jm_M → Prop} {v2 v3 v4 : Int} (h :
  ((v2 ≤ (jm_wr (4 * v4)) →
    jc E m_X10_end d [jm_R 0, jm_I (jm_wr (v3 + v2))] μ (fun (o : Option jm_V) (m2 : jm_M) => ∀ r3 : Int, o = some (jm_I r3) → (r3 = 0 ∨ r3 = 1) →
    ((r3 = 0 →
      Q (some (jm_I ((-3000)))) m2) ∧
     (¬ (r3 = 0) →
      Q (some (jm_I (jm_wr (v3 + v2)))) m2)))) ∧
   (¬ (v2 ≤ (jm_wr (4 * v4))) →
    (0 ≤ v4 ∧ v4 < 64) ∧
    ((64 ≤ (jm_wr (v4 + 1)) →
      ((64 ≤ (jm_wr (v4 + 2)) →
        ((64 ≤ (jm_wr (v4 + 3)) →
          ((64 ≤ (jm_wr (v4 + 4)) →
            jc E m_X10_feed d [jm_R 0, jm_I (μ 133 v4), jm_I 0, jm_I 0, jm_I 0, jm_I 0] μ (fun (o : Option jm_V) (m11 : jm_M) => ∀ r12 : Int, o = some (jm_I r12) →
            ((0 ≤ r12 →
              jg E m_L_more d 3 [some (jm_R 0), some (jm_R 133), some (jm_I v2), some (jm_I v3), some (jm_I (jm_wr (v4 + 5)))] [] m11 Q) ∧
             (¬ (0 ≤ r12) →
              Q (some (jm_I ((-3000)))) m11)))) ∧
           (¬ (64 ≤ (jm_wr (v4 + 4))) →
            (0 ≤ jm_wr (v4 + 4) ∧ jm_wr (v4 + 4) < 64) ∧
            jc E m_X10_feed d [jm_R 0, jm_I (μ 133 v4), jm_I 0, jm_I 0, jm_I 0, jm_I (μ 133 (jm_wr (v4 + 4)))] μ (fun (o : Option jm_V) (m15 : jm_M) => ∀ r16 : Int, o = some (jm_I r16) →
            ((0 ≤ r16 →
              jg E m_L_more d 3 [some (jm_R 0), some (jm_R 133), some (jm_I v2), some (jm_I v3), some (jm_I (jm_wr (v4 + 5)))] [] m15 Q) ∧
             (¬ (0 ≤ r16) →
              Q (some (jm_I ((-3000)))) m15)))))) ∧
         (¬ (64 ≤ (jm_wr (v4 + 3))) →
          (0 ≤ jm_wr (v4 + 3) ∧ jm_wr (v4 + 3) < 64) ∧
          ((64 ≤ (jm_wr (v4 + 4)) →
            jc E m_X10_feed d [jm_R 0, jm_I (μ 133 v4), jm_I 0, jm_I 0, jm_I (μ 133 (jm_wr (v4 + 3))), jm_I 0] μ (fun (o : Option jm_V) (m20 : jm_M) => ∀ r21 : Int, o = some (jm_I r21) →
            ((0 ≤ r21 →
              jg E m_L_more d 3 [some (jm_R 0), some (jm_R 133), some (jm_I v2), some (jm_I v3), some (jm_I (jm_wr (v4 + 5)))] [] m20 Q) ∧
             (¬ (0 ≤ r21) →
              Q (some (jm_I ((-3000)))) m20)))) ∧
           (¬ (64 ≤ (jm_wr (v4 + 4))) →
            (0 ≤ jm_wr (v4 + 4) ∧ jm_wr (v4 + 4) < 64) ∧
            jc E m_X10_feed d [jm_R 0, jm_I (μ 133 v4), jm_I 0, jm_I 0, jm_I (μ 133 (jm_wr (v4 + 3))), jm_I (μ 133 (jm_wr (v4 + 4)))] μ (fun (o : Option jm_V) (m24 : jm_M) => ∀ r25 : Int, o = some (jm_I r25) →
            ((0 ≤ r25 →
              jg E m_L_more d 3 [some (jm_R 0), some (jm_R 133), some (jm_I v2), some (jm_I v3), some (jm_I (jm_wr (v4 + 5)))] [] m24 Q) ∧
             (¬ (0 ≤ r25) →
              Q (some (jm_I ((-3000)))) m24)))))))) ∧
       (¬ (64 ≤ (jm_wr (v4 + 2))) →
        (0 ≤ jm_wr (v4 + 2) ∧ jm_wr (v4 + 2) < 64) ∧
        ((64 ≤ (jm_wr (v4 + 3)) →
          ((64 ≤ (jm_wr (v4 + 4)) →
            jc E m_X10_feed d [jm_R 0, jm_I (μ 133 v4), jm_I 0, jm_I (μ 133 (jm_wr (v4 + 2))), jm_I 0, jm_I 0] μ (fun (o : Option jm_V) (m30 : jm_M) => ∀ r31 : Int, o = some (jm_I r31) →
            ((0 ≤ r31 →
              jg E m_L_more d 3 [some (jm_R 0), some (jm_R 133), some (jm_I v2), some (jm_I v3), some (jm_I (jm_wr (v4 + 5)))] [] m30 Q) ∧
             (¬ (0 ≤ r31) →
              Q (some (jm_I ((-3000)))) m30)))) ∧
           (¬ (64 ≤ (jm_wr (v4 + 4))) →
            (0 ≤ jm_wr (v4 + 4) ∧ jm_wr (v4 + 4) < 64) ∧
            jc E m_X10_feed d [jm_R 0, jm_I (μ 133 v4), jm_I 0, jm_I (μ 133 (jm_wr (v4 + 2))), jm_I 0, jm_I (μ 133 (jm_wr (v4 + 4)))] μ (fun (o : Option jm_V) (m34 : jm_M) => ∀ r35 : Int, o = some (jm_I r35) →
            ((0 ≤ r35 →
              jg E m_L_more d 3 [some (jm_R 0), some (jm_R 133), some (jm_I v2), some (jm_I v3), some (jm_I (jm_wr (v4 + 5)))] [] m34 Q) ∧
             (¬ (0 ≤ r35) →
              Q (some (jm_I ((-3000)))) m34)))))) ∧
         (¬ (64 ≤ (jm_wr (v4 + 3))) →
          (0 ≤ jm_wr (v4 + 3) ∧ jm_wr (v4 + 3) < 64) ∧
          ((64 ≤ (jm_wr (v4 + 4)) →
            jc E m_X10_feed d [jm_R 0, jm_I (μ 133 v4), jm_I 0, jm_I (μ 133 (jm_wr (v4 + 2))), jm_I (μ 133 (jm_wr (v4 + 3))), jm_I 0] μ (fun (o : Option jm_V) (m39 : jm_M) => ∀ r40 : Int, o = some (jm_I r40) →
            ((0 ≤ r40 →
              jg E m_L_more d 3 [some (jm_R 0), some (jm_R 133), some (jm_I v2), some (jm_I v3), some (jm_I (jm_wr (v4 + 5)))] [] m39 Q) ∧
             (¬ (0 ≤ r40) →
              Q (some (jm_I ((-3000)))) m39)))) ∧
           (¬ (64 ≤ (jm_wr (v4 + 4))) →
            (0 ≤ jm_wr (v4 + 4) ∧ jm_wr (v4 + 4) < 64) ∧
            jc E m_X10_feed d [jm_R 0, jm_I (μ 133 v4), jm_I 0, jm_I (μ 133 (jm_wr (v4 + 2))), jm_I (μ 133 (jm_wr (v4 + 3))), jm_I (μ 133 (jm_wr (v4 + 4)))] μ (fun (o : Option jm_V) (m43 : jm_M) => ∀ r44 : Int, o = some (jm_I r44) →
            ((0 ≤ r44 →
              jg E m_L_more d 3 [some (jm_R 0), some (jm_R 133), some (jm_I v2), some (jm_I v3), some (jm_I (jm_wr (v4 + 5)))] [] m43 Q) ∧
             (¬ (0 ≤ r44) →
              Q (some (jm_I ((-3000)))) m43)))))))))) ∧
     (¬ (64 ≤ (jm_wr (v4 + 1))) →
      (0 ≤ jm_wr (v4 + 1) ∧ jm_wr (v4 + 1) < 64) ∧
      ((64 ≤ (jm_wr (v4 + 2)) →
        ((64 ≤ (jm_wr (v4 + 3)) →
          ((64 ≤ (jm_wr (v4 + 4)) →
            jc E m_X10_feed d [jm_R 0, jm_I (μ 133 v4), jm_I (μ 133 (jm_wr (v4 + 1))), jm_I 0, jm_I 0, jm_I 0] μ (fun (o : Option jm_V) (m50 : jm_M) => ∀ r51 : Int, o = some (jm_I r51) →
            ((0 ≤ r51 →
              jg E m_L_more d 3 [some (jm_R 0), some (jm_R 133), some (jm_I v2), some (jm_I v3), some (jm_I (jm_wr (v4 + 5)))] [] m50 Q) ∧
             (¬ (0 ≤ r51) →
              Q (some (jm_I ((-3000)))) m50)))) ∧
           (¬ (64 ≤ (jm_wr (v4 + 4))) →
            (0 ≤ jm_wr (v4 + 4) ∧ jm_wr (v4 + 4) < 64) ∧
            jc E m_X10_feed d [jm_R 0, jm_I (μ 133 v4), jm_I (μ 133 (jm_wr (v4 + 1))), jm_I 0, jm_I 0, jm_I (μ 133 (jm_wr (v4 + 4)))] μ (fun (o : Option jm_V) (m54 : jm_M) => ∀ r55 : Int, o = some (jm_I r55) →
            ((0 ≤ r55 →
              jg E m_L_more d 3 [some (jm_R 0), some (jm_R 133), some (jm_I v2), some (jm_I v3), some (jm_I (jm_wr (v4 + 5)))] [] m54 Q) ∧
             (¬ (0 ≤ r55) →
              Q (some (jm_I ((-3000)))) m54)))))) ∧
         (¬ (64 ≤ (jm_wr (v4 + 3))) →
          (0 ≤ jm_wr (v4 + 3) ∧ jm_wr (v4 + 3) < 64) ∧
          ((64 ≤ (jm_wr (v4 + 4)) →
            jc E m_X10_feed d [jm_R 0, jm_I (μ 133 v4), jm_I (μ 133 (jm_wr (v4 + 1))), jm_I 0, jm_I (μ 133 (jm_wr (v4 + 3))), jm_I 0] μ (fun (o : Option jm_V) (m59 : jm_M) => ∀ r60 : Int, o = some (jm_I r60) →
            ((0 ≤ r60 →
              jg E m_L_more d 3 [some (jm_R 0), some (jm_R 133), some (jm_I v2), some (jm_I v3), some (jm_I (jm_wr (v4 + 5)))] [] m59 Q) ∧
             (¬ (0 ≤ r60) →
              Q (some (jm_I ((-3000)))) m59)))) ∧
           (¬ (64 ≤ (jm_wr (v4 + 4))) →
            (0 ≤ jm_wr (v4 + 4) ∧ jm_wr (v4 + 4) < 64) ∧
            jc E m_X10_feed d [jm_R 0, jm_I (μ 133 v4), jm_I (μ 133 (jm_wr (v4 + 1))), jm_I 0, jm_I (μ 133 (jm_wr (v4 + 3))), jm_I (μ 133 (jm_wr (v4 + 4)))] μ (fun (o : Option jm_V) (m63 : jm_M) => ∀ r64 : Int, o = some (jm_I r64) →
            ((0 ≤ r64 →
              jg E m_L_more d 3 [some (jm_R 0), some (jm_R 133), some (jm_I v2), some (jm_I v3), some (jm_I (jm_wr (v4 + 5)))] [] m63 Q) ∧
             (¬ (0 ≤ r64) →
              Q (some (jm_I ((-3000)))) m63)))))))) ∧
       (¬ (64 ≤ (jm_wr (v4 + 2))) →
        (0 ≤ jm_wr (v4 + 2) ∧ jm_wr (v4 + 2) < 64) ∧
        ((64 ≤ (jm_wr (v4 + 3)) →
          ((64 ≤ (jm_wr (v4 + 4)) →
            jc E m_X10_feed d [jm_R 0, jm_I (μ 133 v4), jm_I (μ 133 (jm_wr (v4 + 1))), jm_I (μ 133 (jm_wr (v4 + 2))), jm_I 0, jm_I 0] μ (fun (o : Option jm_V) (m69 : jm_M) => ∀ r70 : Int, o = some (jm_I r70) →
            ((0 ≤ r70 →
              jg E m_L_more d 3 [some (jm_R 0), some (jm_R 133), some (jm_I v2), some (jm_I v3), some (jm_I (jm_wr (v4 + 5)))] [] m69 Q) ∧
             (¬ (0 ≤ r70) →
              Q (some (jm_I ((-3000)))) m69)))) ∧
           (¬ (64 ≤ (jm_wr (v4 + 4))) →
            (0 ≤ jm_wr (v4 + 4) ∧ jm_wr (v4 + 4) < 64) ∧
            jc E m_X10_feed d [jm_R 0, jm_I (μ 133 v4), jm_I (μ 133 (jm_wr (v4 + 1))), jm_I (μ 133 (jm_wr (v4 + 2))), jm_I 0, jm_I (μ 133 (jm_wr (v4 + 4)))] μ (fun (o : Option jm_V) (m73 : jm_M) => ∀ r74 : Int, o = some (jm_I r74) →
            ((0 ≤ r74 →
              jg E m_L_more d 3 [some (jm_R 0), some (jm_R 133), some (jm_I v2), some (jm_I v3), some (jm_I (jm_wr (v4 + 5)))] [] m73 Q) ∧
             (¬ (0 ≤ r74) →
              Q (some (jm_I ((-3000)))) m73)))))) ∧
         (¬ (64 ≤ (jm_wr (v4 + 3))) →
          (0 ≤ jm_wr (v4 + 3) ∧ jm_wr (v4 + 3) < 64) ∧
          ((64 ≤ (jm_wr (v4 + 4)) →
            jc E m_X10_feed d [jm_R 0, jm_I (μ 133 v4), jm_I (μ 133 (jm_wr (v4 + 1))), jm_I (μ 133 (jm_wr (v4 + 2))), jm_I (μ 133 (jm_wr (v4 + 3))), jm_I 0] μ (fun (o : Option jm_V) (m78 : jm_M) => ∀ r79 : Int, o = some (jm_I r79) →
            ((0 ≤ r79 →
              jg E m_L_more d 3 [some (jm_R 0), some (jm_R 133), some (jm_I v2), some (jm_I v3), some (jm_I (jm_wr (v4 + 5)))] [] m78 Q) ∧
             (¬ (0 ≤ r79) →
              Q (some (jm_I ((-3000)))) m78)))) ∧
           (¬ (64 ≤ (jm_wr (v4 + 4))) →
            (0 ≤ jm_wr (v4 + 4) ∧ jm_wr (v4 + 4) < 64) ∧
            jc E m_X10_feed d [jm_R 0, jm_I (μ 133 v4), jm_I (μ 133 (jm_wr (v4 + 1))), jm_I (μ 133 (jm_wr (v4 + 2))), jm_I (μ 133 (jm_wr (v4 + 3))), jm_I (μ 133 (jm_wr (v4 + 4)))] μ (fun (o : Option jm_V) (m82 : jm_M) => ∀ r83 : Int, o = some (jm_I r83) →
            ((0 ≤ r83 →
              jg E m_L_more d 3 [some (jm_R 0), some (jm_R 133), some (jm_I v2), some (jm_I v3), some (jm_I (jm_wr (v4 + 5)))] [] m82 Q) ∧
             (¬ (0 ≤ r83) →
              Q (some (jm_I ((-3000)))) m82)))))))))))))) : jg E m_L_more d 3 [some (jm_R 0), some (jm_R 133), some (jm_I v2), some (jm_I v3), some (jm_I v4)] [] μ Q := by
  refine jm_iconst (v := 4) d_L_more_3 rfl (jm_okI (by decide) (by decide)) ?_
  refine jm_iload d_L_more_4 rfl ?_
  refine jm_imul d_L_more_6 ?_
  refine jm_iloadn d_L_more_7 rfl ?_
  refine jm_icmp_ge (tgt := 108) d_L_more_8 (by decide) (fun c1 => ?_) (fun c1 => ?_)
  · have h := h.1 c1
    refine jm_aloadn d_L_more_108 rfl ?_
    refine jm_iloadn d_L_more_109 rfl ?_
    refine jm_iloadn d_L_more_110 rfl ?_
    refine jm_iadd d_L_more_111 ?_
    refine jm_invV (n1 := jm_N) (mc := 0) (ms := 0) (av := [jm_I _]) w_X10_end l_L_29 d_L_more_112 rfl is_0 ⟨_, _, rfl⟩ ⟨Nat.le_refl _, Nat.le_refl _⟩ (Nat.le_of_ble_eq_true rfl) rfl ?_
    refine jm_Cl.mono h (fun o m2 h hr _ => ?_)
    obtain ⟨r3, rfl, z4⟩ := jm_rokZ hr
    have h := h _ rfl z4
    refine jm_if_eq (tgt := 124) d_L_more_115 (by decide) (fun c5 => ?_) (fun c5 => ?_)
    · have h := h.1 c5
      refine jm_sipush (v := (-3000)) d_L_more_124 rfl (jm_okI (by decide) (by decide)) ?_
      exact jm_ret (o := some (jm_I _)) d_L_more_127 rfl ⟨Nat.le_refl _, Nat.le_refl _⟩ jm_r_I h rfl
    · have h := h.2 c5
      refine jm_iloadn d_L_more_118 rfl ?_
      refine jm_iloadn d_L_more_119 rfl ?_
      refine jm_iadd d_L_more_120 ?_
      refine jm_goto (tgt := 127) d_L_more_121 (by decide) ?_
      exact jm_ret (o := some (jm_I _)) d_L_more_127 rfl ⟨Nat.le_refl _, Nat.le_refl _⟩ jm_r_I h rfl
  · have h := h.2 c1
    refine jm_aloadn d_L_more_11 rfl ?_
    refine jm_aloadn d_L_more_12 rfl ?_
    refine jm_iload d_L_more_13 rfl ?_
    obtain ⟨f6, h⟩ := h
    refine jm_iaload d_L_more_15 (ixl_133 f6.1 f6.2) ?_
    refine jm_iload d_L_more_16 rfl ?_
    refine jm_iconst (v := 1) d_L_more_18 rfl (jm_okI (by decide) (by decide)) ?_
    refine jm_iadd d_L_more_19 ?_
    refine jm_bipush (v := 64) d_L_more_20 rfl (jm_okI (by decide) (by decide)) ?_
    refine jm_icmp_ge (tgt := 34) d_L_more_22 (by decide) (fun c7 => ?_) (fun c7 => ?_)
    · have h := h.1 c7
      refine jm_iconst (v := 0) d_L_more_34 rfl (jm_okI (by decide) (by decide)) ?_
      refine jm_iload d_L_more_35 rfl ?_
      refine jm_iconst (v := 2) d_L_more_37 rfl (jm_okI (by decide) (by decide)) ?_
      refine jm_iadd d_L_more_38 ?_
      refine jm_bipush (v := 64) d_L_more_39 rfl (jm_okI (by decide) (by decide)) ?_
      refine jm_icmp_ge (tgt := 53) d_L_more_41 (by decide) (fun c8 => ?_) (fun c8 => ?_)
      · have h := h.1 c8
        refine jm_iconst (v := 0) d_L_more_53 rfl (jm_okI (by decide) (by decide)) ?_
        refine jm_iload d_L_more_54 rfl ?_
        refine jm_iconst (v := 3) d_L_more_56 rfl (jm_okI (by decide) (by decide)) ?_
        refine jm_iadd d_L_more_57 ?_
        refine jm_bipush (v := 64) d_L_more_58 rfl (jm_okI (by decide) (by decide)) ?_
        refine jm_icmp_ge (tgt := 72) d_L_more_60 (by decide) (fun c9 => ?_) (fun c9 => ?_)
        · have h := h.1 c9
          refine jm_iconst (v := 0) d_L_more_72 rfl (jm_okI (by decide) (by decide)) ?_
          refine jm_iload d_L_more_73 rfl ?_
          refine jm_iconst (v := 4) d_L_more_75 rfl (jm_okI (by decide) (by decide)) ?_
          refine jm_iadd d_L_more_76 ?_
          refine jm_bipush (v := 64) d_L_more_77 rfl (jm_okI (by decide) (by decide)) ?_
          refine jm_icmp_ge (tgt := 91) d_L_more_79 (by decide) (fun c10 => ?_) (fun c10 => ?_)
          · have h := h.1 c10
            refine jm_iconst (v := 0) d_L_more_91 rfl (jm_okI (by decide) (by decide)) ?_
            refine jm_invV (n1 := jm_N) (mc := 0) (ms := 0) (av := [jm_I _, jm_I _, jm_I _, jm_I _, jm_I _]) w_X10_feed l_L_23 d_L_more_92 rfl is_0 ⟨_, _, rfl⟩ ⟨Nat.le_refl _, Nat.le_refl _⟩ (Nat.le_of_ble_eq_true rfl) rfl ?_
            refine jm_Cl.mono h (fun o m11 h hr _ => ?_)
            obtain ⟨r12, rfl⟩ := jm_rokI hr
            have h := h _ rfl
            refine jm_if_ge (tgt := 102) d_L_more_95 (by decide) (fun c13 => ?_) (fun c13 => ?_)
            · have h := h.1 c13
              refine jm_iinc (L' := [some (jm_R _), some (jm_R _), some (jm_I _), some (jm_I _), some (jm_I _)]) d_L_more_102 rfl rfl (Nat.le_of_ble_eq_true rfl) rfl ?_
              refine jm_goto (tgt := 3) d_L_more_105 (by decide) ?_
              exact h
            · have h := h.2 c13
              refine jm_sipush (v := (-3000)) d_L_more_98 rfl (jm_okI (by decide) (by decide)) ?_
              exact jm_ret (o := some (jm_I _)) d_L_more_101 rfl ⟨Nat.le_refl _, Nat.le_refl _⟩ jm_r_I h rfl
          · have h := h.2 c10
            refine jm_aloadn d_L_more_82 rfl ?_
            refine jm_iload d_L_more_83 rfl ?_
            refine jm_iconst (v := 4) d_L_more_85 rfl (jm_okI (by decide) (by decide)) ?_
            refine jm_iadd d_L_more_86 ?_
            obtain ⟨f14, h⟩ := h
            refine jm_iaload d_L_more_87 (ixl_133 f14.1 f14.2) ?_
            refine jm_goto (tgt := 92) d_L_more_88 (by decide) ?_
            refine jm_invV (n1 := jm_N) (mc := 0) (ms := 0) (av := [jm_I _, jm_I _, jm_I _, jm_I _, jm_I _]) w_X10_feed l_L_23 d_L_more_92 rfl is_0 ⟨_, _, rfl⟩ ⟨Nat.le_refl _, Nat.le_refl _⟩ (Nat.le_of_ble_eq_true rfl) rfl ?_
            refine jm_Cl.mono h (fun o m15 h hr _ => ?_)
            obtain ⟨r16, rfl⟩ := jm_rokI hr
            have h := h _ rfl
            refine jm_if_ge (tgt := 102) d_L_more_95 (by decide) (fun c17 => ?_) (fun c17 => ?_)
            · have h := h.1 c17
              refine jm_iinc (L' := [some (jm_R _), some (jm_R _), some (jm_I _), some (jm_I _), some (jm_I _)]) d_L_more_102 rfl rfl (Nat.le_of_ble_eq_true rfl) rfl ?_
              refine jm_goto (tgt := 3) d_L_more_105 (by decide) ?_
              exact h
            · have h := h.2 c17
              refine jm_sipush (v := (-3000)) d_L_more_98 rfl (jm_okI (by decide) (by decide)) ?_
              exact jm_ret (o := some (jm_I _)) d_L_more_101 rfl ⟨Nat.le_refl _, Nat.le_refl _⟩ jm_r_I h rfl
        · have h := h.2 c9
          refine jm_aloadn d_L_more_63 rfl ?_
          refine jm_iload d_L_more_64 rfl ?_
          refine jm_iconst (v := 3) d_L_more_66 rfl (jm_okI (by decide) (by decide)) ?_
          refine jm_iadd d_L_more_67 ?_
          obtain ⟨f18, h⟩ := h
          refine jm_iaload d_L_more_68 (ixl_133 f18.1 f18.2) ?_
          refine jm_goto (tgt := 73) d_L_more_69 (by decide) ?_
          refine jm_iload d_L_more_73 rfl ?_
          refine jm_iconst (v := 4) d_L_more_75 rfl (jm_okI (by decide) (by decide)) ?_
          refine jm_iadd d_L_more_76 ?_
          refine jm_bipush (v := 64) d_L_more_77 rfl (jm_okI (by decide) (by decide)) ?_
          refine jm_icmp_ge (tgt := 91) d_L_more_79 (by decide) (fun c19 => ?_) (fun c19 => ?_)
          · have h := h.1 c19
            refine jm_iconst (v := 0) d_L_more_91 rfl (jm_okI (by decide) (by decide)) ?_
            refine jm_invV (n1 := jm_N) (mc := 0) (ms := 0) (av := [jm_I _, jm_I _, jm_I _, jm_I _, jm_I _]) w_X10_feed l_L_23 d_L_more_92 rfl is_0 ⟨_, _, rfl⟩ ⟨Nat.le_refl _, Nat.le_refl _⟩ (Nat.le_of_ble_eq_true rfl) rfl ?_
            refine jm_Cl.mono h (fun o m20 h hr _ => ?_)
            obtain ⟨r21, rfl⟩ := jm_rokI hr
            have h := h _ rfl
            refine jm_if_ge (tgt := 102) d_L_more_95 (by decide) (fun c22 => ?_) (fun c22 => ?_)
            · have h := h.1 c22
              refine jm_iinc (L' := [some (jm_R _), some (jm_R _), some (jm_I _), some (jm_I _), some (jm_I _)]) d_L_more_102 rfl rfl (Nat.le_of_ble_eq_true rfl) rfl ?_
              refine jm_goto (tgt := 3) d_L_more_105 (by decide) ?_
              exact h
            · have h := h.2 c22
              refine jm_sipush (v := (-3000)) d_L_more_98 rfl (jm_okI (by decide) (by decide)) ?_
              exact jm_ret (o := some (jm_I _)) d_L_more_101 rfl ⟨Nat.le_refl _, Nat.le_refl _⟩ jm_r_I h rfl
          · have h := h.2 c19
            refine jm_aloadn d_L_more_82 rfl ?_
            refine jm_iload d_L_more_83 rfl ?_
            refine jm_iconst (v := 4) d_L_more_85 rfl (jm_okI (by decide) (by decide)) ?_
            refine jm_iadd d_L_more_86 ?_
            obtain ⟨f23, h⟩ := h
            refine jm_iaload d_L_more_87 (ixl_133 f23.1 f23.2) ?_
            refine jm_goto (tgt := 92) d_L_more_88 (by decide) ?_
            refine jm_invV (n1 := jm_N) (mc := 0) (ms := 0) (av := [jm_I _, jm_I _, jm_I _, jm_I _, jm_I _]) w_X10_feed l_L_23 d_L_more_92 rfl is_0 ⟨_, _, rfl⟩ ⟨Nat.le_refl _, Nat.le_refl _⟩ (Nat.le_of_ble_eq_true rfl) rfl ?_
            refine jm_Cl.mono h (fun o m24 h hr _ => ?_)
            obtain ⟨r25, rfl⟩ := jm_rokI hr
            have h := h _ rfl
            refine jm_if_ge (tgt := 102) d_L_more_95 (by decide) (fun c26 => ?_) (fun c26 => ?_)
            · have h := h.1 c26
              refine jm_iinc (L' := [some (jm_R _), some (jm_R _), some (jm_I _), some (jm_I _), some (jm_I _)]) d_L_more_102 rfl rfl (Nat.le_of_ble_eq_true rfl) rfl ?_
              refine jm_goto (tgt := 3) d_L_more_105 (by decide) ?_
              exact h
            · have h := h.2 c26
              refine jm_sipush (v := (-3000)) d_L_more_98 rfl (jm_okI (by decide) (by decide)) ?_
              exact jm_ret (o := some (jm_I _)) d_L_more_101 rfl ⟨Nat.le_refl _, Nat.le_refl _⟩ jm_r_I h rfl
      · have h := h.2 c8
        refine jm_aloadn d_L_more_44 rfl ?_
        refine jm_iload d_L_more_45 rfl ?_
        refine jm_iconst (v := 2) d_L_more_47 rfl (jm_okI (by decide) (by decide)) ?_
        refine jm_iadd d_L_more_48 ?_
        obtain ⟨f27, h⟩ := h
        refine jm_iaload d_L_more_49 (ixl_133 f27.1 f27.2) ?_
        refine jm_goto (tgt := 54) d_L_more_50 (by decide) ?_
        refine jm_iload d_L_more_54 rfl ?_
        refine jm_iconst (v := 3) d_L_more_56 rfl (jm_okI (by decide) (by decide)) ?_
        refine jm_iadd d_L_more_57 ?_
        refine jm_bipush (v := 64) d_L_more_58 rfl (jm_okI (by decide) (by decide)) ?_
        refine jm_icmp_ge (tgt := 72) d_L_more_60 (by decide) (fun c28 => ?_) (fun c28 => ?_)
        · have h := h.1 c28
          refine jm_iconst (v := 0) d_L_more_72 rfl (jm_okI (by decide) (by decide)) ?_
          refine jm_iload d_L_more_73 rfl ?_
          refine jm_iconst (v := 4) d_L_more_75 rfl (jm_okI (by decide) (by decide)) ?_
          refine jm_iadd d_L_more_76 ?_
          refine jm_bipush (v := 64) d_L_more_77 rfl (jm_okI (by decide) (by decide)) ?_
          refine jm_icmp_ge (tgt := 91) d_L_more_79 (by decide) (fun c29 => ?_) (fun c29 => ?_)
          · have h := h.1 c29
            refine jm_iconst (v := 0) d_L_more_91 rfl (jm_okI (by decide) (by decide)) ?_
            refine jm_invV (n1 := jm_N) (mc := 0) (ms := 0) (av := [jm_I _, jm_I _, jm_I _, jm_I _, jm_I _]) w_X10_feed l_L_23 d_L_more_92 rfl is_0 ⟨_, _, rfl⟩ ⟨Nat.le_refl _, Nat.le_refl _⟩ (Nat.le_of_ble_eq_true rfl) rfl ?_
            refine jm_Cl.mono h (fun o m30 h hr _ => ?_)
            obtain ⟨r31, rfl⟩ := jm_rokI hr
            have h := h _ rfl
            refine jm_if_ge (tgt := 102) d_L_more_95 (by decide) (fun c32 => ?_) (fun c32 => ?_)
            · have h := h.1 c32
              refine jm_iinc (L' := [some (jm_R _), some (jm_R _), some (jm_I _), some (jm_I _), some (jm_I _)]) d_L_more_102 rfl rfl (Nat.le_of_ble_eq_true rfl) rfl ?_
              refine jm_goto (tgt := 3) d_L_more_105 (by decide) ?_
              exact h
            · have h := h.2 c32
              refine jm_sipush (v := (-3000)) d_L_more_98 rfl (jm_okI (by decide) (by decide)) ?_
              exact jm_ret (o := some (jm_I _)) d_L_more_101 rfl ⟨Nat.le_refl _, Nat.le_refl _⟩ jm_r_I h rfl
          · have h := h.2 c29
            refine jm_aloadn d_L_more_82 rfl ?_
            refine jm_iload d_L_more_83 rfl ?_
            refine jm_iconst (v := 4) d_L_more_85 rfl (jm_okI (by decide) (by decide)) ?_
            refine jm_iadd d_L_more_86 ?_
            obtain ⟨f33, h⟩ := h
            refine jm_iaload d_L_more_87 (ixl_133 f33.1 f33.2) ?_
            refine jm_goto (tgt := 92) d_L_more_88 (by decide) ?_
            refine jm_invV (n1 := jm_N) (mc := 0) (ms := 0) (av := [jm_I _, jm_I _, jm_I _, jm_I _, jm_I _]) w_X10_feed l_L_23 d_L_more_92 rfl is_0 ⟨_, _, rfl⟩ ⟨Nat.le_refl _, Nat.le_refl _⟩ (Nat.le_of_ble_eq_true rfl) rfl ?_
            refine jm_Cl.mono h (fun o m34 h hr _ => ?_)
            obtain ⟨r35, rfl⟩ := jm_rokI hr
            have h := h _ rfl
            refine jm_if_ge (tgt := 102) d_L_more_95 (by decide) (fun c36 => ?_) (fun c36 => ?_)
            · have h := h.1 c36
              refine jm_iinc (L' := [some (jm_R _), some (jm_R _), some (jm_I _), some (jm_I _), some (jm_I _)]) d_L_more_102 rfl rfl (Nat.le_of_ble_eq_true rfl) rfl ?_
              refine jm_goto (tgt := 3) d_L_more_105 (by decide) ?_
              exact h
            · have h := h.2 c36
              refine jm_sipush (v := (-3000)) d_L_more_98 rfl (jm_okI (by decide) (by decide)) ?_
              exact jm_ret (o := some (jm_I _)) d_L_more_101 rfl ⟨Nat.le_refl _, Nat.le_refl _⟩ jm_r_I h rfl
        · have h := h.2 c28
          refine jm_aloadn d_L_more_63 rfl ?_
          refine jm_iload d_L_more_64 rfl ?_
          refine jm_iconst (v := 3) d_L_more_66 rfl (jm_okI (by decide) (by decide)) ?_
          refine jm_iadd d_L_more_67 ?_
          obtain ⟨f37, h⟩ := h
          refine jm_iaload d_L_more_68 (ixl_133 f37.1 f37.2) ?_
          refine jm_goto (tgt := 73) d_L_more_69 (by decide) ?_
          refine jm_iload d_L_more_73 rfl ?_
          refine jm_iconst (v := 4) d_L_more_75 rfl (jm_okI (by decide) (by decide)) ?_
          refine jm_iadd d_L_more_76 ?_
          refine jm_bipush (v := 64) d_L_more_77 rfl (jm_okI (by decide) (by decide)) ?_
          refine jm_icmp_ge (tgt := 91) d_L_more_79 (by decide) (fun c38 => ?_) (fun c38 => ?_)
          · have h := h.1 c38
            refine jm_iconst (v := 0) d_L_more_91 rfl (jm_okI (by decide) (by decide)) ?_
            refine jm_invV (n1 := jm_N) (mc := 0) (ms := 0) (av := [jm_I _, jm_I _, jm_I _, jm_I _, jm_I _]) w_X10_feed l_L_23 d_L_more_92 rfl is_0 ⟨_, _, rfl⟩ ⟨Nat.le_refl _, Nat.le_refl _⟩ (Nat.le_of_ble_eq_true rfl) rfl ?_
            refine jm_Cl.mono h (fun o m39 h hr _ => ?_)
            obtain ⟨r40, rfl⟩ := jm_rokI hr
            have h := h _ rfl
            refine jm_if_ge (tgt := 102) d_L_more_95 (by decide) (fun c41 => ?_) (fun c41 => ?_)
            · have h := h.1 c41
              refine jm_iinc (L' := [some (jm_R _), some (jm_R _), some (jm_I _), some (jm_I _), some (jm_I _)]) d_L_more_102 rfl rfl (Nat.le_of_ble_eq_true rfl) rfl ?_
              refine jm_goto (tgt := 3) d_L_more_105 (by decide) ?_
              exact h
            · have h := h.2 c41
              refine jm_sipush (v := (-3000)) d_L_more_98 rfl (jm_okI (by decide) (by decide)) ?_
              exact jm_ret (o := some (jm_I _)) d_L_more_101 rfl ⟨Nat.le_refl _, Nat.le_refl _⟩ jm_r_I h rfl
          · have h := h.2 c38
            refine jm_aloadn d_L_more_82 rfl ?_
            refine jm_iload d_L_more_83 rfl ?_
            refine jm_iconst (v := 4) d_L_more_85 rfl (jm_okI (by decide) (by decide)) ?_
            refine jm_iadd d_L_more_86 ?_
            obtain ⟨f42, h⟩ := h
            refine jm_iaload d_L_more_87 (ixl_133 f42.1 f42.2) ?_
            refine jm_goto (tgt := 92) d_L_more_88 (by decide) ?_
            refine jm_invV (n1 := jm_N) (mc := 0) (ms := 0) (av := [jm_I _, jm_I _, jm_I _, jm_I _, jm_I _]) w_X10_feed l_L_23 d_L_more_92 rfl is_0 ⟨_, _, rfl⟩ ⟨Nat.le_refl _, Nat.le_refl _⟩ (Nat.le_of_ble_eq_true rfl) rfl ?_
            refine jm_Cl.mono h (fun o m43 h hr _ => ?_)
            obtain ⟨r44, rfl⟩ := jm_rokI hr
            have h := h _ rfl
            refine jm_if_ge (tgt := 102) d_L_more_95 (by decide) (fun c45 => ?_) (fun c45 => ?_)
            · have h := h.1 c45
              refine jm_iinc (L' := [some (jm_R _), some (jm_R _), some (jm_I _), some (jm_I _), some (jm_I _)]) d_L_more_102 rfl rfl (Nat.le_of_ble_eq_true rfl) rfl ?_
              refine jm_goto (tgt := 3) d_L_more_105 (by decide) ?_
              exact h
            · have h := h.2 c45
              refine jm_sipush (v := (-3000)) d_L_more_98 rfl (jm_okI (by decide) (by decide)) ?_
              exact jm_ret (o := some (jm_I _)) d_L_more_101 rfl ⟨Nat.le_refl _, Nat.le_refl _⟩ jm_r_I h rfl
    · have h := h.2 c7
      refine jm_aloadn d_L_more_25 rfl ?_
      refine jm_iload d_L_more_26 rfl ?_
      refine jm_iconst (v := 1) d_L_more_28 rfl (jm_okI (by decide) (by decide)) ?_
      refine jm_iadd d_L_more_29 ?_
      obtain ⟨f46, h⟩ := h
      refine jm_iaload d_L_more_30 (ixl_133 f46.1 f46.2) ?_
      refine jm_goto (tgt := 35) d_L_more_31 (by decide) ?_
      refine jm_iload d_L_more_35 rfl ?_
      refine jm_iconst (v := 2) d_L_more_37 rfl (jm_okI (by decide) (by decide)) ?_
      refine jm_iadd d_L_more_38 ?_
      refine jm_bipush (v := 64) d_L_more_39 rfl (jm_okI (by decide) (by decide)) ?_
      refine jm_icmp_ge (tgt := 53) d_L_more_41 (by decide) (fun c47 => ?_) (fun c47 => ?_)
      · have h := h.1 c47
        refine jm_iconst (v := 0) d_L_more_53 rfl (jm_okI (by decide) (by decide)) ?_
        refine jm_iload d_L_more_54 rfl ?_
        refine jm_iconst (v := 3) d_L_more_56 rfl (jm_okI (by decide) (by decide)) ?_
        refine jm_iadd d_L_more_57 ?_
        refine jm_bipush (v := 64) d_L_more_58 rfl (jm_okI (by decide) (by decide)) ?_
        refine jm_icmp_ge (tgt := 72) d_L_more_60 (by decide) (fun c48 => ?_) (fun c48 => ?_)
        · have h := h.1 c48
          refine jm_iconst (v := 0) d_L_more_72 rfl (jm_okI (by decide) (by decide)) ?_
          refine jm_iload d_L_more_73 rfl ?_
          refine jm_iconst (v := 4) d_L_more_75 rfl (jm_okI (by decide) (by decide)) ?_
          refine jm_iadd d_L_more_76 ?_
          refine jm_bipush (v := 64) d_L_more_77 rfl (jm_okI (by decide) (by decide)) ?_
          refine jm_icmp_ge (tgt := 91) d_L_more_79 (by decide) (fun c49 => ?_) (fun c49 => ?_)
          · have h := h.1 c49
            refine jm_iconst (v := 0) d_L_more_91 rfl (jm_okI (by decide) (by decide)) ?_
            refine jm_invV (n1 := jm_N) (mc := 0) (ms := 0) (av := [jm_I _, jm_I _, jm_I _, jm_I _, jm_I _]) w_X10_feed l_L_23 d_L_more_92 rfl is_0 ⟨_, _, rfl⟩ ⟨Nat.le_refl _, Nat.le_refl _⟩ (Nat.le_of_ble_eq_true rfl) rfl ?_
            refine jm_Cl.mono h (fun o m50 h hr _ => ?_)
            obtain ⟨r51, rfl⟩ := jm_rokI hr
            have h := h _ rfl
            refine jm_if_ge (tgt := 102) d_L_more_95 (by decide) (fun c52 => ?_) (fun c52 => ?_)
            · have h := h.1 c52
              refine jm_iinc (L' := [some (jm_R _), some (jm_R _), some (jm_I _), some (jm_I _), some (jm_I _)]) d_L_more_102 rfl rfl (Nat.le_of_ble_eq_true rfl) rfl ?_
              refine jm_goto (tgt := 3) d_L_more_105 (by decide) ?_
              exact h
            · have h := h.2 c52
              refine jm_sipush (v := (-3000)) d_L_more_98 rfl (jm_okI (by decide) (by decide)) ?_
              exact jm_ret (o := some (jm_I _)) d_L_more_101 rfl ⟨Nat.le_refl _, Nat.le_refl _⟩ jm_r_I h rfl
          · have h := h.2 c49
            refine jm_aloadn d_L_more_82 rfl ?_
            refine jm_iload d_L_more_83 rfl ?_
            refine jm_iconst (v := 4) d_L_more_85 rfl (jm_okI (by decide) (by decide)) ?_
            refine jm_iadd d_L_more_86 ?_
            obtain ⟨f53, h⟩ := h
            refine jm_iaload d_L_more_87 (ixl_133 f53.1 f53.2) ?_
            refine jm_goto (tgt := 92) d_L_more_88 (by decide) ?_
            refine jm_invV (n1 := jm_N) (mc := 0) (ms := 0) (av := [jm_I _, jm_I _, jm_I _, jm_I _, jm_I _]) w_X10_feed l_L_23 d_L_more_92 rfl is_0 ⟨_, _, rfl⟩ ⟨Nat.le_refl _, Nat.le_refl _⟩ (Nat.le_of_ble_eq_true rfl) rfl ?_
            refine jm_Cl.mono h (fun o m54 h hr _ => ?_)
            obtain ⟨r55, rfl⟩ := jm_rokI hr
            have h := h _ rfl
            refine jm_if_ge (tgt := 102) d_L_more_95 (by decide) (fun c56 => ?_) (fun c56 => ?_)
            · have h := h.1 c56
              refine jm_iinc (L' := [some (jm_R _), some (jm_R _), some (jm_I _), some (jm_I _), some (jm_I _)]) d_L_more_102 rfl rfl (Nat.le_of_ble_eq_true rfl) rfl ?_
              refine jm_goto (tgt := 3) d_L_more_105 (by decide) ?_
              exact h
            · have h := h.2 c56
              refine jm_sipush (v := (-3000)) d_L_more_98 rfl (jm_okI (by decide) (by decide)) ?_
              exact jm_ret (o := some (jm_I _)) d_L_more_101 rfl ⟨Nat.le_refl _, Nat.le_refl _⟩ jm_r_I h rfl
        · have h := h.2 c48
          refine jm_aloadn d_L_more_63 rfl ?_
          refine jm_iload d_L_more_64 rfl ?_
          refine jm_iconst (v := 3) d_L_more_66 rfl (jm_okI (by decide) (by decide)) ?_
          refine jm_iadd d_L_more_67 ?_
          obtain ⟨f57, h⟩ := h
          refine jm_iaload d_L_more_68 (ixl_133 f57.1 f57.2) ?_
          refine jm_goto (tgt := 73) d_L_more_69 (by decide) ?_
          refine jm_iload d_L_more_73 rfl ?_
          refine jm_iconst (v := 4) d_L_more_75 rfl (jm_okI (by decide) (by decide)) ?_
          refine jm_iadd d_L_more_76 ?_
          refine jm_bipush (v := 64) d_L_more_77 rfl (jm_okI (by decide) (by decide)) ?_
          refine jm_icmp_ge (tgt := 91) d_L_more_79 (by decide) (fun c58 => ?_) (fun c58 => ?_)
          · have h := h.1 c58
            refine jm_iconst (v := 0) d_L_more_91 rfl (jm_okI (by decide) (by decide)) ?_
            refine jm_invV (n1 := jm_N) (mc := 0) (ms := 0) (av := [jm_I _, jm_I _, jm_I _, jm_I _, jm_I _]) w_X10_feed l_L_23 d_L_more_92 rfl is_0 ⟨_, _, rfl⟩ ⟨Nat.le_refl _, Nat.le_refl _⟩ (Nat.le_of_ble_eq_true rfl) rfl ?_
            refine jm_Cl.mono h (fun o m59 h hr _ => ?_)
            obtain ⟨r60, rfl⟩ := jm_rokI hr
            have h := h _ rfl
            refine jm_if_ge (tgt := 102) d_L_more_95 (by decide) (fun c61 => ?_) (fun c61 => ?_)
            · have h := h.1 c61
              refine jm_iinc (L' := [some (jm_R _), some (jm_R _), some (jm_I _), some (jm_I _), some (jm_I _)]) d_L_more_102 rfl rfl (Nat.le_of_ble_eq_true rfl) rfl ?_
              refine jm_goto (tgt := 3) d_L_more_105 (by decide) ?_
              exact h
            · have h := h.2 c61
              refine jm_sipush (v := (-3000)) d_L_more_98 rfl (jm_okI (by decide) (by decide)) ?_
              exact jm_ret (o := some (jm_I _)) d_L_more_101 rfl ⟨Nat.le_refl _, Nat.le_refl _⟩ jm_r_I h rfl
          · have h := h.2 c58
            refine jm_aloadn d_L_more_82 rfl ?_
            refine jm_iload d_L_more_83 rfl ?_
            refine jm_iconst (v := 4) d_L_more_85 rfl (jm_okI (by decide) (by decide)) ?_
            refine jm_iadd d_L_more_86 ?_
            obtain ⟨f62, h⟩ := h
            refine jm_iaload d_L_more_87 (ixl_133 f62.1 f62.2) ?_
            refine jm_goto (tgt := 92) d_L_more_88 (by decide) ?_
            refine jm_invV (n1 := jm_N) (mc := 0) (ms := 0) (av := [jm_I _, jm_I _, jm_I _, jm_I _, jm_I _]) w_X10_feed l_L_23 d_L_more_92 rfl is_0 ⟨_, _, rfl⟩ ⟨Nat.le_refl _, Nat.le_refl _⟩ (Nat.le_of_ble_eq_true rfl) rfl ?_
            refine jm_Cl.mono h (fun o m63 h hr _ => ?_)
            obtain ⟨r64, rfl⟩ := jm_rokI hr
            have h := h _ rfl
            refine jm_if_ge (tgt := 102) d_L_more_95 (by decide) (fun c65 => ?_) (fun c65 => ?_)
            · have h := h.1 c65
              refine jm_iinc (L' := [some (jm_R _), some (jm_R _), some (jm_I _), some (jm_I _), some (jm_I _)]) d_L_more_102 rfl rfl (Nat.le_of_ble_eq_true rfl) rfl ?_
              refine jm_goto (tgt := 3) d_L_more_105 (by decide) ?_
              exact h
            · have h := h.2 c65
              refine jm_sipush (v := (-3000)) d_L_more_98 rfl (jm_okI (by decide) (by decide)) ?_
              exact jm_ret (o := some (jm_I _)) d_L_more_101 rfl ⟨Nat.le_refl _, Nat.le_refl _⟩ jm_r_I h rfl
      · have h := h.2 c47
        refine jm_aloadn d_L_more_44 rfl ?_
        refine jm_iload d_L_more_45 rfl ?_
        refine jm_iconst (v := 2) d_L_more_47 rfl (jm_okI (by decide) (by decide)) ?_
        refine jm_iadd d_L_more_48 ?_
        obtain ⟨f66, h⟩ := h
        refine jm_iaload d_L_more_49 (ixl_133 f66.1 f66.2) ?_
        refine jm_goto (tgt := 54) d_L_more_50 (by decide) ?_
        refine jm_iload d_L_more_54 rfl ?_
        refine jm_iconst (v := 3) d_L_more_56 rfl (jm_okI (by decide) (by decide)) ?_
        refine jm_iadd d_L_more_57 ?_
        refine jm_bipush (v := 64) d_L_more_58 rfl (jm_okI (by decide) (by decide)) ?_
        refine jm_icmp_ge (tgt := 72) d_L_more_60 (by decide) (fun c67 => ?_) (fun c67 => ?_)
        · have h := h.1 c67
          refine jm_iconst (v := 0) d_L_more_72 rfl (jm_okI (by decide) (by decide)) ?_
          refine jm_iload d_L_more_73 rfl ?_
          refine jm_iconst (v := 4) d_L_more_75 rfl (jm_okI (by decide) (by decide)) ?_
          refine jm_iadd d_L_more_76 ?_
          refine jm_bipush (v := 64) d_L_more_77 rfl (jm_okI (by decide) (by decide)) ?_
          refine jm_icmp_ge (tgt := 91) d_L_more_79 (by decide) (fun c68 => ?_) (fun c68 => ?_)
          · have h := h.1 c68
            refine jm_iconst (v := 0) d_L_more_91 rfl (jm_okI (by decide) (by decide)) ?_
            refine jm_invV (n1 := jm_N) (mc := 0) (ms := 0) (av := [jm_I _, jm_I _, jm_I _, jm_I _, jm_I _]) w_X10_feed l_L_23 d_L_more_92 rfl is_0 ⟨_, _, rfl⟩ ⟨Nat.le_refl _, Nat.le_refl _⟩ (Nat.le_of_ble_eq_true rfl) rfl ?_
            refine jm_Cl.mono h (fun o m69 h hr _ => ?_)
            obtain ⟨r70, rfl⟩ := jm_rokI hr
            have h := h _ rfl
            refine jm_if_ge (tgt := 102) d_L_more_95 (by decide) (fun c71 => ?_) (fun c71 => ?_)
            · have h := h.1 c71
              refine jm_iinc (L' := [some (jm_R _), some (jm_R _), some (jm_I _), some (jm_I _), some (jm_I _)]) d_L_more_102 rfl rfl (Nat.le_of_ble_eq_true rfl) rfl ?_
              refine jm_goto (tgt := 3) d_L_more_105 (by decide) ?_
              exact h
            · have h := h.2 c71
              refine jm_sipush (v := (-3000)) d_L_more_98 rfl (jm_okI (by decide) (by decide)) ?_
              exact jm_ret (o := some (jm_I _)) d_L_more_101 rfl ⟨Nat.le_refl _, Nat.le_refl _⟩ jm_r_I h rfl
          · have h := h.2 c68
            refine jm_aloadn d_L_more_82 rfl ?_
            refine jm_iload d_L_more_83 rfl ?_
            refine jm_iconst (v := 4) d_L_more_85 rfl (jm_okI (by decide) (by decide)) ?_
            refine jm_iadd d_L_more_86 ?_
            obtain ⟨f72, h⟩ := h
            refine jm_iaload d_L_more_87 (ixl_133 f72.1 f72.2) ?_
            refine jm_goto (tgt := 92) d_L_more_88 (by decide) ?_
            refine jm_invV (n1 := jm_N) (mc := 0) (ms := 0) (av := [jm_I _, jm_I _, jm_I _, jm_I _, jm_I _]) w_X10_feed l_L_23 d_L_more_92 rfl is_0 ⟨_, _, rfl⟩ ⟨Nat.le_refl _, Nat.le_refl _⟩ (Nat.le_of_ble_eq_true rfl) rfl ?_
            refine jm_Cl.mono h (fun o m73 h hr _ => ?_)
            obtain ⟨r74, rfl⟩ := jm_rokI hr
            have h := h _ rfl
            refine jm_if_ge (tgt := 102) d_L_more_95 (by decide) (fun c75 => ?_) (fun c75 => ?_)
            · have h := h.1 c75
              refine jm_iinc (L' := [some (jm_R _), some (jm_R _), some (jm_I _), some (jm_I _), some (jm_I _)]) d_L_more_102 rfl rfl (Nat.le_of_ble_eq_true rfl) rfl ?_
              refine jm_goto (tgt := 3) d_L_more_105 (by decide) ?_
              exact h
            · have h := h.2 c75
              refine jm_sipush (v := (-3000)) d_L_more_98 rfl (jm_okI (by decide) (by decide)) ?_
              exact jm_ret (o := some (jm_I _)) d_L_more_101 rfl ⟨Nat.le_refl _, Nat.le_refl _⟩ jm_r_I h rfl
        · have h := h.2 c67
          refine jm_aloadn d_L_more_63 rfl ?_
          refine jm_iload d_L_more_64 rfl ?_
          refine jm_iconst (v := 3) d_L_more_66 rfl (jm_okI (by decide) (by decide)) ?_
          refine jm_iadd d_L_more_67 ?_
          obtain ⟨f76, h⟩ := h
          refine jm_iaload d_L_more_68 (ixl_133 f76.1 f76.2) ?_
          refine jm_goto (tgt := 73) d_L_more_69 (by decide) ?_
          refine jm_iload d_L_more_73 rfl ?_
          refine jm_iconst (v := 4) d_L_more_75 rfl (jm_okI (by decide) (by decide)) ?_
          refine jm_iadd d_L_more_76 ?_
          refine jm_bipush (v := 64) d_L_more_77 rfl (jm_okI (by decide) (by decide)) ?_
          refine jm_icmp_ge (tgt := 91) d_L_more_79 (by decide) (fun c77 => ?_) (fun c77 => ?_)
          · have h := h.1 c77
            refine jm_iconst (v := 0) d_L_more_91 rfl (jm_okI (by decide) (by decide)) ?_
            refine jm_invV (n1 := jm_N) (mc := 0) (ms := 0) (av := [jm_I _, jm_I _, jm_I _, jm_I _, jm_I _]) w_X10_feed l_L_23 d_L_more_92 rfl is_0 ⟨_, _, rfl⟩ ⟨Nat.le_refl _, Nat.le_refl _⟩ (Nat.le_of_ble_eq_true rfl) rfl ?_
            refine jm_Cl.mono h (fun o m78 h hr _ => ?_)
            obtain ⟨r79, rfl⟩ := jm_rokI hr
            have h := h _ rfl
            refine jm_if_ge (tgt := 102) d_L_more_95 (by decide) (fun c80 => ?_) (fun c80 => ?_)
            · have h := h.1 c80
              refine jm_iinc (L' := [some (jm_R _), some (jm_R _), some (jm_I _), some (jm_I _), some (jm_I _)]) d_L_more_102 rfl rfl (Nat.le_of_ble_eq_true rfl) rfl ?_
              refine jm_goto (tgt := 3) d_L_more_105 (by decide) ?_
              exact h
            · have h := h.2 c80
              refine jm_sipush (v := (-3000)) d_L_more_98 rfl (jm_okI (by decide) (by decide)) ?_
              exact jm_ret (o := some (jm_I _)) d_L_more_101 rfl ⟨Nat.le_refl _, Nat.le_refl _⟩ jm_r_I h rfl
          · have h := h.2 c77
            refine jm_aloadn d_L_more_82 rfl ?_
            refine jm_iload d_L_more_83 rfl ?_
            refine jm_iconst (v := 4) d_L_more_85 rfl (jm_okI (by decide) (by decide)) ?_
            refine jm_iadd d_L_more_86 ?_
            obtain ⟨f81, h⟩ := h
            refine jm_iaload d_L_more_87 (ixl_133 f81.1 f81.2) ?_
            refine jm_goto (tgt := 92) d_L_more_88 (by decide) ?_
            refine jm_invV (n1 := jm_N) (mc := 0) (ms := 0) (av := [jm_I _, jm_I _, jm_I _, jm_I _, jm_I _]) w_X10_feed l_L_23 d_L_more_92 rfl is_0 ⟨_, _, rfl⟩ ⟨Nat.le_refl _, Nat.le_refl _⟩ (Nat.le_of_ble_eq_true rfl) rfl ?_
            refine jm_Cl.mono h (fun o m82 h hr _ => ?_)
            obtain ⟨r83, rfl⟩ := jm_rokI hr
            have h := h _ rfl
            refine jm_if_ge (tgt := 102) d_L_more_95 (by decide) (fun c84 => ?_) (fun c84 => ?_)
            · have h := h.1 c84
              refine jm_iinc (L' := [some (jm_R _), some (jm_R _), some (jm_I _), some (jm_I _), some (jm_I _)]) d_L_more_102 rfl rfl (Nat.le_of_ble_eq_true rfl) rfl ?_
              refine jm_goto (tgt := 3) d_L_more_105 (by decide) ?_
              exact h
            · have h := h.2 c84
              refine jm_sipush (v := (-3000)) d_L_more_98 rfl (jm_okI (by decide) (by decide)) ?_
              exact jm_ret (o := some (jm_I _)) d_L_more_101 rfl ⟨Nat.le_refl _, Nat.le_refl _⟩ jm_r_I h rfl
/-! ('CombTableLaw', 'lies', '(LCombTable;[II)Z') -/
theorem d_L_lies_0 : decode m_L_lies.2.1 0 = .ok (.aload_n 0, 1) := by decide +kernel
theorem d_L_lies_1 : decode m_L_lies.2.1 1 = .ok (.iconst 0, 1) := by decide +kernel
theorem d_L_lies_2 : decode m_L_lies.2.1 2 = .ok (.invokevirtual 29, 3) := by decide +kernel
theorem d_L_lies_5 : decode m_L_lies.2.1 5 = .ok (.ifCond .eq 18, 3) := by decide +kernel
theorem d_L_lies_8 : decode m_L_lies.2.1 8 = .ok (.aload_n 0, 1) := by decide +kernel
theorem d_L_lies_9 : decode m_L_lies.2.1 9 = .ok (.aload_n 1, 1) := by decide +kernel
theorem d_L_lies_10 : decode m_L_lies.2.1 10 = .ok (.iload_n 2, 1) := by decide +kernel
theorem d_L_lies_11 : decode m_L_lies.2.1 11 = .ok (.iconst 0, 1) := by decide +kernel
theorem d_L_lies_12 : decode m_L_lies.2.1 12 = .ok (.invokestatic 33, 3) := by decide +kernel
theorem d_L_lies_15 : decode m_L_lies.2.1 15 = .ok (.iload_n 2, 1) := by decide +kernel
theorem d_L_lies_16 : decode m_L_lies.2.1 16 = .ok (.if_icmp .ne 7, 3) := by decide +kernel
theorem d_L_lies_19 : decode m_L_lies.2.1 19 = .ok (.iconst 1, 1) := by decide +kernel
theorem d_L_lies_20 : decode m_L_lies.2.1 20 = .ok (.goto 4, 3) := by decide +kernel
theorem d_L_lies_23 : decode m_L_lies.2.1 23 = .ok (.iconst 0, 1) := by decide +kernel
theorem d_L_lies_24 : decode m_L_lies.2.1 24 = .ok (.ireturn, 1) := by decide +kernel
set_option maxRecDepth 20000 in
theorem e_L_lies {E : jm_E} {d : Nat} {μ : jm_M} {Q : Option jm_V → jm_M → Prop} {v2 : Int} (h : (∀ v ∈ ([jm_R 0, jm_R 133, jm_I v2] : List jm_V), jm_ok v) →
  jc E m_X10_end d [jm_R 0, jm_I 0] μ (fun (o : Option jm_V) (m1 : jm_M) => ∀ r2 : Int, o = some (jm_I r2) → (r2 = 0 ∨ r2 = 1) →
  ((r2 = 0 →
    Q (some (jm_I 0)) m1) ∧
   (¬ (r2 = 0) →
    jc E m_L_more d [jm_R 0, jm_R 133, jm_I v2, jm_I 0] m1 (fun (o : Option jm_V) (m5 : jm_M) => ∀ r6 : Int, o = some (jm_I r6) →
    ((r6 ≠ v2 →
      Q (some (jm_I 0)) m5) ∧
     (¬ (r6 ≠ v2) →
      Q (some (jm_I 1)) m5))))))) : jc E m_L_lies (d + 1) [jm_R 0, jm_R 133, jm_I v2] μ Q := by
  refine jm_Cl.of2 (by decide +kernel) (L0 := [some (jm_R 0), some (jm_R 133), some (jm_I v2)]) rfl (Nat.le_of_ble_eq_true rfl) (fun hok => ?_)
  have h := h hok
  refine jm_aloadn d_L_lies_0 rfl ?_
  refine jm_iconst (v := 0) d_L_lies_1 rfl (jm_okI (by decide) (by decide)) ?_
  refine jm_invV (n1 := jm_N) (mc := 0) (ms := 0) (av := [jm_I _]) w_X10_end l_L_29 d_L_lies_2 rfl is_0 ⟨_, _, rfl⟩ ⟨Nat.le_refl _, Nat.le_refl _⟩ (Nat.le_of_ble_eq_true rfl) rfl ?_
  refine jm_Cl.mono h (fun o m1 h hr _ => ?_)
  obtain ⟨r2, rfl, z3⟩ := jm_rokZ hr
  have h := h _ rfl z3
  refine jm_if_eq (tgt := 23) d_L_lies_5 (by decide) (fun c4 => ?_) (fun c4 => ?_)
  · have h := h.1 c4
    refine jm_iconst (v := 0) d_L_lies_23 rfl (jm_okI (by decide) (by decide)) ?_
    exact jm_ret (o := some (jm_I _)) d_L_lies_24 rfl ⟨Nat.le_refl _, Nat.le_refl _⟩ (jm_r_Z (by decide)) h rfl
  · have h := h.2 c4
    refine jm_aloadn d_L_lies_8 rfl ?_
    refine jm_aloadn d_L_lies_9 rfl ?_
    refine jm_iloadn d_L_lies_10 rfl ?_
    refine jm_iconst (v := 0) d_L_lies_11 rfl (jm_okI (by decide) (by decide)) ?_
    refine jm_invS (n1 := jm_N) (mc := 0) (ms := 0) (av := [jm_R _, jm_R _, jm_I _, jm_I _]) w_L_more l_L_33 d_L_lies_12 rfl ⟨Nat.le_refl _, Nat.le_refl _⟩ (Nat.le_of_ble_eq_true rfl) rfl ?_
    refine jm_Cl.mono h (fun o m5 h hr _ => ?_)
    obtain ⟨r6, rfl⟩ := jm_rokI hr
    have h := h _ rfl
    refine jm_iloadn d_L_lies_15 rfl ?_
    refine jm_icmp_ne (tgt := 23) d_L_lies_16 (by decide) (fun c7 => ?_) (fun c7 => ?_)
    · have h := h.1 c7
      refine jm_iconst (v := 0) d_L_lies_23 rfl (jm_okI (by decide) (by decide)) ?_
      exact jm_ret (o := some (jm_I _)) d_L_lies_24 rfl ⟨Nat.le_refl _, Nat.le_refl _⟩ (jm_r_Z (by decide)) h rfl
    · have h := h.2 c7
      refine jm_iconst (v := 1) d_L_lies_19 rfl (jm_okI (by decide) (by decide)) ?_
      refine jm_goto (tgt := 24) d_L_lies_20 (by decide) ?_
      exact jm_ret (o := some (jm_I _)) d_L_lies_24 rfl ⟨Nat.le_refl _, Nat.le_refl _⟩ (jm_r_Z (by decide)) h rfl
/-! ('CombTableLaw', 'nameOf', '(I)I') -/
theorem d_L_nameOf_0 : decode m_L_nameOf.2.1 0 = .ok (.iload_n 0, 1) := by decide +kernel
theorem d_L_nameOf_1 : decode m_L_nameOf.2.1 1 = .ok (.ifCond .ne 8, 3) := by decide +kernel
theorem d_L_nameOf_4 : decode m_L_nameOf.2.1 4 = .ok (.bipush 113, 2) := by decide +kernel
theorem d_L_nameOf_6 : decode m_L_nameOf.2.1 6 = .ok (.goto 55, 3) := by decide +kernel
theorem d_L_nameOf_9 : decode m_L_nameOf.2.1 9 = .ok (.iload_n 0, 1) := by decide +kernel
theorem d_L_nameOf_10 : decode m_L_nameOf.2.1 10 = .ok (.iconst 1, 1) := by decide +kernel
theorem d_L_nameOf_11 : decode m_L_nameOf.2.1 11 = .ok (.if_icmp .ne 8, 3) := by decide +kernel
theorem d_L_nameOf_14 : decode m_L_nameOf.2.1 14 = .ok (.bipush 121, 2) := by decide +kernel
theorem d_L_nameOf_16 : decode m_L_nameOf.2.1 16 = .ok (.goto 45, 3) := by decide +kernel
theorem d_L_nameOf_19 : decode m_L_nameOf.2.1 19 = .ok (.iload_n 0, 1) := by decide +kernel
theorem d_L_nameOf_20 : decode m_L_nameOf.2.1 20 = .ok (.iconst 2, 1) := by decide +kernel
theorem d_L_nameOf_21 : decode m_L_nameOf.2.1 21 = .ok (.if_icmp .ne 8, 3) := by decide +kernel
theorem d_L_nameOf_24 : decode m_L_nameOf.2.1 24 = .ok (.bipush 110, 2) := by decide +kernel
theorem d_L_nameOf_26 : decode m_L_nameOf.2.1 26 = .ok (.goto 35, 3) := by decide +kernel
theorem d_L_nameOf_29 : decode m_L_nameOf.2.1 29 = .ok (.iload_n 0, 1) := by decide +kernel
theorem d_L_nameOf_30 : decode m_L_nameOf.2.1 30 = .ok (.iconst 3, 1) := by decide +kernel
theorem d_L_nameOf_31 : decode m_L_nameOf.2.1 31 = .ok (.if_icmp .ne 8, 3) := by decide +kernel
theorem d_L_nameOf_34 : decode m_L_nameOf.2.1 34 = .ok (.bipush 107, 2) := by decide +kernel
theorem d_L_nameOf_36 : decode m_L_nameOf.2.1 36 = .ok (.goto 25, 3) := by decide +kernel
theorem d_L_nameOf_39 : decode m_L_nameOf.2.1 39 = .ok (.iload_n 0, 1) := by decide +kernel
theorem d_L_nameOf_40 : decode m_L_nameOf.2.1 40 = .ok (.iconst 4, 1) := by decide +kernel
theorem d_L_nameOf_41 : decode m_L_nameOf.2.1 41 = .ok (.if_icmp .ne 8, 3) := by decide +kernel
theorem d_L_nameOf_44 : decode m_L_nameOf.2.1 44 = .ok (.bipush 120, 2) := by decide +kernel
theorem d_L_nameOf_46 : decode m_L_nameOf.2.1 46 = .ok (.goto 15, 3) := by decide +kernel
theorem d_L_nameOf_49 : decode m_L_nameOf.2.1 49 = .ok (.iload_n 0, 1) := by decide +kernel
theorem d_L_nameOf_50 : decode m_L_nameOf.2.1 50 = .ok (.iconst 5, 1) := by decide +kernel
theorem d_L_nameOf_51 : decode m_L_nameOf.2.1 51 = .ok (.if_icmp .ne 8, 3) := by decide +kernel
theorem d_L_nameOf_54 : decode m_L_nameOf.2.1 54 = .ok (.bipush 102, 2) := by decide +kernel
theorem d_L_nameOf_56 : decode m_L_nameOf.2.1 56 = .ok (.goto 5, 3) := by decide +kernel
theorem d_L_nameOf_59 : decode m_L_nameOf.2.1 59 = .ok (.bipush 115, 2) := by decide +kernel
theorem d_L_nameOf_61 : decode m_L_nameOf.2.1 61 = .ok (.ireturn, 1) := by decide +kernel
set_option maxRecDepth 20000 in
theorem e_L_nameOf {E : jm_E} {d : Nat} {μ : jm_M} {Q : Option jm_V → jm_M → Prop} {v0 : Int} (h : (∀ v ∈ ([jm_I v0] : List jm_V), jm_ok v) →
  ((v0 ≠ 0 →
    ((v0 ≠ 1 →
      ((v0 ≠ 2 →
        ((v0 ≠ 3 →
          ((v0 ≠ 4 →
            ((v0 ≠ 5 →
              Q (some (jm_I 115)) μ) ∧
             (¬ (v0 ≠ 5) →
              Q (some (jm_I 102)) μ))) ∧
           (¬ (v0 ≠ 4) →
            Q (some (jm_I 120)) μ))) ∧
         (¬ (v0 ≠ 3) →
          Q (some (jm_I 107)) μ))) ∧
       (¬ (v0 ≠ 2) →
        Q (some (jm_I 110)) μ))) ∧
     (¬ (v0 ≠ 1) →
      Q (some (jm_I 121)) μ))) ∧
   (¬ (v0 ≠ 0) →
    Q (some (jm_I 113)) μ))) : jc E m_L_nameOf (d + 1) [jm_I v0] μ Q := by
  refine jm_Cl.of2 (by decide +kernel) (L0 := [some (jm_I v0)]) rfl (Nat.le_of_ble_eq_true rfl) (fun hok => ?_)
  have h := h hok
  refine jm_iloadn d_L_nameOf_0 rfl ?_
  refine jm_if_ne (tgt := 9) d_L_nameOf_1 (by decide) (fun c1 => ?_) (fun c1 => ?_)
  · have h := h.1 c1
    refine jm_iloadn d_L_nameOf_9 rfl ?_
    refine jm_iconst (v := 1) d_L_nameOf_10 rfl (jm_okI (by decide) (by decide)) ?_
    refine jm_icmp_ne (tgt := 19) d_L_nameOf_11 (by decide) (fun c2 => ?_) (fun c2 => ?_)
    · have h := h.1 c2
      refine jm_iloadn d_L_nameOf_19 rfl ?_
      refine jm_iconst (v := 2) d_L_nameOf_20 rfl (jm_okI (by decide) (by decide)) ?_
      refine jm_icmp_ne (tgt := 29) d_L_nameOf_21 (by decide) (fun c3 => ?_) (fun c3 => ?_)
      · have h := h.1 c3
        refine jm_iloadn d_L_nameOf_29 rfl ?_
        refine jm_iconst (v := 3) d_L_nameOf_30 rfl (jm_okI (by decide) (by decide)) ?_
        refine jm_icmp_ne (tgt := 39) d_L_nameOf_31 (by decide) (fun c4 => ?_) (fun c4 => ?_)
        · have h := h.1 c4
          refine jm_iloadn d_L_nameOf_39 rfl ?_
          refine jm_iconst (v := 4) d_L_nameOf_40 rfl (jm_okI (by decide) (by decide)) ?_
          refine jm_icmp_ne (tgt := 49) d_L_nameOf_41 (by decide) (fun c5 => ?_) (fun c5 => ?_)
          · have h := h.1 c5
            refine jm_iloadn d_L_nameOf_49 rfl ?_
            refine jm_iconst (v := 5) d_L_nameOf_50 rfl (jm_okI (by decide) (by decide)) ?_
            refine jm_icmp_ne (tgt := 59) d_L_nameOf_51 (by decide) (fun c6 => ?_) (fun c6 => ?_)
            · have h := h.1 c6
              refine jm_bipush (v := 115) d_L_nameOf_59 rfl (jm_okI (by decide) (by decide)) ?_
              exact jm_ret (o := some (jm_I _)) d_L_nameOf_61 rfl ⟨Nat.le_refl _, Nat.le_refl _⟩ jm_r_I h rfl
            · have h := h.2 c6
              refine jm_bipush (v := 102) d_L_nameOf_54 rfl (jm_okI (by decide) (by decide)) ?_
              refine jm_goto (tgt := 61) d_L_nameOf_56 (by decide) ?_
              exact jm_ret (o := some (jm_I _)) d_L_nameOf_61 rfl ⟨Nat.le_refl _, Nat.le_refl _⟩ jm_r_I h rfl
          · have h := h.2 c5
            refine jm_bipush (v := 120) d_L_nameOf_44 rfl (jm_okI (by decide) (by decide)) ?_
            refine jm_goto (tgt := 61) d_L_nameOf_46 (by decide) ?_
            exact jm_ret (o := some (jm_I _)) d_L_nameOf_61 rfl ⟨Nat.le_refl _, Nat.le_refl _⟩ jm_r_I h rfl
        · have h := h.2 c4
          refine jm_bipush (v := 107) d_L_nameOf_34 rfl (jm_okI (by decide) (by decide)) ?_
          refine jm_goto (tgt := 61) d_L_nameOf_36 (by decide) ?_
          exact jm_ret (o := some (jm_I _)) d_L_nameOf_61 rfl ⟨Nat.le_refl _, Nat.le_refl _⟩ jm_r_I h rfl
      · have h := h.2 c3
        refine jm_bipush (v := 110) d_L_nameOf_24 rfl (jm_okI (by decide) (by decide)) ?_
        refine jm_goto (tgt := 61) d_L_nameOf_26 (by decide) ?_
        exact jm_ret (o := some (jm_I _)) d_L_nameOf_61 rfl ⟨Nat.le_refl _, Nat.le_refl _⟩ jm_r_I h rfl
    · have h := h.2 c2
      refine jm_bipush (v := 121) d_L_nameOf_14 rfl (jm_okI (by decide) (by decide)) ?_
      refine jm_goto (tgt := 61) d_L_nameOf_16 (by decide) ?_
      exact jm_ret (o := some (jm_I _)) d_L_nameOf_61 rfl ⟨Nat.le_refl _, Nat.le_refl _⟩ jm_r_I h rfl
  · have h := h.2 c1
    refine jm_bipush (v := 113) d_L_nameOf_4 rfl (jm_okI (by decide) (by decide)) ?_
    refine jm_goto (tgt := 61) d_L_nameOf_6 (by decide) ?_
    exact jm_ret (o := some (jm_I _)) d_L_nameOf_61 rfl ⟨Nat.le_refl _, Nat.le_refl _⟩ jm_r_I h rfl
/-! ('CombTableLaw', 'kindOf', '(I)Ljava/lang/String;') -/
theorem d_L_kindOf_0 : decode m_L_kindOf.2.1 0 = .ok (.iload_n 0, 1) := by decide +kernel
theorem d_L_kindOf_1 : decode m_L_kindOf.2.1 1 = .ok (.tableswitch 57 0 5 #[39, 42, 45, 48, 51, 54], 39) := by decide +kernel
theorem d_L_kindOf_40 : decode m_L_kindOf.2.1 40 = .ok (.ldc 37, 2) := by decide +kernel
theorem d_L_kindOf_42 : decode m_L_kindOf.2.1 42 = .ok (.areturn, 1) := by decide +kernel
theorem d_L_kindOf_43 : decode m_L_kindOf.2.1 43 = .ok (.ldc 39, 2) := by decide +kernel
theorem d_L_kindOf_45 : decode m_L_kindOf.2.1 45 = .ok (.areturn, 1) := by decide +kernel
theorem d_L_kindOf_46 : decode m_L_kindOf.2.1 46 = .ok (.ldc 41, 2) := by decide +kernel
theorem d_L_kindOf_48 : decode m_L_kindOf.2.1 48 = .ok (.areturn, 1) := by decide +kernel
theorem d_L_kindOf_49 : decode m_L_kindOf.2.1 49 = .ok (.ldc 43, 2) := by decide +kernel
theorem d_L_kindOf_51 : decode m_L_kindOf.2.1 51 = .ok (.areturn, 1) := by decide +kernel
theorem d_L_kindOf_52 : decode m_L_kindOf.2.1 52 = .ok (.ldc 45, 2) := by decide +kernel
theorem d_L_kindOf_54 : decode m_L_kindOf.2.1 54 = .ok (.areturn, 1) := by decide +kernel
theorem d_L_kindOf_55 : decode m_L_kindOf.2.1 55 = .ok (.ldc 47, 2) := by decide +kernel
theorem d_L_kindOf_57 : decode m_L_kindOf.2.1 57 = .ok (.areturn, 1) := by decide +kernel
theorem d_L_kindOf_58 : decode m_L_kindOf.2.1 58 = .ok (.ldc 49, 2) := by decide +kernel
theorem d_L_kindOf_60 : decode m_L_kindOf.2.1 60 = .ok (.areturn, 1) := by decide +kernel
set_option maxRecDepth 20000 in
theorem e_L_kindOf {E : jm_E} {d : Nat} {μ : jm_M} {Q : Option jm_V → jm_M → Prop} {v0 : Int} (h : (∀ v ∈ ([jm_I v0] : List jm_V), jm_ok v) →
  ((v0 = 0 →
    Q (some (jm_R ((-102)))) μ) ∧
   (¬ (v0 = 0) →
    ((v0 = 1 →
      Q (some (jm_R ((-103)))) μ) ∧
     (¬ (v0 = 1) →
      ((v0 = 2 →
        Q (some (jm_R ((-104)))) μ) ∧
       (¬ (v0 = 2) →
        ((v0 = 3 →
          Q (some (jm_R ((-105)))) μ) ∧
         (¬ (v0 = 3) →
          ((v0 = 4 →
            Q (some (jm_R ((-106)))) μ) ∧
           (¬ (v0 = 4) →
            ((v0 = 5 →
              Q (some (jm_R ((-107)))) μ) ∧
             (¬ (v0 = 5) →
              Q (some (jm_R ((-108)))) μ))))))))))))) : jc E m_L_kindOf (d + 1) [jm_I v0] μ Q := by
  refine jm_Cl.of2 (by decide +kernel) (L0 := [some (jm_I v0)]) rfl (Nat.le_of_ble_eq_true rfl) (fun hok => ?_)
  have h := h hok
  refine jm_iloadn d_L_kindOf_0 rfl ?_
  by_cases c1 : v0 = 0
  · have h := h.1 c1
    refine jm_table (tgt := 40) (off := 39) d_L_kindOf_1 (by rw [c1]; decide) (by rw [c1]; decide) (by rw [c1]; rfl) (by decide) ?_
    refine jm_ldcK (i := 1) (a := -102) (Nat.le_of_ble_eq_true rfl) rfl rfl rfl d_L_kindOf_40 ?_
    exact jm_ret (o := some (jm_R _)) d_L_kindOf_42 rfl ⟨Nat.le_refl _, Nat.le_refl _⟩ jm_r_R h rfl
  · have h := h.2 c1
    by_cases c2 : v0 = 1
    · have h := h.1 c2
      refine jm_table (tgt := 43) (off := 42) d_L_kindOf_1 (by rw [c2]; decide) (by rw [c2]; decide) (by rw [c2]; rfl) (by decide) ?_
      refine jm_ldcK (i := 2) (a := -103) (Nat.le_of_ble_eq_true rfl) rfl rfl rfl d_L_kindOf_43 ?_
      exact jm_ret (o := some (jm_R _)) d_L_kindOf_45 rfl ⟨Nat.le_refl _, Nat.le_refl _⟩ jm_r_R h rfl
    · have h := h.2 c2
      by_cases c3 : v0 = 2
      · have h := h.1 c3
        refine jm_table (tgt := 46) (off := 45) d_L_kindOf_1 (by rw [c3]; decide) (by rw [c3]; decide) (by rw [c3]; rfl) (by decide) ?_
        refine jm_ldcK (i := 3) (a := -104) (Nat.le_of_ble_eq_true rfl) rfl rfl rfl d_L_kindOf_46 ?_
        exact jm_ret (o := some (jm_R _)) d_L_kindOf_48 rfl ⟨Nat.le_refl _, Nat.le_refl _⟩ jm_r_R h rfl
      · have h := h.2 c3
        by_cases c4 : v0 = 3
        · have h := h.1 c4
          refine jm_table (tgt := 49) (off := 48) d_L_kindOf_1 (by rw [c4]; decide) (by rw [c4]; decide) (by rw [c4]; rfl) (by decide) ?_
          refine jm_ldcK (i := 4) (a := -105) (Nat.le_of_ble_eq_true rfl) rfl rfl rfl d_L_kindOf_49 ?_
          exact jm_ret (o := some (jm_R _)) d_L_kindOf_51 rfl ⟨Nat.le_refl _, Nat.le_refl _⟩ jm_r_R h rfl
        · have h := h.2 c4
          by_cases c5 : v0 = 4
          · have h := h.1 c5
            refine jm_table (tgt := 52) (off := 51) d_L_kindOf_1 (by rw [c5]; decide) (by rw [c5]; decide) (by rw [c5]; rfl) (by decide) ?_
            refine jm_ldcK (i := 5) (a := -106) (Nat.le_of_ble_eq_true rfl) rfl rfl rfl d_L_kindOf_52 ?_
            exact jm_ret (o := some (jm_R _)) d_L_kindOf_54 rfl ⟨Nat.le_refl _, Nat.le_refl _⟩ jm_r_R h rfl
          · have h := h.2 c5
            by_cases c6 : v0 = 5
            · have h := h.1 c6
              refine jm_table (tgt := 55) (off := 54) d_L_kindOf_1 (by rw [c6]; decide) (by rw [c6]; decide) (by rw [c6]; rfl) (by decide) ?_
              refine jm_ldcK (i := 6) (a := -107) (Nat.le_of_ble_eq_true rfl) rfl rfl rfl d_L_kindOf_55 ?_
              exact jm_ret (o := some (jm_R _)) d_L_kindOf_57 rfl ⟨Nat.le_refl _, Nat.le_refl _⟩ jm_r_R h rfl
            · have h := h.2 c6
              refine jm_tableD (tgt := 58) d_L_kindOf_1 (jm_tb2 (jm_tb1 (jm_tb1 (jm_tb1 (jm_tb1 (jm_tb1 (jm_tb1 (jm_tb0 0) c1) c2) c3) c4) c5) c6) rfl) (by decide) ?_
              refine jm_ldcK (i := 7) (a := -108) (Nat.le_of_ble_eq_true rfl) rfl rfl rfl d_L_kindOf_58 ?_
              exact jm_ret (o := some (jm_R _)) d_L_kindOf_60 rfl ⟨Nat.le_refl _, Nat.le_refl _⟩ jm_r_R h rfl
/-! ('CombTableLaw', 'told', '(LCombTable;[I[III)Z') -/
theorem d_L_told_0 : decode m_L_told.2.1 0 = .ok (.iconst 0, 1) := by decide +kernel
theorem d_L_told_1 : decode m_L_told.2.1 1 = .ok (.istore 5, 2) := by decide +kernel
theorem d_L_told_3 : decode m_L_told.2.1 3 = .ok (.aload_n 2, 1) := by decide +kernel
theorem d_L_told_4 : decode m_L_told.2.1 4 = .ok (.iconst 0, 1) := by decide +kernel
theorem d_L_told_5 : decode m_L_told.2.1 5 = .ok (.iconst 2, 1) := by decide +kernel
theorem d_L_told_6 : decode m_L_told.2.1 6 = .ok (.iload_n 3, 1) := by decide +kernel
theorem d_L_told_7 : decode m_L_told.2.1 7 = .ok (.iconst 1, 1) := by decide +kernel
theorem d_L_told_8 : decode m_L_told.2.1 8 = .ok (.iand, 1) := by decide +kernel
theorem d_L_told_9 : decode m_L_told.2.1 9 = .ok (.iadd, 1) := by decide +kernel
theorem d_L_told_10 : decode m_L_told.2.1 10 = .ok (.iastore, 1) := by decide +kernel
theorem d_L_told_11 : decode m_L_told.2.1 11 = .ok (.iconst 0, 1) := by decide +kernel
theorem d_L_told_12 : decode m_L_told.2.1 12 = .ok (.istore 6, 2) := by decide +kernel
theorem d_L_told_14 : decode m_L_told.2.1 14 = .ok (.iload 6, 2) := by decide +kernel
theorem d_L_told_16 : decode m_L_told.2.1 16 = .ok (.aload_n 2, 1) := by decide +kernel
theorem d_L_told_17 : decode m_L_told.2.1 17 = .ok (.iconst 0, 1) := by decide +kernel
theorem d_L_told_18 : decode m_L_told.2.1 18 = .ok (.iaload, 1) := by decide +kernel
theorem d_L_told_19 : decode m_L_told.2.1 19 = .ok (.if_icmp .ge 73, 3) := by decide +kernel
theorem d_L_told_22 : decode m_L_told.2.1 22 = .ok (.aload_n 2, 1) := by decide +kernel
theorem d_L_told_23 : decode m_L_told.2.1 23 = .ok (.bipush 8, 2) := by decide +kernel
theorem d_L_told_25 : decode m_L_told.2.1 25 = .ok (.iload 6, 2) := by decide +kernel
theorem d_L_told_27 : decode m_L_told.2.1 27 = .ok (.iadd, 1) := by decide +kernel
theorem d_L_told_28 : decode m_L_told.2.1 28 = .ok (.iconst 1, 1) := by decide +kernel
theorem d_L_told_29 : decode m_L_told.2.1 29 = .ok (.iload_n 3, 1) := by decide +kernel
theorem d_L_told_30 : decode m_L_told.2.1 30 = .ok (.bipush 8, 2) := by decide +kernel
theorem d_L_told_32 : decode m_L_told.2.1 32 = .ok (.iconst 2, 1) := by decide +kernel
theorem d_L_told_33 : decode m_L_told.2.1 33 = .ok (.iload 6, 2) := by decide +kernel
theorem d_L_told_35 : decode m_L_told.2.1 35 = .ok (.imul, 1) := by decide +kernel
theorem d_L_told_36 : decode m_L_told.2.1 36 = .ok (.iadd, 1) := by decide +kernel
theorem d_L_told_37 : decode m_L_told.2.1 37 = .ok (.ishr, 1) := by decide +kernel
theorem d_L_told_38 : decode m_L_told.2.1 38 = .ok (.iconst 3, 1) := by decide +kernel
theorem d_L_told_39 : decode m_L_told.2.1 39 = .ok (.iand, 1) := by decide +kernel
theorem d_L_told_40 : decode m_L_told.2.1 40 = .ok (.iconst 3, 1) := by decide +kernel
theorem d_L_told_41 : decode m_L_told.2.1 41 = .ok (.irem, 1) := by decide +kernel
theorem d_L_told_42 : decode m_L_told.2.1 42 = .ok (.iadd, 1) := by decide +kernel
theorem d_L_told_43 : decode m_L_told.2.1 43 = .ok (.iastore, 1) := by decide +kernel
theorem d_L_told_44 : decode m_L_told.2.1 44 = .ok (.aload_n 1, 1) := by decide +kernel
theorem d_L_told_45 : decode m_L_told.2.1 45 = .ok (.aload_n 1, 1) := by decide +kernel
theorem d_L_told_46 : decode m_L_told.2.1 46 = .ok (.aload_n 1, 1) := by decide +kernel
theorem d_L_told_47 : decode m_L_told.2.1 47 = .ok (.aload_n 1, 1) := by decide +kernel
theorem d_L_told_48 : decode m_L_told.2.1 48 = .ok (.aload_n 1, 1) := by decide +kernel
theorem d_L_told_49 : decode m_L_told.2.1 49 = .ok (.iload 5, 2) := by decide +kernel
theorem d_L_told_51 : decode m_L_told.2.1 51 = .ok (.ldc 51, 2) := by decide +kernel
theorem d_L_told_53 : decode m_L_told.2.1 53 = .ok (.invokestatic 53, 3) := by decide +kernel
theorem d_L_told_56 : decode m_L_told.2.1 56 = .ok (.bipush 97, 2) := by decide +kernel
theorem d_L_told_58 : decode m_L_told.2.1 58 = .ok (.iload 6, 2) := by decide +kernel
theorem d_L_told_60 : decode m_L_told.2.1 60 = .ok (.iadd, 1) := by decide +kernel
theorem d_L_told_61 : decode m_L_told.2.1 61 = .ok (.invokestatic 17, 3) := by decide +kernel
theorem d_L_told_64 : decode m_L_told.2.1 64 = .ok (.bipush 32, 2) := by decide +kernel
theorem d_L_told_66 : decode m_L_told.2.1 66 = .ok (.invokestatic 17, 3) := by decide +kernel
theorem d_L_told_69 : decode m_L_told.2.1 69 = .ok (.aload_n 2, 1) := by decide +kernel
theorem d_L_told_70 : decode m_L_told.2.1 70 = .ok (.bipush 8, 2) := by decide +kernel
theorem d_L_told_72 : decode m_L_told.2.1 72 = .ok (.iload 6, 2) := by decide +kernel
theorem d_L_told_74 : decode m_L_told.2.1 74 = .ok (.iadd, 1) := by decide +kernel
theorem d_L_told_75 : decode m_L_told.2.1 75 = .ok (.iaload, 1) := by decide +kernel
theorem d_L_told_76 : decode m_L_told.2.1 76 = .ok (.invokestatic 57, 3) := by decide +kernel
theorem d_L_told_79 : decode m_L_told.2.1 79 = .ok (.bipush 59, 2) := by decide +kernel
theorem d_L_told_81 : decode m_L_told.2.1 81 = .ok (.invokestatic 17, 3) := by decide +kernel
theorem d_L_told_84 : decode m_L_told.2.1 84 = .ok (.istore 5, 2) := by decide +kernel
theorem d_L_told_86 : decode m_L_told.2.1 86 = .ok (.iinc 6 1, 3) := by decide +kernel
theorem d_L_told_89 : decode m_L_told.2.1 89 = .ok (.goto (-75), 3) := by decide +kernel
theorem d_L_told_92 : decode m_L_told.2.1 92 = .ok (.aload_n 2, 1) := by decide +kernel
theorem d_L_told_93 : decode m_L_told.2.1 93 = .ok (.bipush 11, 2) := by decide +kernel
theorem d_L_told_95 : decode m_L_told.2.1 95 = .ok (.iconst 1, 1) := by decide +kernel
theorem d_L_told_96 : decode m_L_told.2.1 96 = .ok (.iload_n 3, 1) := by decide +kernel
theorem d_L_told_97 : decode m_L_told.2.1 97 = .ok (.bipush 14, 2) := by decide +kernel
theorem d_L_told_99 : decode m_L_told.2.1 99 = .ok (.ishr, 1) := by decide +kernel
theorem d_L_told_100 : decode m_L_told.2.1 100 = .ok (.bipush 7, 2) := by decide +kernel
theorem d_L_told_102 : decode m_L_told.2.1 102 = .ok (.iand, 1) := by decide +kernel
theorem d_L_told_103 : decode m_L_told.2.1 103 = .ok (.iadd, 1) := by decide +kernel
theorem d_L_told_104 : decode m_L_told.2.1 104 = .ok (.iastore, 1) := by decide +kernel
theorem d_L_told_105 : decode m_L_told.2.1 105 = .ok (.iconst 0, 1) := by decide +kernel
theorem d_L_told_106 : decode m_L_told.2.1 106 = .ok (.istore 6, 2) := by decide +kernel
theorem d_L_told_108 : decode m_L_told.2.1 108 = .ok (.iload 6, 2) := by decide +kernel
theorem d_L_told_110 : decode m_L_told.2.1 110 = .ok (.bipush 7, 2) := by decide +kernel
theorem d_L_told_112 : decode m_L_told.2.1 112 = .ok (.if_icmp .ge 130, 3) := by decide +kernel
theorem d_L_told_115 : decode m_L_told.2.1 115 = .ok (.aload_n 2, 1) := by decide +kernel
theorem d_L_told_116 : decode m_L_told.2.1 116 = .ok (.bipush 12, 2) := by decide +kernel
theorem d_L_told_118 : decode m_L_told.2.1 118 = .ok (.iload 6, 2) := by decide +kernel
theorem d_L_told_120 : decode m_L_told.2.1 120 = .ok (.iadd, 1) := by decide +kernel
theorem d_L_told_121 : decode m_L_told.2.1 121 = .ok (.iload 6, 2) := by decide +kernel
theorem d_L_told_123 : decode m_L_told.2.1 123 = .ok (.ifCond .ne 7, 3) := by decide +kernel
theorem d_L_told_126 : decode m_L_told.2.1 126 = .ok (.iconst 1, 1) := by decide +kernel
theorem d_L_told_127 : decode m_L_told.2.1 127 = .ok (.goto 22, 3) := by decide +kernel
theorem d_L_told_130 : decode m_L_told.2.1 130 = .ok (.iload 6, 2) := by decide +kernel
theorem d_L_told_132 : decode m_L_told.2.1 132 = .ok (.bipush 6, 2) := by decide +kernel
theorem d_L_told_134 : decode m_L_told.2.1 134 = .ok (.if_icmp .ne 14, 3) := by decide +kernel
theorem d_L_told_137 : decode m_L_told.2.1 137 = .ok (.iload_n 3, 1) := by decide +kernel
theorem d_L_told_138 : decode m_L_told.2.1 138 = .ok (.bipush 17, 2) := by decide +kernel
theorem d_L_told_140 : decode m_L_told.2.1 140 = .ok (.ishr, 1) := by decide +kernel
theorem d_L_told_141 : decode m_L_told.2.1 141 = .ok (.iconst 3, 1) := by decide +kernel
theorem d_L_told_142 : decode m_L_told.2.1 142 = .ok (.iand, 1) := by decide +kernel
theorem d_L_told_143 : decode m_L_told.2.1 143 = .ok (.iconst 3, 1) := by decide +kernel
theorem d_L_told_144 : decode m_L_told.2.1 144 = .ok (.irem, 1) := by decide +kernel
theorem d_L_told_145 : decode m_L_told.2.1 145 = .ok (.goto 4, 3) := by decide +kernel
theorem d_L_told_148 : decode m_L_told.2.1 148 = .ok (.iconst 0, 1) := by decide +kernel
theorem d_L_told_149 : decode m_L_told.2.1 149 = .ok (.iastore, 1) := by decide +kernel
theorem d_L_told_150 : decode m_L_told.2.1 150 = .ok (.aload_n 2, 1) := by decide +kernel
theorem d_L_told_151 : decode m_L_told.2.1 151 = .ok (.bipush 20, 2) := by decide +kernel
theorem d_L_told_153 : decode m_L_told.2.1 153 = .ok (.iload 6, 2) := by decide +kernel
theorem d_L_told_155 : decode m_L_told.2.1 155 = .ok (.iadd, 1) := by decide +kernel
theorem d_L_told_156 : decode m_L_told.2.1 156 = .ok (.iconst 0, 1) := by decide +kernel
theorem d_L_told_157 : decode m_L_told.2.1 157 = .ok (.iastore, 1) := by decide +kernel
theorem d_L_told_158 : decode m_L_told.2.1 158 = .ok (.aload_n 1, 1) := by decide +kernel
theorem d_L_told_159 : decode m_L_told.2.1 159 = .ok (.iload 5, 2) := by decide +kernel
theorem d_L_told_161 : decode m_L_told.2.1 161 = .ok (.iload 6, 2) := by decide +kernel
theorem d_L_told_163 : decode m_L_told.2.1 163 = .ok (.invokestatic 60, 3) := by decide +kernel
theorem d_L_told_166 : decode m_L_told.2.1 166 = .ok (.invokestatic 53, 3) := by decide +kernel
theorem d_L_told_169 : decode m_L_told.2.1 169 = .ok (.istore 5, 2) := by decide +kernel
theorem d_L_told_171 : decode m_L_told.2.1 171 = .ok (.iload 6, 2) := by decide +kernel
theorem d_L_told_173 : decode m_L_told.2.1 173 = .ok (.iconst 1, 1) := by decide +kernel
theorem d_L_told_174 : decode m_L_told.2.1 174 = .ok (.if_icmp .ne 15, 3) := by decide +kernel
theorem d_L_told_177 : decode m_L_told.2.1 177 = .ok (.aload_n 1, 1) := by decide +kernel
theorem d_L_told_178 : decode m_L_told.2.1 178 = .ok (.iload 5, 2) := by decide +kernel
theorem d_L_told_180 : decode m_L_told.2.1 180 = .ok (.aload_n 2, 1) := by decide +kernel
theorem d_L_told_181 : decode m_L_told.2.1 181 = .ok (.bipush 11, 2) := by decide +kernel
theorem d_L_told_183 : decode m_L_told.2.1 183 = .ok (.iaload, 1) := by decide +kernel
theorem d_L_told_184 : decode m_L_told.2.1 184 = .ok (.invokestatic 57, 3) := by decide +kernel
theorem d_L_told_187 : decode m_L_told.2.1 187 = .ok (.istore 5, 2) := by decide +kernel
theorem d_L_told_189 : decode m_L_told.2.1 189 = .ok (.iload 6, 2) := by decide +kernel
theorem d_L_told_191 : decode m_L_told.2.1 191 = .ok (.bipush 6, 2) := by decide +kernel
theorem d_L_told_193 : decode m_L_told.2.1 193 = .ok (.if_icmp .ne 33, 3) := by decide +kernel
theorem d_L_told_196 : decode m_L_told.2.1 196 = .ok (.aload_n 2, 1) := by decide +kernel
theorem d_L_told_197 : decode m_L_told.2.1 197 = .ok (.bipush 18, 2) := by decide +kernel
theorem d_L_told_199 : decode m_L_told.2.1 199 = .ok (.iaload, 1) := by decide +kernel
theorem d_L_told_200 : decode m_L_told.2.1 200 = .ok (.ifCond .le 26, 3) := by decide +kernel
theorem d_L_told_203 : decode m_L_told.2.1 203 = .ok (.aload_n 1, 1) := by decide +kernel
theorem d_L_told_204 : decode m_L_told.2.1 204 = .ok (.iload 5, 2) := by decide +kernel
theorem d_L_told_206 : decode m_L_told.2.1 206 = .ok (.aload_n 2, 1) := by decide +kernel
theorem d_L_told_207 : decode m_L_told.2.1 207 = .ok (.bipush 18, 2) := by decide +kernel
theorem d_L_told_209 : decode m_L_told.2.1 209 = .ok (.iaload, 1) := by decide +kernel
theorem d_L_told_210 : decode m_L_told.2.1 210 = .ok (.iconst 1, 1) := by decide +kernel
theorem d_L_told_211 : decode m_L_told.2.1 211 = .ok (.if_icmp .ne 8, 3) := by decide +kernel
theorem d_L_told_214 : decode m_L_told.2.1 214 = .ok (.ldc 64, 2) := by decide +kernel
theorem d_L_told_216 : decode m_L_told.2.1 216 = .ok (.goto 5, 3) := by decide +kernel
theorem d_L_told_219 : decode m_L_told.2.1 219 = .ok (.ldc 66, 2) := by decide +kernel
theorem d_L_told_221 : decode m_L_told.2.1 221 = .ok (.invokestatic 53, 3) := by decide +kernel
theorem d_L_told_224 : decode m_L_told.2.1 224 = .ok (.istore 5, 2) := by decide +kernel
theorem d_L_told_226 : decode m_L_told.2.1 226 = .ok (.aload_n 1, 1) := by decide +kernel
theorem d_L_told_227 : decode m_L_told.2.1 227 = .ok (.iload 5, 2) := by decide +kernel
theorem d_L_told_229 : decode m_L_told.2.1 229 = .ok (.bipush 59, 2) := by decide +kernel
theorem d_L_told_231 : decode m_L_told.2.1 231 = .ok (.invokestatic 17, 3) := by decide +kernel
theorem d_L_told_234 : decode m_L_told.2.1 234 = .ok (.istore 5, 2) := by decide +kernel
theorem d_L_told_236 : decode m_L_told.2.1 236 = .ok (.iinc 6 1, 3) := by decide +kernel
theorem d_L_told_239 : decode m_L_told.2.1 239 = .ok (.goto (-131), 3) := by decide +kernel
theorem d_L_told_242 : decode m_L_told.2.1 242 = .ok (.aload_n 2, 1) := by decide +kernel
theorem d_L_told_243 : decode m_L_told.2.1 243 = .ok (.iconst 1, 1) := by decide +kernel
theorem d_L_told_244 : decode m_L_told.2.1 244 = .ok (.iconst 1, 1) := by decide +kernel
theorem d_L_told_245 : decode m_L_told.2.1 245 = .ok (.iload_n 3, 1) := by decide +kernel
theorem d_L_told_246 : decode m_L_told.2.1 246 = .ok (.iconst 1, 1) := by decide +kernel
theorem d_L_told_247 : decode m_L_told.2.1 247 = .ok (.ishr, 1) := by decide +kernel
theorem d_L_told_248 : decode m_L_told.2.1 248 = .ok (.iconst 1, 1) := by decide +kernel
theorem d_L_told_249 : decode m_L_told.2.1 249 = .ok (.iand, 1) := by decide +kernel
theorem d_L_told_250 : decode m_L_told.2.1 250 = .ok (.iadd, 1) := by decide +kernel
theorem d_L_told_251 : decode m_L_told.2.1 251 = .ok (.iastore, 1) := by decide +kernel
theorem d_L_told_252 : decode m_L_told.2.1 252 = .ok (.aload_n 1, 1) := by decide +kernel
theorem d_L_told_253 : decode m_L_told.2.1 253 = .ok (.iload 5, 2) := by decide +kernel
theorem d_L_told_255 : decode m_L_told.2.1 255 = .ok (.ldc 68, 2) := by decide +kernel
theorem d_L_told_257 : decode m_L_told.2.1 257 = .ok (.invokestatic 53, 3) := by decide +kernel
theorem d_L_told_260 : decode m_L_told.2.1 260 = .ok (.istore 5, 2) := by decide +kernel
theorem d_L_told_262 : decode m_L_told.2.1 262 = .ok (.iconst 0, 1) := by decide +kernel
theorem d_L_told_263 : decode m_L_told.2.1 263 = .ok (.istore 6, 2) := by decide +kernel
theorem d_L_told_265 : decode m_L_told.2.1 265 = .ok (.iload 6, 2) := by decide +kernel
theorem d_L_told_267 : decode m_L_told.2.1 267 = .ok (.aload_n 2, 1) := by decide +kernel
theorem d_L_told_268 : decode m_L_told.2.1 268 = .ok (.iconst 1, 1) := by decide +kernel
theorem d_L_told_269 : decode m_L_told.2.1 269 = .ok (.iaload, 1) := by decide +kernel
theorem d_L_told_270 : decode m_L_told.2.1 270 = .ok (.if_icmp .ge 49, 3) := by decide +kernel
theorem d_L_told_273 : decode m_L_told.2.1 273 = .ok (.aload_n 2, 1) := by decide +kernel
theorem d_L_told_274 : decode m_L_told.2.1 274 = .ok (.iconst 2, 1) := by decide +kernel
theorem d_L_told_275 : decode m_L_told.2.1 275 = .ok (.iload 6, 2) := by decide +kernel
theorem d_L_told_277 : decode m_L_told.2.1 277 = .ok (.iadd, 1) := by decide +kernel
theorem d_L_told_278 : decode m_L_told.2.1 278 = .ok (.iconst 1, 1) := by decide +kernel
theorem d_L_told_279 : decode m_L_told.2.1 279 = .ok (.iload_n 3, 1) := by decide +kernel
theorem d_L_told_280 : decode m_L_told.2.1 280 = .ok (.iconst 2, 1) := by decide +kernel
theorem d_L_told_281 : decode m_L_told.2.1 281 = .ok (.iconst 2, 1) := by decide +kernel
theorem d_L_told_282 : decode m_L_told.2.1 282 = .ok (.iload 6, 2) := by decide +kernel
theorem d_L_told_284 : decode m_L_told.2.1 284 = .ok (.imul, 1) := by decide +kernel
theorem d_L_told_285 : decode m_L_told.2.1 285 = .ok (.iadd, 1) := by decide +kernel
theorem d_L_told_286 : decode m_L_told.2.1 286 = .ok (.ishr, 1) := by decide +kernel
theorem d_L_told_287 : decode m_L_told.2.1 287 = .ok (.iconst 3, 1) := by decide +kernel
theorem d_L_told_288 : decode m_L_told.2.1 288 = .ok (.iand, 1) := by decide +kernel
theorem d_L_told_289 : decode m_L_told.2.1 289 = .ok (.iconst 3, 1) := by decide +kernel
theorem d_L_told_290 : decode m_L_told.2.1 290 = .ok (.irem, 1) := by decide +kernel
theorem d_L_told_291 : decode m_L_told.2.1 291 = .ok (.iadd, 1) := by decide +kernel
theorem d_L_told_292 : decode m_L_told.2.1 292 = .ok (.iastore, 1) := by decide +kernel
theorem d_L_told_293 : decode m_L_told.2.1 293 = .ok (.aload_n 1, 1) := by decide +kernel
theorem d_L_told_294 : decode m_L_told.2.1 294 = .ok (.aload_n 1, 1) := by decide +kernel
theorem d_L_told_295 : decode m_L_told.2.1 295 = .ok (.iload 5, 2) := by decide +kernel
theorem d_L_told_297 : decode m_L_told.2.1 297 = .ok (.bipush 32, 2) := by decide +kernel
theorem d_L_told_299 : decode m_L_told.2.1 299 = .ok (.invokestatic 17, 3) := by decide +kernel
theorem d_L_told_302 : decode m_L_told.2.1 302 = .ok (.aload_n 2, 1) := by decide +kernel
theorem d_L_told_303 : decode m_L_told.2.1 303 = .ok (.iconst 2, 1) := by decide +kernel
theorem d_L_told_304 : decode m_L_told.2.1 304 = .ok (.iload 6, 2) := by decide +kernel
theorem d_L_told_306 : decode m_L_told.2.1 306 = .ok (.iadd, 1) := by decide +kernel
theorem d_L_told_307 : decode m_L_told.2.1 307 = .ok (.iaload, 1) := by decide +kernel
theorem d_L_told_308 : decode m_L_told.2.1 308 = .ok (.invokestatic 57, 3) := by decide +kernel
theorem d_L_told_311 : decode m_L_told.2.1 311 = .ok (.istore 5, 2) := by decide +kernel
theorem d_L_told_313 : decode m_L_told.2.1 313 = .ok (.iinc 6 1, 3) := by decide +kernel
theorem d_L_told_316 : decode m_L_told.2.1 316 = .ok (.goto (-51), 3) := by decide +kernel
theorem d_L_told_319 : decode m_L_told.2.1 319 = .ok (.aload_n 1, 1) := by decide +kernel
theorem d_L_told_320 : decode m_L_told.2.1 320 = .ok (.iload 5, 2) := by decide +kernel
theorem d_L_told_322 : decode m_L_told.2.1 322 = .ok (.bipush 59, 2) := by decide +kernel
theorem d_L_told_324 : decode m_L_told.2.1 324 = .ok (.invokestatic 17, 3) := by decide +kernel
theorem d_L_told_327 : decode m_L_told.2.1 327 = .ok (.istore 5, 2) := by decide +kernel
theorem d_L_told_329 : decode m_L_told.2.1 329 = .ok (.aload_n 2, 1) := by decide +kernel
theorem d_L_told_330 : decode m_L_told.2.1 330 = .ok (.bipush 6, 2) := by decide +kernel
theorem d_L_told_332 : decode m_L_told.2.1 332 = .ok (.iload_n 3, 1) := by decide +kernel
theorem d_L_told_333 : decode m_L_told.2.1 333 = .ok (.bipush 19, 2) := by decide +kernel
theorem d_L_told_335 : decode m_L_told.2.1 335 = .ok (.ishr, 1) := by decide +kernel
theorem d_L_told_336 : decode m_L_told.2.1 336 = .ok (.iconst 1, 1) := by decide +kernel
theorem d_L_told_337 : decode m_L_told.2.1 337 = .ok (.iand, 1) := by decide +kernel
theorem d_L_told_338 : decode m_L_told.2.1 338 = .ok (.iastore, 1) := by decide +kernel
theorem d_L_told_339 : decode m_L_told.2.1 339 = .ok (.aload_n 2, 1) := by decide +kernel
theorem d_L_told_340 : decode m_L_told.2.1 340 = .ok (.bipush 6, 2) := by decide +kernel
theorem d_L_told_342 : decode m_L_told.2.1 342 = .ok (.iaload, 1) := by decide +kernel
theorem d_L_told_343 : decode m_L_told.2.1 343 = .ok (.iconst 1, 1) := by decide +kernel
theorem d_L_told_344 : decode m_L_told.2.1 344 = .ok (.if_icmp .ne 13, 3) := by decide +kernel
theorem d_L_told_347 : decode m_L_told.2.1 347 = .ok (.aload_n 1, 1) := by decide +kernel
theorem d_L_told_348 : decode m_L_told.2.1 348 = .ok (.iload 5, 2) := by decide +kernel
theorem d_L_told_350 : decode m_L_told.2.1 350 = .ok (.ldc 70, 2) := by decide +kernel
theorem d_L_told_352 : decode m_L_told.2.1 352 = .ok (.invokestatic 53, 3) := by decide +kernel
theorem d_L_told_355 : decode m_L_told.2.1 355 = .ok (.istore 5, 2) := by decide +kernel
theorem d_L_told_357 : decode m_L_told.2.1 357 = .ok (.aload_n 2, 1) := by decide +kernel
theorem d_L_told_358 : decode m_L_told.2.1 358 = .ok (.bipush 7, 2) := by decide +kernel
theorem d_L_told_360 : decode m_L_told.2.1 360 = .ok (.iload_n 3, 1) := by decide +kernel
theorem d_L_told_361 : decode m_L_told.2.1 361 = .ok (.bipush 20, 2) := by decide +kernel
theorem d_L_told_363 : decode m_L_told.2.1 363 = .ok (.ishr, 1) := by decide +kernel
theorem d_L_told_364 : decode m_L_told.2.1 364 = .ok (.iconst 1, 1) := by decide +kernel
theorem d_L_told_365 : decode m_L_told.2.1 365 = .ok (.iand, 1) := by decide +kernel
theorem d_L_told_366 : decode m_L_told.2.1 366 = .ok (.iastore, 1) := by decide +kernel
theorem d_L_told_367 : decode m_L_told.2.1 367 = .ok (.aload_n 2, 1) := by decide +kernel
theorem d_L_told_368 : decode m_L_told.2.1 368 = .ok (.bipush 7, 2) := by decide +kernel
theorem d_L_told_370 : decode m_L_told.2.1 370 = .ok (.iaload, 1) := by decide +kernel
theorem d_L_told_371 : decode m_L_told.2.1 371 = .ok (.iconst 1, 1) := by decide +kernel
theorem d_L_told_372 : decode m_L_told.2.1 372 = .ok (.if_icmp .ne 13, 3) := by decide +kernel
theorem d_L_told_375 : decode m_L_told.2.1 375 = .ok (.aload_n 1, 1) := by decide +kernel
theorem d_L_told_376 : decode m_L_told.2.1 376 = .ok (.iload 5, 2) := by decide +kernel
theorem d_L_told_378 : decode m_L_told.2.1 378 = .ok (.ldc 72, 2) := by decide +kernel
theorem d_L_told_380 : decode m_L_told.2.1 380 = .ok (.invokestatic 53, 3) := by decide +kernel
theorem d_L_told_383 : decode m_L_told.2.1 383 = .ok (.istore 5, 2) := by decide +kernel
theorem d_L_told_385 : decode m_L_told.2.1 385 = .ok (.aload_n 0, 1) := by decide +kernel
theorem d_L_told_386 : decode m_L_told.2.1 386 = .ok (.aload_n 1, 1) := by decide +kernel
theorem d_L_told_387 : decode m_L_told.2.1 387 = .ok (.iload 5, 2) := by decide +kernel
theorem d_L_told_389 : decode m_L_told.2.1 389 = .ok (.invokestatic 74, 3) := by decide +kernel
theorem d_L_told_392 : decode m_L_told.2.1 392 = .ok (.ifCond .eq 8, 3) := by decide +kernel
theorem d_L_told_395 : decode m_L_told.2.1 395 = .ok (.iload 5, 2) := by decide +kernel
theorem d_L_told_397 : decode m_L_told.2.1 397 = .ok (.goto 6, 3) := by decide +kernel
theorem d_L_told_400 : decode m_L_told.2.1 400 = .ok (.sipush (-3000), 3) := by decide +kernel
theorem d_L_told_403 : decode m_L_told.2.1 403 = .ok (.istore 6, 2) := by decide +kernel
theorem d_L_told_405 : decode m_L_told.2.1 405 = .ok (.aload_n 2, 1) := by decide +kernel
theorem d_L_told_406 : decode m_L_told.2.1 406 = .ok (.iconst 0, 1) := by decide +kernel
theorem d_L_told_407 : decode m_L_told.2.1 407 = .ok (.iaload, 1) := by decide +kernel
theorem d_L_told_408 : decode m_L_told.2.1 408 = .ok (.bipush 8, 2) := by decide +kernel
theorem d_L_told_410 : decode m_L_told.2.1 410 = .ok (.iadd, 1) := by decide +kernel
theorem d_L_told_411 : decode m_L_told.2.1 411 = .ok (.aload_n 2, 1) := by decide +kernel
theorem d_L_told_412 : decode m_L_told.2.1 412 = .ok (.bipush 6, 2) := by decide +kernel
theorem d_L_told_414 : decode m_L_told.2.1 414 = .ok (.iaload, 1) := by decide +kernel
theorem d_L_told_415 : decode m_L_told.2.1 415 = .ok (.iadd, 1) := by decide +kernel
theorem d_L_told_416 : decode m_L_told.2.1 416 = .ok (.aload_n 2, 1) := by decide +kernel
theorem d_L_told_417 : decode m_L_told.2.1 417 = .ok (.bipush 7, 2) := by decide +kernel
theorem d_L_told_419 : decode m_L_told.2.1 419 = .ok (.iaload, 1) := by decide +kernel
theorem d_L_told_420 : decode m_L_told.2.1 420 = .ok (.iadd, 1) := by decide +kernel
theorem d_L_told_421 : decode m_L_told.2.1 421 = .ok (.istore 7, 2) := by decide +kernel
theorem d_L_told_423 : decode m_L_told.2.1 423 = .ok (.iconst 0, 1) := by decide +kernel
theorem d_L_told_424 : decode m_L_told.2.1 424 = .ok (.istore 8, 2) := by decide +kernel
theorem d_L_told_426 : decode m_L_told.2.1 426 = .ok (.iconst 0, 1) := by decide +kernel
theorem d_L_told_427 : decode m_L_told.2.1 427 = .ok (.istore 5, 2) := by decide +kernel
theorem d_L_told_429 : decode m_L_told.2.1 429 = .ok (.iconst 0, 1) := by decide +kernel
theorem d_L_told_430 : decode m_L_told.2.1 430 = .ok (.istore 9, 2) := by decide +kernel
theorem d_L_told_432 : decode m_L_told.2.1 432 = .ok (.iload 9, 2) := by decide +kernel
theorem d_L_told_434 : decode m_L_told.2.1 434 = .ok (.bipush 7, 2) := by decide +kernel
theorem d_L_told_436 : decode m_L_told.2.1 436 = .ok (.if_icmp .ge 185, 3) := by decide +kernel
theorem d_L_told_439 : decode m_L_told.2.1 439 = .ok (.iconst 0, 1) := by decide +kernel
theorem d_L_told_440 : decode m_L_told.2.1 440 = .ok (.istore 10, 2) := by decide +kernel
theorem d_L_told_442 : decode m_L_told.2.1 442 = .ok (.iload 10, 2) := by decide +kernel
theorem d_L_told_444 : decode m_L_told.2.1 444 = .ok (.bipush 7, 2) := by decide +kernel
theorem d_L_told_446 : decode m_L_told.2.1 446 = .ok (.if_icmp .ge 169, 3) := by decide +kernel
theorem d_L_told_449 : decode m_L_told.2.1 449 = .ok (.iload 9, 2) := by decide +kernel
theorem d_L_told_451 : decode m_L_told.2.1 451 = .ok (.iconst 1, 1) := by decide +kernel
theorem d_L_told_452 : decode m_L_told.2.1 452 = .ok (.if_icmp .eq 9, 3) := by decide +kernel
theorem d_L_told_455 : decode m_L_told.2.1 455 = .ok (.iload 9, 2) := by decide +kernel
theorem d_L_told_457 : decode m_L_told.2.1 457 = .ok (.iconst 2, 1) := by decide +kernel
theorem d_L_told_458 : decode m_L_told.2.1 458 = .ok (.if_icmp .ne 8, 3) := by decide +kernel
theorem d_L_told_461 : decode m_L_told.2.1 461 = .ok (.iload 10, 2) := by decide +kernel
theorem d_L_told_463 : decode m_L_told.2.1 463 = .ok (.ifCond .eq 22, 3) := by decide +kernel
theorem d_L_told_466 : decode m_L_told.2.1 466 = .ok (.iload 9, 2) := by decide +kernel
theorem d_L_told_468 : decode m_L_told.2.1 468 = .ok (.iconst 2, 1) := by decide +kernel
theorem d_L_told_469 : decode m_L_told.2.1 469 = .ok (.if_icmp .le 20, 3) := by decide +kernel
theorem d_L_told_472 : decode m_L_told.2.1 472 = .ok (.iload 9, 2) := by decide +kernel
theorem d_L_told_474 : decode m_L_told.2.1 474 = .ok (.bipush 6, 2) := by decide +kernel
theorem d_L_told_476 : decode m_L_told.2.1 476 = .ok (.if_icmp .ge 13, 3) := by decide +kernel
theorem d_L_told_479 : decode m_L_told.2.1 479 = .ok (.iload 10, 2) := by decide +kernel
theorem d_L_told_481 : decode m_L_told.2.1 481 = .ok (.iconst 1, 1) := by decide +kernel
theorem d_L_told_482 : decode m_L_told.2.1 482 = .ok (.if_icmp .ne 7, 3) := by decide +kernel
theorem d_L_told_485 : decode m_L_told.2.1 485 = .ok (.iconst 1, 1) := by decide +kernel
theorem d_L_told_486 : decode m_L_told.2.1 486 = .ok (.goto 4, 3) := by decide +kernel
theorem d_L_told_489 : decode m_L_told.2.1 489 = .ok (.iconst 0, 1) := by decide +kernel
theorem d_L_told_490 : decode m_L_told.2.1 490 = .ok (.istore 11, 2) := by decide +kernel
theorem d_L_told_492 : decode m_L_told.2.1 492 = .ok (.iload 11, 2) := by decide +kernel
theorem d_L_told_494 : decode m_L_told.2.1 494 = .ok (.ifCond .ne 58, 3) := by decide +kernel
theorem d_L_told_497 : decode m_L_told.2.1 497 = .ok (.bipush 7, 2) := by decide +kernel
theorem d_L_told_499 : decode m_L_told.2.1 499 = .ok (.iload 9, 2) := by decide +kernel
theorem d_L_told_501 : decode m_L_told.2.1 501 = .ok (.imul, 1) := by decide +kernel
theorem d_L_told_502 : decode m_L_told.2.1 502 = .ok (.iload 10, 2) := by decide +kernel
theorem d_L_told_504 : decode m_L_told.2.1 504 = .ok (.iadd, 1) := by decide +kernel
theorem d_L_told_505 : decode m_L_told.2.1 505 = .ok (.iconst 3, 1) := by decide +kernel
theorem d_L_told_506 : decode m_L_told.2.1 506 = .ok (.irem, 1) := by decide +kernel
theorem d_L_told_507 : decode m_L_told.2.1 507 = .ok (.ifCond .gt 22, 3) := by decide +kernel
theorem d_L_told_510 : decode m_L_told.2.1 510 = .ok (.iload 4, 2) := by decide +kernel
theorem d_L_told_512 : decode m_L_told.2.1 512 = .ok (.bipush 7, 2) := by decide +kernel
theorem d_L_told_514 : decode m_L_told.2.1 514 = .ok (.iload 9, 2) := by decide +kernel
theorem d_L_told_516 : decode m_L_told.2.1 516 = .ok (.imul, 1) := by decide +kernel
theorem d_L_told_517 : decode m_L_told.2.1 517 = .ok (.iload 10, 2) := by decide +kernel
theorem d_L_told_519 : decode m_L_told.2.1 519 = .ok (.iadd, 1) := by decide +kernel
theorem d_L_told_520 : decode m_L_told.2.1 520 = .ok (.bipush 31, 2) := by decide +kernel
theorem d_L_told_522 : decode m_L_told.2.1 522 = .ok (.irem, 1) := by decide +kernel
theorem d_L_told_523 : decode m_L_told.2.1 523 = .ok (.ishr, 1) := by decide +kernel
theorem d_L_told_524 : decode m_L_told.2.1 524 = .ok (.iconst 1, 1) := by decide +kernel
theorem d_L_told_525 : decode m_L_told.2.1 525 = .ok (.iand, 1) := by decide +kernel
theorem d_L_told_526 : decode m_L_told.2.1 526 = .ok (.ifCond .ne 26, 3) := by decide +kernel
theorem d_L_told_529 : decode m_L_told.2.1 529 = .ok (.iload 9, 2) := by decide +kernel
theorem d_L_told_531 : decode m_L_told.2.1 531 = .ok (.bipush 6, 2) := by decide +kernel
theorem d_L_told_533 : decode m_L_told.2.1 533 = .ok (.if_icmp .lt 76, 3) := by decide +kernel
theorem d_L_told_536 : decode m_L_told.2.1 536 = .ok (.iload 4, 2) := by decide +kernel
theorem d_L_told_538 : decode m_L_told.2.1 538 = .ok (.bipush 24, 2) := by decide +kernel
theorem d_L_told_540 : decode m_L_told.2.1 540 = .ok (.iload 10, 2) := by decide +kernel
theorem d_L_told_542 : decode m_L_told.2.1 542 = .ok (.iadd, 1) := by decide +kernel
theorem d_L_told_543 : decode m_L_told.2.1 543 = .ok (.ishr, 1) := by decide +kernel
theorem d_L_told_544 : decode m_L_told.2.1 544 = .ok (.iconst 1, 1) := by decide +kernel
theorem d_L_told_545 : decode m_L_told.2.1 545 = .ok (.iand, 1) := by decide +kernel
theorem d_L_told_546 : decode m_L_told.2.1 546 = .ok (.ifCond .ne 6, 3) := by decide +kernel
theorem d_L_told_549 : decode m_L_told.2.1 549 = .ok (.goto 60, 3) := by decide +kernel
theorem d_L_told_552 : decode m_L_told.2.1 552 = .ok (.aload_n 2, 1) := by decide +kernel
theorem d_L_told_553 : decode m_L_told.2.1 553 = .ok (.bipush 20, 2) := by decide +kernel
theorem d_L_told_555 : decode m_L_told.2.1 555 = .ok (.iload 9, 2) := by decide +kernel
theorem d_L_told_557 : decode m_L_told.2.1 557 = .ok (.iadd, 1) := by decide +kernel
theorem d_L_told_558 : decode m_L_told.2.1 558 = .ok (.dup2, 1) := by decide +kernel
theorem d_L_told_559 : decode m_L_told.2.1 559 = .ok (.iaload, 1) := by decide +kernel
theorem d_L_told_560 : decode m_L_told.2.1 560 = .ok (.iconst 1, 1) := by decide +kernel
theorem d_L_told_561 : decode m_L_told.2.1 561 = .ok (.iload 10, 2) := by decide +kernel
theorem d_L_told_563 : decode m_L_told.2.1 563 = .ok (.ishl, 1) := by decide +kernel
theorem d_L_told_564 : decode m_L_told.2.1 564 = .ok (.ior, 1) := by decide +kernel
theorem d_L_told_565 : decode m_L_told.2.1 565 = .ok (.iastore, 1) := by decide +kernel
theorem d_L_told_566 : decode m_L_told.2.1 566 = .ok (.iinc 8 1, 3) := by decide +kernel
theorem d_L_told_569 : decode m_L_told.2.1 569 = .ok (.aload_n 1, 1) := by decide +kernel
theorem d_L_told_570 : decode m_L_told.2.1 570 = .ok (.aload_n 1, 1) := by decide +kernel
theorem d_L_told_571 : decode m_L_told.2.1 571 = .ok (.aload_n 1, 1) := by decide +kernel
theorem d_L_told_572 : decode m_L_told.2.1 572 = .ok (.aload_n 1, 1) := by decide +kernel
theorem d_L_told_573 : decode m_L_told.2.1 573 = .ok (.aload_n 1, 1) := by decide +kernel
theorem d_L_told_574 : decode m_L_told.2.1 574 = .ok (.iload 5, 2) := by decide +kernel
theorem d_L_told_576 : decode m_L_told.2.1 576 = .ok (.ldc 78, 2) := by decide +kernel
theorem d_L_told_578 : decode m_L_told.2.1 578 = .ok (.invokestatic 53, 3) := by decide +kernel
theorem d_L_told_581 : decode m_L_told.2.1 581 = .ok (.iload 9, 2) := by decide +kernel
theorem d_L_told_583 : decode m_L_told.2.1 583 = .ok (.invokestatic 80, 3) := by decide +kernel
theorem d_L_told_586 : decode m_L_told.2.1 586 = .ok (.invokestatic 17, 3) := by decide +kernel
theorem d_L_told_589 : decode m_L_told.2.1 589 = .ok (.bipush 32, 2) := by decide +kernel
theorem d_L_told_591 : decode m_L_told.2.1 591 = .ok (.invokestatic 17, 3) := by decide +kernel
theorem d_L_told_594 : decode m_L_told.2.1 594 = .ok (.iload 10, 2) := by decide +kernel
theorem d_L_told_596 : decode m_L_told.2.1 596 = .ok (.invokestatic 80, 3) := by decide +kernel
theorem d_L_told_599 : decode m_L_told.2.1 599 = .ok (.invokestatic 17, 3) := by decide +kernel
theorem d_L_told_602 : decode m_L_told.2.1 602 = .ok (.bipush 59, 2) := by decide +kernel
theorem d_L_told_604 : decode m_L_told.2.1 604 = .ok (.invokestatic 17, 3) := by decide +kernel
theorem d_L_told_607 : decode m_L_told.2.1 607 = .ok (.istore 5, 2) := by decide +kernel
theorem d_L_told_609 : decode m_L_told.2.1 609 = .ok (.iinc 10 1, 3) := by decide +kernel
theorem d_L_told_612 : decode m_L_told.2.1 612 = .ok (.goto (-170), 3) := by decide +kernel
theorem d_L_told_615 : decode m_L_told.2.1 615 = .ok (.iinc 9 1, 3) := by decide +kernel
theorem d_L_told_618 : decode m_L_told.2.1 618 = .ok (.goto (-186), 3) := by decide +kernel
theorem d_L_told_621 : decode m_L_told.2.1 621 = .ok (.aload_n 0, 1) := by decide +kernel
theorem d_L_told_622 : decode m_L_told.2.1 622 = .ok (.aload_n 1, 1) := by decide +kernel
theorem d_L_told_623 : decode m_L_told.2.1 623 = .ok (.iload 5, 2) := by decide +kernel
theorem d_L_told_625 : decode m_L_told.2.1 625 = .ok (.iload 6, 2) := by decide +kernel
theorem d_L_told_627 : decode m_L_told.2.1 627 = .ok (.invokestatic 33, 3) := by decide +kernel
theorem d_L_told_630 : decode m_L_told.2.1 630 = .ok (.istore 6, 2) := by decide +kernel
theorem d_L_told_632 : decode m_L_told.2.1 632 = .ok (.iload 6, 2) := by decide +kernel
theorem d_L_told_634 : decode m_L_told.2.1 634 = .ok (.ifCond .le 101, 3) := by decide +kernel
theorem d_L_told_637 : decode m_L_told.2.1 637 = .ok (.aload_n 0, 1) := by decide +kernel
theorem d_L_told_638 : decode m_L_told.2.1 638 = .ok (.invokevirtual 84, 3) := by decide +kernel
theorem d_L_told_641 : decode m_L_told.2.1 641 = .ok (.iload 7, 2) := by decide +kernel
theorem d_L_told_643 : decode m_L_told.2.1 643 = .ok (.iload 8, 2) := by decide +kernel
theorem d_L_told_645 : decode m_L_told.2.1 645 = .ok (.iadd, 1) := by decide +kernel
theorem d_L_told_646 : decode m_L_told.2.1 646 = .ok (.if_icmp .ne 89, 3) := by decide +kernel
theorem d_L_told_649 : decode m_L_told.2.1 649 = .ok (.aload_n 0, 1) := by decide +kernel
theorem d_L_told_650 : decode m_L_told.2.1 650 = .ok (.invokevirtual 87, 3) := by decide +kernel
theorem d_L_told_653 : decode m_L_told.2.1 653 = .ok (.ifCond .ne 82, 3) := by decide +kernel
theorem d_L_told_656 : decode m_L_told.2.1 656 = .ok (.aload_n 0, 1) := by decide +kernel
theorem d_L_told_657 : decode m_L_told.2.1 657 = .ok (.iconst 0, 1) := by decide +kernel
theorem d_L_told_658 : decode m_L_told.2.1 658 = .ok (.invokevirtual 90, 3) := by decide +kernel
theorem d_L_told_661 : decode m_L_told.2.1 661 = .ok (.aload_n 2, 1) := by decide +kernel
theorem d_L_told_662 : decode m_L_told.2.1 662 = .ok (.iconst 0, 1) := by decide +kernel
theorem d_L_told_663 : decode m_L_told.2.1 663 = .ok (.iaload, 1) := by decide +kernel
theorem d_L_told_664 : decode m_L_told.2.1 664 = .ok (.if_icmp .ne 71, 3) := by decide +kernel
theorem d_L_told_667 : decode m_L_told.2.1 667 = .ok (.aload_n 0, 1) := by decide +kernel
theorem d_L_told_668 : decode m_L_told.2.1 668 = .ok (.iconst 1, 1) := by decide +kernel
theorem d_L_told_669 : decode m_L_told.2.1 669 = .ok (.invokevirtual 90, 3) := by decide +kernel
theorem d_L_told_672 : decode m_L_told.2.1 672 = .ok (.bipush 7, 2) := by decide +kernel
theorem d_L_told_674 : decode m_L_told.2.1 674 = .ok (.if_icmp .ne 61, 3) := by decide +kernel
theorem d_L_told_677 : decode m_L_told.2.1 677 = .ok (.aload_n 0, 1) := by decide +kernel
theorem d_L_told_678 : decode m_L_told.2.1 678 = .ok (.iconst 2, 1) := by decide +kernel
theorem d_L_told_679 : decode m_L_told.2.1 679 = .ok (.invokevirtual 90, 3) := by decide +kernel
theorem d_L_told_682 : decode m_L_told.2.1 682 = .ok (.iload 8, 2) := by decide +kernel
theorem d_L_told_684 : decode m_L_told.2.1 684 = .ok (.if_icmp .ne 51, 3) := by decide +kernel
theorem d_L_told_687 : decode m_L_told.2.1 687 = .ok (.aload_n 0, 1) := by decide +kernel
theorem d_L_told_688 : decode m_L_told.2.1 688 = .ok (.iconst 3, 1) := by decide +kernel
theorem d_L_told_689 : decode m_L_told.2.1 689 = .ok (.invokevirtual 90, 3) := by decide +kernel
theorem d_L_told_692 : decode m_L_told.2.1 692 = .ok (.aload_n 2, 1) := by decide +kernel
theorem d_L_told_693 : decode m_L_told.2.1 693 = .ok (.iconst 1, 1) := by decide +kernel
theorem d_L_told_694 : decode m_L_told.2.1 694 = .ok (.iaload, 1) := by decide +kernel
theorem d_L_told_695 : decode m_L_told.2.1 695 = .ok (.if_icmp .ne 40, 3) := by decide +kernel
theorem d_L_told_698 : decode m_L_told.2.1 698 = .ok (.aload_n 0, 1) := by decide +kernel
theorem d_L_told_699 : decode m_L_told.2.1 699 = .ok (.iconst 4, 1) := by decide +kernel
theorem d_L_told_700 : decode m_L_told.2.1 700 = .ok (.invokevirtual 90, 3) := by decide +kernel
theorem d_L_told_703 : decode m_L_told.2.1 703 = .ok (.aload_n 2, 1) := by decide +kernel
theorem d_L_told_704 : decode m_L_told.2.1 704 = .ok (.bipush 6, 2) := by decide +kernel
theorem d_L_told_706 : decode m_L_told.2.1 706 = .ok (.iaload, 1) := by decide +kernel
theorem d_L_told_707 : decode m_L_told.2.1 707 = .ok (.if_icmp .ne 28, 3) := by decide +kernel
theorem d_L_told_710 : decode m_L_told.2.1 710 = .ok (.aload_n 0, 1) := by decide +kernel
theorem d_L_told_711 : decode m_L_told.2.1 711 = .ok (.iconst 5, 1) := by decide +kernel
theorem d_L_told_712 : decode m_L_told.2.1 712 = .ok (.invokevirtual 90, 3) := by decide +kernel
theorem d_L_told_715 : decode m_L_told.2.1 715 = .ok (.aload_n 2, 1) := by decide +kernel
theorem d_L_told_716 : decode m_L_told.2.1 716 = .ok (.bipush 7, 2) := by decide +kernel
theorem d_L_told_718 : decode m_L_told.2.1 718 = .ok (.iaload, 1) := by decide +kernel
theorem d_L_told_719 : decode m_L_told.2.1 719 = .ok (.if_icmp .ne 16, 3) := by decide +kernel
theorem d_L_told_722 : decode m_L_told.2.1 722 = .ok (.aload_n 0, 1) := by decide +kernel
theorem d_L_told_723 : decode m_L_told.2.1 723 = .ok (.bipush 6, 2) := by decide +kernel
theorem d_L_told_725 : decode m_L_told.2.1 725 = .ok (.invokevirtual 90, 3) := by decide +kernel
theorem d_L_told_728 : decode m_L_told.2.1 728 = .ok (.ifCond .ne 7, 3) := by decide +kernel
theorem d_L_told_731 : decode m_L_told.2.1 731 = .ok (.iconst 1, 1) := by decide +kernel
theorem d_L_told_732 : decode m_L_told.2.1 732 = .ok (.goto 4, 3) := by decide +kernel
theorem d_L_told_735 : decode m_L_told.2.1 735 = .ok (.iconst 0, 1) := by decide +kernel
theorem d_L_told_736 : decode m_L_told.2.1 736 = .ok (.ireturn, 1) := by decide +kernel
set_option maxRecDepth 20000 in
theorem e_L_told {E : jm_E} {d : Nat} {μ : jm_M} {Q : Option jm_V → jm_M → Prop} {v3 v4 : Int} (h : (∀ v ∈ ([jm_R 0, jm_R 133, jm_R 134, jm_I v3, jm_I v4] : List jm_V), jm_ok v) →
  ∀ m1 : jm_M, m1 = (jm_up μ 134 0 (jm_wr (2 + (jm_and v3 1)))) →
  jg E m_L_told d 14 [some (jm_R 0), some (jm_R 133), some (jm_R 134), some (jm_I v3), some (jm_I v4), some (jm_I 0), some (jm_I 0), none, none, none, none, none] [] m1 Q) : jc E m_L_told (d + 1) [jm_R 0, jm_R 133, jm_R 134, jm_I v3, jm_I v4] μ Q := by
  refine jm_Cl.of2 (by decide +kernel) (L0 := [some (jm_R 0), some (jm_R 133), some (jm_R 134), some (jm_I v3), some (jm_I v4), none, none, none, none, none, none, none]) rfl (Nat.le_of_ble_eq_true rfl) (fun hok => ?_)
  have h := h hok
  refine jm_iconst (v := 0) d_L_told_0 rfl (jm_okI (by decide) (by decide)) ?_
  refine jm_istore (L' := [some (jm_R _), some (jm_R _), some (jm_R _), some (jm_I _), some (jm_I _), some (jm_I _), none, none, none, none, none, none]) d_L_told_1 (Nat.le_of_ble_eq_true rfl) rfl ?_
  refine jm_aloadn d_L_told_3 rfl ?_
  refine jm_iconst (v := 0) d_L_told_4 rfl (jm_okI (by decide) (by decide)) ?_
  refine jm_iconst (v := 2) d_L_told_5 rfl (jm_okI (by decide) (by decide)) ?_
  refine jm_iloadn d_L_told_6 rfl ?_
  refine jm_iconst (v := 1) d_L_told_7 rfl (jm_okI (by decide) (by decide)) ?_
  refine jm_iand d_L_told_8 ?_
  refine jm_iadd d_L_told_9 ?_
  refine jm_iastore d_L_told_10 (ixl_134 (by decide) (by decide)) ?_
  have h := h _ rfl
  refine jm_iconst (v := 0) d_L_told_11 rfl (jm_okI (by decide) (by decide)) ?_
  refine jm_istore (L' := [some (jm_R _), some (jm_R _), some (jm_R _), some (jm_I _), some (jm_I _), some (jm_I _), some (jm_I _), none, none, none, none, none]) d_L_told_12 (Nat.le_of_ble_eq_true rfl) rfl ?_
  exact h
set_option maxRecDepth 20000 in
theorem r_L_told_14 {E : jm_E} {d : Nat} {μ : jm_M} {Q : Option jm_V → jm_M → Prop} {v3 v4 v5 v6 : Int} (h :
  ((μ 134 0 ≤ v6 →
    ∀ m2 : jm_M, m2 = (jm_up μ 134 11 (jm_wr (1 + (jm_and (jm_shr v3 14) 7)))) →
    jg E m_L_told d 108 [some (jm_R 0), some (jm_R 133), some (jm_R 134), some (jm_I v3), some (jm_I v4), some (jm_I v5), some (jm_I 0), none, none, none, none, none] [] m2 Q) ∧
   (¬ (μ 134 0 ≤ v6) →
    (0 ≤ jm_wr (8 + v6) ∧ jm_wr (8 + v6) < 32) ∧
    ∀ m4 : jm_M, m4 = (jm_up μ 134 (jm_wr (8 + v6)) (jm_wr (1 + (jm_rem (jm_and (jm_shr v3 (jm_wr (8 + (jm_wr (2 * v6))))) 3) 3)))) →
    jc E m_L_add d [jm_R 133, jm_I v5, jm_R ((-101))] m4 (fun (o : Option jm_V) (m5 : jm_M) => ∀ r6 : Int, o = some (jm_I r6) →
    jc E m_L_put d [jm_R 133, jm_I r6, jm_I (jm_wr (97 + v6))] m5 (fun (o : Option jm_V) (m7 : jm_M) => ∀ r8 : Int, o = some (jm_I r8) →
    jc E m_L_put d [jm_R 133, jm_I r8, jm_I 32] m7 (fun (o : Option jm_V) (m9 : jm_M) => ∀ r10 : Int, o = some (jm_I r10) →
    jc E m_L_number d [jm_R 133, jm_I r10, jm_I (m9 134 (jm_wr (8 + v6)))] m9 (fun (o : Option jm_V) (m11 : jm_M) => ∀ r12 : Int, o = some (jm_I r12) →
    jc E m_L_put d [jm_R 133, jm_I r12, jm_I 59] m11 (fun (o : Option jm_V) (m13 : jm_M) => ∀ r14 : Int, o = some (jm_I r14) →
    jg E m_L_told d 14 [some (jm_R 0), some (jm_R 133), some (jm_R 134), some (jm_I v3), some (jm_I v4), some (jm_I r14), some (jm_I (jm_wr (v6 + 1))), none, none, none, none, none] [] m13 Q)))))))) : jg E m_L_told d 14 [some (jm_R 0), some (jm_R 133), some (jm_R 134), some (jm_I v3), some (jm_I v4), some (jm_I v5), some (jm_I v6), none, none, none, none, none] [] μ Q := by
  refine jm_iload d_L_told_14 rfl ?_
  refine jm_aloadn d_L_told_16 rfl ?_
  refine jm_iconst (v := 0) d_L_told_17 rfl (jm_okI (by decide) (by decide)) ?_
  refine jm_iaload d_L_told_18 (ixl_134 (by decide) (by decide)) ?_
  refine jm_icmp_ge (tgt := 92) d_L_told_19 (by decide) (fun c1 => ?_) (fun c1 => ?_)
  · have h := h.1 c1
    refine jm_aloadn d_L_told_92 rfl ?_
    refine jm_bipush (v := 11) d_L_told_93 rfl (jm_okI (by decide) (by decide)) ?_
    refine jm_iconst (v := 1) d_L_told_95 rfl (jm_okI (by decide) (by decide)) ?_
    refine jm_iloadn d_L_told_96 rfl ?_
    refine jm_bipush (v := 14) d_L_told_97 rfl (jm_okI (by decide) (by decide)) ?_
    refine jm_ishr d_L_told_99 ?_
    refine jm_bipush (v := 7) d_L_told_100 rfl (jm_okI (by decide) (by decide)) ?_
    refine jm_iand d_L_told_102 ?_
    refine jm_iadd d_L_told_103 ?_
    refine jm_iastore d_L_told_104 (ixl_134 (by decide) (by decide)) ?_
    have h := h _ rfl
    refine jm_iconst (v := 0) d_L_told_105 rfl (jm_okI (by decide) (by decide)) ?_
    refine jm_istore (L' := [some (jm_R _), some (jm_R _), some (jm_R _), some (jm_I _), some (jm_I _), some (jm_I _), some (jm_I _), none, none, none, none, none]) d_L_told_106 (Nat.le_of_ble_eq_true rfl) rfl ?_
    exact h
  · have h := h.2 c1
    refine jm_aloadn d_L_told_22 rfl ?_
    refine jm_bipush (v := 8) d_L_told_23 rfl (jm_okI (by decide) (by decide)) ?_
    refine jm_iload d_L_told_25 rfl ?_
    refine jm_iadd d_L_told_27 ?_
    refine jm_iconst (v := 1) d_L_told_28 rfl (jm_okI (by decide) (by decide)) ?_
    refine jm_iloadn d_L_told_29 rfl ?_
    refine jm_bipush (v := 8) d_L_told_30 rfl (jm_okI (by decide) (by decide)) ?_
    refine jm_iconst (v := 2) d_L_told_32 rfl (jm_okI (by decide) (by decide)) ?_
    refine jm_iload d_L_told_33 rfl ?_
    refine jm_imul d_L_told_35 ?_
    refine jm_iadd d_L_told_36 ?_
    refine jm_ishr d_L_told_37 ?_
    refine jm_iconst (v := 3) d_L_told_38 rfl (jm_okI (by decide) (by decide)) ?_
    refine jm_iand d_L_told_39 ?_
    refine jm_iconst (v := 3) d_L_told_40 rfl (jm_okI (by decide) (by decide)) ?_
    refine jm_irem d_L_told_41 (by decide) ?_
    refine jm_iadd d_L_told_42 ?_
    obtain ⟨f3, h⟩ := h
    refine jm_iastore d_L_told_43 (ixl_134 f3.1 f3.2) ?_
    have h := h _ rfl
    refine jm_aloadn d_L_told_44 rfl ?_
    refine jm_aloadn d_L_told_45 rfl ?_
    refine jm_aloadn d_L_told_46 rfl ?_
    refine jm_aloadn d_L_told_47 rfl ?_
    refine jm_aloadn d_L_told_48 rfl ?_
    refine jm_iload d_L_told_49 rfl ?_
    refine jm_ldcK (i := 0) (a := -101) (Nat.le_of_ble_eq_true rfl) rfl rfl rfl d_L_told_51 ?_
    refine jm_invS (n1 := jm_N) (mc := 0) (ms := 0) (av := [jm_R _, jm_I _, jm_R _]) w_L_add l_L_53 d_L_told_53 rfl ⟨Nat.le_refl _, Nat.le_refl _⟩ (Nat.le_of_ble_eq_true rfl) rfl ?_
    refine jm_Cl.mono h (fun o m5 h hr _ => ?_)
    obtain ⟨r6, rfl⟩ := jm_rokI hr
    have h := h _ rfl
    refine jm_bipush (v := 97) d_L_told_56 rfl (jm_okI (by decide) (by decide)) ?_
    refine jm_iload d_L_told_58 rfl ?_
    refine jm_iadd d_L_told_60 ?_
    refine jm_invS (n1 := jm_N) (mc := 0) (ms := 0) (av := [jm_R _, jm_I _, jm_I _]) w_L_put l_L_17 d_L_told_61 rfl ⟨Nat.le_refl _, Nat.le_refl _⟩ (Nat.le_of_ble_eq_true rfl) rfl ?_
    refine jm_Cl.mono h (fun o m7 h hr _ => ?_)
    obtain ⟨r8, rfl⟩ := jm_rokI hr
    have h := h _ rfl
    refine jm_bipush (v := 32) d_L_told_64 rfl (jm_okI (by decide) (by decide)) ?_
    refine jm_invS (n1 := jm_N) (mc := 0) (ms := 0) (av := [jm_R _, jm_I _, jm_I _]) w_L_put l_L_17 d_L_told_66 rfl ⟨Nat.le_refl _, Nat.le_refl _⟩ (Nat.le_of_ble_eq_true rfl) rfl ?_
    refine jm_Cl.mono h (fun o m9 h hr _ => ?_)
    obtain ⟨r10, rfl⟩ := jm_rokI hr
    have h := h _ rfl
    refine jm_aloadn d_L_told_69 rfl ?_
    refine jm_bipush (v := 8) d_L_told_70 rfl (jm_okI (by decide) (by decide)) ?_
    refine jm_iload d_L_told_72 rfl ?_
    refine jm_iadd d_L_told_74 ?_
    refine jm_iaload d_L_told_75 (ixl_134 f3.1 f3.2) ?_
    refine jm_invS (n1 := jm_N) (mc := 0) (ms := 0) (av := [jm_R _, jm_I _, jm_I _]) w_L_number l_L_57 d_L_told_76 rfl ⟨Nat.le_refl _, Nat.le_refl _⟩ (Nat.le_of_ble_eq_true rfl) rfl ?_
    refine jm_Cl.mono h (fun o m11 h hr _ => ?_)
    obtain ⟨r12, rfl⟩ := jm_rokI hr
    have h := h _ rfl
    refine jm_bipush (v := 59) d_L_told_79 rfl (jm_okI (by decide) (by decide)) ?_
    refine jm_invS (n1 := jm_N) (mc := 0) (ms := 0) (av := [jm_R _, jm_I _, jm_I _]) w_L_put l_L_17 d_L_told_81 rfl ⟨Nat.le_refl _, Nat.le_refl _⟩ (Nat.le_of_ble_eq_true rfl) rfl ?_
    refine jm_Cl.mono h (fun o m13 h hr _ => ?_)
    obtain ⟨r14, rfl⟩ := jm_rokI hr
    have h := h _ rfl
    refine jm_istore (L' := [some (jm_R _), some (jm_R _), some (jm_R _), some (jm_I _), some (jm_I _), some (jm_I _), some (jm_I _), none, none, none, none, none]) d_L_told_84 (Nat.le_of_ble_eq_true rfl) rfl ?_
    refine jm_iinc (L' := [some (jm_R _), some (jm_R _), some (jm_R _), some (jm_I _), some (jm_I _), some (jm_I _), some (jm_I _), none, none, none, none, none]) d_L_told_86 rfl rfl (Nat.le_of_ble_eq_true rfl) rfl ?_
    refine jm_goto (tgt := 14) d_L_told_89 (by decide) ?_
    exact h
set_option maxRecDepth 20000 in
theorem r_L_told_108 {E : jm_E} {d : Nat} {μ : jm_M} {Q : Option jm_V → jm_M → Prop} {v3 v4 v5 v6 : Int} (h :
  ((7 ≤ v6 →
    ∀ m2 : jm_M, m2 = (jm_up μ 134 1 (jm_wr (1 + (jm_and (jm_shr v3 1) 1)))) →
    jc E m_L_add d [jm_R 133, jm_I v5, jm_R ((-111))] m2 (fun (o : Option jm_V) (m3 : jm_M) => ∀ r4 : Int, o = some (jm_I r4) →
    jg E m_L_told d 265 [some (jm_R 0), some (jm_R 133), some (jm_R 134), some (jm_I v3), some (jm_I v4), some (jm_I r4), some (jm_I 0), none, none, none, none, none] [] m3 Q)) ∧
   (¬ (7 ≤ v6) →
    ((v6 ≠ 0 →
      ((v6 ≠ 6 →
        (0 ≤ jm_wr (12 + v6) ∧ jm_wr (12 + v6) < 32) ∧
        ∀ m8 : jm_M, m8 = (jm_up μ 134 (jm_wr (12 + v6)) 0) →
        (0 ≤ jm_wr (20 + v6) ∧ jm_wr (20 + v6) < 32) ∧
        ∀ m10 : jm_M, m10 = (jm_up m8 134 (jm_wr (20 + v6)) 0) →
        jc E m_L_kindOf d [jm_I v6] m10 (fun (o : Option jm_V) (m11 : jm_M) => ∀ r12 : Int, o = some (jm_R r12) →
        jc E m_L_add d [jm_R 133, jm_I v5, jm_R r12] m11 (fun (o : Option jm_V) (m13 : jm_M) => ∀ r14 : Int, o = some (jm_I r14) →
        ((v6 ≠ 1 →
          jg E m_L_told d 189 [some (jm_R 0), some (jm_R 133), some (jm_R 134), some (jm_I v3), some (jm_I v4), some (jm_I r14), some (jm_I v6), none, none, none, none, none] [] m13 Q) ∧
         (¬ (v6 ≠ 1) →
          jc E m_L_number d [jm_R 133, jm_I r14, jm_I (m13 134 11)] m13 (fun (o : Option jm_V) (m16 : jm_M) => ∀ r17 : Int, o = some (jm_I r17) →
          jg E m_L_told d 189 [some (jm_R 0), some (jm_R 133), some (jm_R 134), some (jm_I v3), some (jm_I v4), some (jm_I r17), some (jm_I v6), none, none, none, none, none] [] m16 Q)))))) ∧
       (¬ (v6 ≠ 6) →
        (0 ≤ jm_wr (12 + v6) ∧ jm_wr (12 + v6) < 32) ∧
        ∀ m19 : jm_M, m19 = (jm_up μ 134 (jm_wr (12 + v6)) (jm_rem (jm_and (jm_shr v3 17) 3) 3)) →
        (0 ≤ jm_wr (20 + v6) ∧ jm_wr (20 + v6) < 32) ∧
        ∀ m21 : jm_M, m21 = (jm_up m19 134 (jm_wr (20 + v6)) 0) →
        jc E m_L_kindOf d [jm_I v6] m21 (fun (o : Option jm_V) (m22 : jm_M) => ∀ r23 : Int, o = some (jm_R r23) →
        jc E m_L_add d [jm_R 133, jm_I v5, jm_R r23] m22 (fun (o : Option jm_V) (m24 : jm_M) => ∀ r25 : Int, o = some (jm_I r25) →
        ((v6 ≠ 1 →
          jg E m_L_told d 189 [some (jm_R 0), some (jm_R 133), some (jm_R 134), some (jm_I v3), some (jm_I v4), some (jm_I r25), some (jm_I v6), none, none, none, none, none] [] m24 Q) ∧
         (¬ (v6 ≠ 1) →
          jc E m_L_number d [jm_R 133, jm_I r25, jm_I (m24 134 11)] m24 (fun (o : Option jm_V) (m27 : jm_M) => ∀ r28 : Int, o = some (jm_I r28) →
          jg E m_L_told d 189 [some (jm_R 0), some (jm_R 133), some (jm_R 134), some (jm_I v3), some (jm_I v4), some (jm_I r28), some (jm_I v6), none, none, none, none, none] [] m27 Q)))))))) ∧
     (¬ (v6 ≠ 0) →
      (0 ≤ jm_wr (12 + v6) ∧ jm_wr (12 + v6) < 32) ∧
      ∀ m30 : jm_M, m30 = (jm_up μ 134 (jm_wr (12 + v6)) 1) →
      (0 ≤ jm_wr (20 + v6) ∧ jm_wr (20 + v6) < 32) ∧
      ∀ m32 : jm_M, m32 = (jm_up m30 134 (jm_wr (20 + v6)) 0) →
      jc E m_L_kindOf d [jm_I v6] m32 (fun (o : Option jm_V) (m33 : jm_M) => ∀ r34 : Int, o = some (jm_R r34) →
      jc E m_L_add d [jm_R 133, jm_I v5, jm_R r34] m33 (fun (o : Option jm_V) (m35 : jm_M) => ∀ r36 : Int, o = some (jm_I r36) →
      ((v6 ≠ 1 →
        jg E m_L_told d 189 [some (jm_R 0), some (jm_R 133), some (jm_R 134), some (jm_I v3), some (jm_I v4), some (jm_I r36), some (jm_I v6), none, none, none, none, none] [] m35 Q) ∧
       (¬ (v6 ≠ 1) →
        jc E m_L_number d [jm_R 133, jm_I r36, jm_I (m35 134 11)] m35 (fun (o : Option jm_V) (m38 : jm_M) => ∀ r39 : Int, o = some (jm_I r39) →
        jg E m_L_told d 189 [some (jm_R 0), some (jm_R 133), some (jm_R 134), some (jm_I v3), some (jm_I v4), some (jm_I r39), some (jm_I v6), none, none, none, none, none] [] m38 Q)))))))))) : jg E m_L_told d 108 [some (jm_R 0), some (jm_R 133), some (jm_R 134), some (jm_I v3), some (jm_I v4), some (jm_I v5), some (jm_I v6), none, none, none, none, none] [] μ Q := by
  refine jm_iload d_L_told_108 rfl ?_
  refine jm_bipush (v := 7) d_L_told_110 rfl (jm_okI (by decide) (by decide)) ?_
  refine jm_icmp_ge (tgt := 242) d_L_told_112 (by decide) (fun c1 => ?_) (fun c1 => ?_)
  · have h := h.1 c1
    refine jm_aloadn d_L_told_242 rfl ?_
    refine jm_iconst (v := 1) d_L_told_243 rfl (jm_okI (by decide) (by decide)) ?_
    refine jm_iconst (v := 1) d_L_told_244 rfl (jm_okI (by decide) (by decide)) ?_
    refine jm_iloadn d_L_told_245 rfl ?_
    refine jm_iconst (v := 1) d_L_told_246 rfl (jm_okI (by decide) (by decide)) ?_
    refine jm_ishr d_L_told_247 ?_
    refine jm_iconst (v := 1) d_L_told_248 rfl (jm_okI (by decide) (by decide)) ?_
    refine jm_iand d_L_told_249 ?_
    refine jm_iadd d_L_told_250 ?_
    refine jm_iastore d_L_told_251 (ixl_134 (by decide) (by decide)) ?_
    have h := h _ rfl
    refine jm_aloadn d_L_told_252 rfl ?_
    refine jm_iload d_L_told_253 rfl ?_
    refine jm_ldcK (i := 10) (a := -111) (Nat.le_of_ble_eq_true rfl) rfl rfl rfl d_L_told_255 ?_
    refine jm_invS (n1 := jm_N) (mc := 0) (ms := 0) (av := [jm_R _, jm_I _, jm_R _]) w_L_add l_L_53 d_L_told_257 rfl ⟨Nat.le_refl _, Nat.le_refl _⟩ (Nat.le_of_ble_eq_true rfl) rfl ?_
    refine jm_Cl.mono h (fun o m3 h hr _ => ?_)
    obtain ⟨r4, rfl⟩ := jm_rokI hr
    have h := h _ rfl
    refine jm_istore (L' := [some (jm_R _), some (jm_R _), some (jm_R _), some (jm_I _), some (jm_I _), some (jm_I _), some (jm_I _), none, none, none, none, none]) d_L_told_260 (Nat.le_of_ble_eq_true rfl) rfl ?_
    refine jm_iconst (v := 0) d_L_told_262 rfl (jm_okI (by decide) (by decide)) ?_
    refine jm_istore (L' := [some (jm_R _), some (jm_R _), some (jm_R _), some (jm_I _), some (jm_I _), some (jm_I _), some (jm_I _), none, none, none, none, none]) d_L_told_263 (Nat.le_of_ble_eq_true rfl) rfl ?_
    exact h
  · have h := h.2 c1
    refine jm_aloadn d_L_told_115 rfl ?_
    refine jm_bipush (v := 12) d_L_told_116 rfl (jm_okI (by decide) (by decide)) ?_
    refine jm_iload d_L_told_118 rfl ?_
    refine jm_iadd d_L_told_120 ?_
    refine jm_iload d_L_told_121 rfl ?_
    refine jm_if_ne (tgt := 130) d_L_told_123 (by decide) (fun c5 => ?_) (fun c5 => ?_)
    · have h := h.1 c5
      refine jm_iload d_L_told_130 rfl ?_
      refine jm_bipush (v := 6) d_L_told_132 rfl (jm_okI (by decide) (by decide)) ?_
      refine jm_icmp_ne (tgt := 148) d_L_told_134 (by decide) (fun c6 => ?_) (fun c6 => ?_)
      · have h := h.1 c6
        refine jm_iconst (v := 0) d_L_told_148 rfl (jm_okI (by decide) (by decide)) ?_
        obtain ⟨f7, h⟩ := h
        refine jm_iastore d_L_told_149 (ixl_134 f7.1 f7.2) ?_
        have h := h _ rfl
        refine jm_aloadn d_L_told_150 rfl ?_
        refine jm_bipush (v := 20) d_L_told_151 rfl (jm_okI (by decide) (by decide)) ?_
        refine jm_iload d_L_told_153 rfl ?_
        refine jm_iadd d_L_told_155 ?_
        refine jm_iconst (v := 0) d_L_told_156 rfl (jm_okI (by decide) (by decide)) ?_
        obtain ⟨f9, h⟩ := h
        refine jm_iastore d_L_told_157 (ixl_134 f9.1 f9.2) ?_
        have h := h _ rfl
        refine jm_aloadn d_L_told_158 rfl ?_
        refine jm_iload d_L_told_159 rfl ?_
        refine jm_iload d_L_told_161 rfl ?_
        refine jm_invS (n1 := jm_N) (mc := 0) (ms := 0) (av := [jm_I _]) w_L_kindOf l_L_60 d_L_told_163 rfl ⟨Nat.le_refl _, Nat.le_refl _⟩ (Nat.le_of_ble_eq_true rfl) rfl ?_
        refine jm_Cl.mono h (fun o m11 h hr _ => ?_)
        obtain ⟨r12, rfl⟩ := jm_rokR hr
        have h := h _ rfl
        refine jm_invS (n1 := jm_N) (mc := 0) (ms := 0) (av := [jm_R _, jm_I _, jm_R _]) w_L_add l_L_53 d_L_told_166 rfl ⟨Nat.le_refl _, Nat.le_refl _⟩ (Nat.le_of_ble_eq_true rfl) rfl ?_
        refine jm_Cl.mono h (fun o m13 h hr _ => ?_)
        obtain ⟨r14, rfl⟩ := jm_rokI hr
        have h := h _ rfl
        refine jm_istore (L' := [some (jm_R _), some (jm_R _), some (jm_R _), some (jm_I _), some (jm_I _), some (jm_I _), some (jm_I _), none, none, none, none, none]) d_L_told_169 (Nat.le_of_ble_eq_true rfl) rfl ?_
        refine jm_iload d_L_told_171 rfl ?_
        refine jm_iconst (v := 1) d_L_told_173 rfl (jm_okI (by decide) (by decide)) ?_
        refine jm_icmp_ne (tgt := 189) d_L_told_174 (by decide) (fun c15 => ?_) (fun c15 => ?_)
        · have h := h.1 c15
          exact h
        · have h := h.2 c15
          refine jm_aloadn d_L_told_177 rfl ?_
          refine jm_iload d_L_told_178 rfl ?_
          refine jm_aloadn d_L_told_180 rfl ?_
          refine jm_bipush (v := 11) d_L_told_181 rfl (jm_okI (by decide) (by decide)) ?_
          refine jm_iaload d_L_told_183 (ixl_134 (by decide) (by decide)) ?_
          refine jm_invS (n1 := jm_N) (mc := 0) (ms := 0) (av := [jm_R _, jm_I _, jm_I _]) w_L_number l_L_57 d_L_told_184 rfl ⟨Nat.le_refl _, Nat.le_refl _⟩ (Nat.le_of_ble_eq_true rfl) rfl ?_
          refine jm_Cl.mono h (fun o m16 h hr _ => ?_)
          obtain ⟨r17, rfl⟩ := jm_rokI hr
          have h := h _ rfl
          refine jm_istore (L' := [some (jm_R _), some (jm_R _), some (jm_R _), some (jm_I _), some (jm_I _), some (jm_I _), some (jm_I _), none, none, none, none, none]) d_L_told_187 (Nat.le_of_ble_eq_true rfl) rfl ?_
          exact h
      · have h := h.2 c6
        refine jm_iloadn d_L_told_137 rfl ?_
        refine jm_bipush (v := 17) d_L_told_138 rfl (jm_okI (by decide) (by decide)) ?_
        refine jm_ishr d_L_told_140 ?_
        refine jm_iconst (v := 3) d_L_told_141 rfl (jm_okI (by decide) (by decide)) ?_
        refine jm_iand d_L_told_142 ?_
        refine jm_iconst (v := 3) d_L_told_143 rfl (jm_okI (by decide) (by decide)) ?_
        refine jm_irem d_L_told_144 (by decide) ?_
        refine jm_goto (tgt := 149) d_L_told_145 (by decide) ?_
        obtain ⟨f18, h⟩ := h
        refine jm_iastore d_L_told_149 (ixl_134 f18.1 f18.2) ?_
        have h := h _ rfl
        refine jm_aloadn d_L_told_150 rfl ?_
        refine jm_bipush (v := 20) d_L_told_151 rfl (jm_okI (by decide) (by decide)) ?_
        refine jm_iload d_L_told_153 rfl ?_
        refine jm_iadd d_L_told_155 ?_
        refine jm_iconst (v := 0) d_L_told_156 rfl (jm_okI (by decide) (by decide)) ?_
        obtain ⟨f20, h⟩ := h
        refine jm_iastore d_L_told_157 (ixl_134 f20.1 f20.2) ?_
        have h := h _ rfl
        refine jm_aloadn d_L_told_158 rfl ?_
        refine jm_iload d_L_told_159 rfl ?_
        refine jm_iload d_L_told_161 rfl ?_
        refine jm_invS (n1 := jm_N) (mc := 0) (ms := 0) (av := [jm_I _]) w_L_kindOf l_L_60 d_L_told_163 rfl ⟨Nat.le_refl _, Nat.le_refl _⟩ (Nat.le_of_ble_eq_true rfl) rfl ?_
        refine jm_Cl.mono h (fun o m22 h hr _ => ?_)
        obtain ⟨r23, rfl⟩ := jm_rokR hr
        have h := h _ rfl
        refine jm_invS (n1 := jm_N) (mc := 0) (ms := 0) (av := [jm_R _, jm_I _, jm_R _]) w_L_add l_L_53 d_L_told_166 rfl ⟨Nat.le_refl _, Nat.le_refl _⟩ (Nat.le_of_ble_eq_true rfl) rfl ?_
        refine jm_Cl.mono h (fun o m24 h hr _ => ?_)
        obtain ⟨r25, rfl⟩ := jm_rokI hr
        have h := h _ rfl
        refine jm_istore (L' := [some (jm_R _), some (jm_R _), some (jm_R _), some (jm_I _), some (jm_I _), some (jm_I _), some (jm_I _), none, none, none, none, none]) d_L_told_169 (Nat.le_of_ble_eq_true rfl) rfl ?_
        refine jm_iload d_L_told_171 rfl ?_
        refine jm_iconst (v := 1) d_L_told_173 rfl (jm_okI (by decide) (by decide)) ?_
        refine jm_icmp_ne (tgt := 189) d_L_told_174 (by decide) (fun c26 => ?_) (fun c26 => ?_)
        · have h := h.1 c26
          exact h
        · have h := h.2 c26
          refine jm_aloadn d_L_told_177 rfl ?_
          refine jm_iload d_L_told_178 rfl ?_
          refine jm_aloadn d_L_told_180 rfl ?_
          refine jm_bipush (v := 11) d_L_told_181 rfl (jm_okI (by decide) (by decide)) ?_
          refine jm_iaload d_L_told_183 (ixl_134 (by decide) (by decide)) ?_
          refine jm_invS (n1 := jm_N) (mc := 0) (ms := 0) (av := [jm_R _, jm_I _, jm_I _]) w_L_number l_L_57 d_L_told_184 rfl ⟨Nat.le_refl _, Nat.le_refl _⟩ (Nat.le_of_ble_eq_true rfl) rfl ?_
          refine jm_Cl.mono h (fun o m27 h hr _ => ?_)
          obtain ⟨r28, rfl⟩ := jm_rokI hr
          have h := h _ rfl
          refine jm_istore (L' := [some (jm_R _), some (jm_R _), some (jm_R _), some (jm_I _), some (jm_I _), some (jm_I _), some (jm_I _), none, none, none, none, none]) d_L_told_187 (Nat.le_of_ble_eq_true rfl) rfl ?_
          exact h
    · have h := h.2 c5
      refine jm_iconst (v := 1) d_L_told_126 rfl (jm_okI (by decide) (by decide)) ?_
      refine jm_goto (tgt := 149) d_L_told_127 (by decide) ?_
      obtain ⟨f29, h⟩ := h
      refine jm_iastore d_L_told_149 (ixl_134 f29.1 f29.2) ?_
      have h := h _ rfl
      refine jm_aloadn d_L_told_150 rfl ?_
      refine jm_bipush (v := 20) d_L_told_151 rfl (jm_okI (by decide) (by decide)) ?_
      refine jm_iload d_L_told_153 rfl ?_
      refine jm_iadd d_L_told_155 ?_
      refine jm_iconst (v := 0) d_L_told_156 rfl (jm_okI (by decide) (by decide)) ?_
      obtain ⟨f31, h⟩ := h
      refine jm_iastore d_L_told_157 (ixl_134 f31.1 f31.2) ?_
      have h := h _ rfl
      refine jm_aloadn d_L_told_158 rfl ?_
      refine jm_iload d_L_told_159 rfl ?_
      refine jm_iload d_L_told_161 rfl ?_
      refine jm_invS (n1 := jm_N) (mc := 0) (ms := 0) (av := [jm_I _]) w_L_kindOf l_L_60 d_L_told_163 rfl ⟨Nat.le_refl _, Nat.le_refl _⟩ (Nat.le_of_ble_eq_true rfl) rfl ?_
      refine jm_Cl.mono h (fun o m33 h hr _ => ?_)
      obtain ⟨r34, rfl⟩ := jm_rokR hr
      have h := h _ rfl
      refine jm_invS (n1 := jm_N) (mc := 0) (ms := 0) (av := [jm_R _, jm_I _, jm_R _]) w_L_add l_L_53 d_L_told_166 rfl ⟨Nat.le_refl _, Nat.le_refl _⟩ (Nat.le_of_ble_eq_true rfl) rfl ?_
      refine jm_Cl.mono h (fun o m35 h hr _ => ?_)
      obtain ⟨r36, rfl⟩ := jm_rokI hr
      have h := h _ rfl
      refine jm_istore (L' := [some (jm_R _), some (jm_R _), some (jm_R _), some (jm_I _), some (jm_I _), some (jm_I _), some (jm_I _), none, none, none, none, none]) d_L_told_169 (Nat.le_of_ble_eq_true rfl) rfl ?_
      refine jm_iload d_L_told_171 rfl ?_
      refine jm_iconst (v := 1) d_L_told_173 rfl (jm_okI (by decide) (by decide)) ?_
      refine jm_icmp_ne (tgt := 189) d_L_told_174 (by decide) (fun c37 => ?_) (fun c37 => ?_)
      · have h := h.1 c37
        exact h
      · have h := h.2 c37
        refine jm_aloadn d_L_told_177 rfl ?_
        refine jm_iload d_L_told_178 rfl ?_
        refine jm_aloadn d_L_told_180 rfl ?_
        refine jm_bipush (v := 11) d_L_told_181 rfl (jm_okI (by decide) (by decide)) ?_
        refine jm_iaload d_L_told_183 (ixl_134 (by decide) (by decide)) ?_
        refine jm_invS (n1 := jm_N) (mc := 0) (ms := 0) (av := [jm_R _, jm_I _, jm_I _]) w_L_number l_L_57 d_L_told_184 rfl ⟨Nat.le_refl _, Nat.le_refl _⟩ (Nat.le_of_ble_eq_true rfl) rfl ?_
        refine jm_Cl.mono h (fun o m38 h hr _ => ?_)
        obtain ⟨r39, rfl⟩ := jm_rokI hr
        have h := h _ rfl
        refine jm_istore (L' := [some (jm_R _), some (jm_R _), some (jm_R _), some (jm_I _), some (jm_I _), some (jm_I _), some (jm_I _), none, none, none, none, none]) d_L_told_187 (Nat.le_of_ble_eq_true rfl) rfl ?_
        exact h
set_option maxRecDepth 20000 in
theorem r_L_told_189 {E : jm_E} {d : Nat} {μ : jm_M} {Q : Option jm_V → jm_M → Prop} {v3 v4 v5 v6 : Int} (h :
  ((v6 ≠ 6 →
    jc E m_L_put d [jm_R 133, jm_I v5, jm_I 59] μ (fun (o : Option jm_V) (m2 : jm_M) => ∀ r3 : Int, o = some (jm_I r3) →
    jg E m_L_told d 108 [some (jm_R 0), some (jm_R 133), some (jm_R 134), some (jm_I v3), some (jm_I v4), some (jm_I r3), some (jm_I (jm_wr (v6 + 1))), none, none, none, none, none] [] m2 Q)) ∧
   (¬ (v6 ≠ 6) →
    ((μ 134 18 ≤ 0 →
      jc E m_L_put d [jm_R 133, jm_I v5, jm_I 59] μ (fun (o : Option jm_V) (m5 : jm_M) => ∀ r6 : Int, o = some (jm_I r6) →
      jg E m_L_told d 108 [some (jm_R 0), some (jm_R 133), some (jm_R 134), some (jm_I v3), some (jm_I v4), some (jm_I r6), some (jm_I (jm_wr (v6 + 1))), none, none, none, none, none] [] m5 Q)) ∧
     (¬ (μ 134 18 ≤ 0) →
      ((μ 134 18 ≠ 1 →
        jc E m_L_add d [jm_R 133, jm_I v5, jm_R ((-110))] μ (fun (o : Option jm_V) (m8 : jm_M) => ∀ r9 : Int, o = some (jm_I r9) →
        jc E m_L_put d [jm_R 133, jm_I r9, jm_I 59] m8 (fun (o : Option jm_V) (m10 : jm_M) => ∀ r11 : Int, o = some (jm_I r11) →
        jg E m_L_told d 108 [some (jm_R 0), some (jm_R 133), some (jm_R 134), some (jm_I v3), some (jm_I v4), some (jm_I r11), some (jm_I (jm_wr (v6 + 1))), none, none, none, none, none] [] m10 Q))) ∧
       (¬ (μ 134 18 ≠ 1) →
        jc E m_L_add d [jm_R 133, jm_I v5, jm_R ((-109))] μ (fun (o : Option jm_V) (m12 : jm_M) => ∀ r13 : Int, o = some (jm_I r13) →
        jc E m_L_put d [jm_R 133, jm_I r13, jm_I 59] m12 (fun (o : Option jm_V) (m14 : jm_M) => ∀ r15 : Int, o = some (jm_I r15) →
        jg E m_L_told d 108 [some (jm_R 0), some (jm_R 133), some (jm_R 134), some (jm_I v3), some (jm_I v4), some (jm_I r15), some (jm_I (jm_wr (v6 + 1))), none, none, none, none, none] [] m14 Q))))))))) : jg E m_L_told d 189 [some (jm_R 0), some (jm_R 133), some (jm_R 134), some (jm_I v3), some (jm_I v4), some (jm_I v5), some (jm_I v6), none, none, none, none, none] [] μ Q := by
  refine jm_iload d_L_told_189 rfl ?_
  refine jm_bipush (v := 6) d_L_told_191 rfl (jm_okI (by decide) (by decide)) ?_
  refine jm_icmp_ne (tgt := 226) d_L_told_193 (by decide) (fun c1 => ?_) (fun c1 => ?_)
  · have h := h.1 c1
    refine jm_aloadn d_L_told_226 rfl ?_
    refine jm_iload d_L_told_227 rfl ?_
    refine jm_bipush (v := 59) d_L_told_229 rfl (jm_okI (by decide) (by decide)) ?_
    refine jm_invS (n1 := jm_N) (mc := 0) (ms := 0) (av := [jm_R _, jm_I _, jm_I _]) w_L_put l_L_17 d_L_told_231 rfl ⟨Nat.le_refl _, Nat.le_refl _⟩ (Nat.le_of_ble_eq_true rfl) rfl ?_
    refine jm_Cl.mono h (fun o m2 h hr _ => ?_)
    obtain ⟨r3, rfl⟩ := jm_rokI hr
    have h := h _ rfl
    refine jm_istore (L' := [some (jm_R _), some (jm_R _), some (jm_R _), some (jm_I _), some (jm_I _), some (jm_I _), some (jm_I _), none, none, none, none, none]) d_L_told_234 (Nat.le_of_ble_eq_true rfl) rfl ?_
    refine jm_iinc (L' := [some (jm_R _), some (jm_R _), some (jm_R _), some (jm_I _), some (jm_I _), some (jm_I _), some (jm_I _), none, none, none, none, none]) d_L_told_236 rfl rfl (Nat.le_of_ble_eq_true rfl) rfl ?_
    refine jm_goto (tgt := 108) d_L_told_239 (by decide) ?_
    exact h
  · have h := h.2 c1
    refine jm_aloadn d_L_told_196 rfl ?_
    refine jm_bipush (v := 18) d_L_told_197 rfl (jm_okI (by decide) (by decide)) ?_
    refine jm_iaload d_L_told_199 (ixl_134 (by decide) (by decide)) ?_
    refine jm_if_le (tgt := 226) d_L_told_200 (by decide) (fun c4 => ?_) (fun c4 => ?_)
    · have h := h.1 c4
      refine jm_aloadn d_L_told_226 rfl ?_
      refine jm_iload d_L_told_227 rfl ?_
      refine jm_bipush (v := 59) d_L_told_229 rfl (jm_okI (by decide) (by decide)) ?_
      refine jm_invS (n1 := jm_N) (mc := 0) (ms := 0) (av := [jm_R _, jm_I _, jm_I _]) w_L_put l_L_17 d_L_told_231 rfl ⟨Nat.le_refl _, Nat.le_refl _⟩ (Nat.le_of_ble_eq_true rfl) rfl ?_
      refine jm_Cl.mono h (fun o m5 h hr _ => ?_)
      obtain ⟨r6, rfl⟩ := jm_rokI hr
      have h := h _ rfl
      refine jm_istore (L' := [some (jm_R _), some (jm_R _), some (jm_R _), some (jm_I _), some (jm_I _), some (jm_I _), some (jm_I _), none, none, none, none, none]) d_L_told_234 (Nat.le_of_ble_eq_true rfl) rfl ?_
      refine jm_iinc (L' := [some (jm_R _), some (jm_R _), some (jm_R _), some (jm_I _), some (jm_I _), some (jm_I _), some (jm_I _), none, none, none, none, none]) d_L_told_236 rfl rfl (Nat.le_of_ble_eq_true rfl) rfl ?_
      refine jm_goto (tgt := 108) d_L_told_239 (by decide) ?_
      exact h
    · have h := h.2 c4
      refine jm_aloadn d_L_told_203 rfl ?_
      refine jm_iload d_L_told_204 rfl ?_
      refine jm_aloadn d_L_told_206 rfl ?_
      refine jm_bipush (v := 18) d_L_told_207 rfl (jm_okI (by decide) (by decide)) ?_
      refine jm_iaload d_L_told_209 (ixl_134 (by decide) (by decide)) ?_
      refine jm_iconst (v := 1) d_L_told_210 rfl (jm_okI (by decide) (by decide)) ?_
      refine jm_icmp_ne (tgt := 219) d_L_told_211 (by decide) (fun c7 => ?_) (fun c7 => ?_)
      · have h := h.1 c7
        refine jm_ldcK (i := 9) (a := -110) (Nat.le_of_ble_eq_true rfl) rfl rfl rfl d_L_told_219 ?_
        refine jm_invS (n1 := jm_N) (mc := 0) (ms := 0) (av := [jm_R _, jm_I _, jm_R _]) w_L_add l_L_53 d_L_told_221 rfl ⟨Nat.le_refl _, Nat.le_refl _⟩ (Nat.le_of_ble_eq_true rfl) rfl ?_
        refine jm_Cl.mono h (fun o m8 h hr _ => ?_)
        obtain ⟨r9, rfl⟩ := jm_rokI hr
        have h := h _ rfl
        refine jm_istore (L' := [some (jm_R _), some (jm_R _), some (jm_R _), some (jm_I _), some (jm_I _), some (jm_I _), some (jm_I _), none, none, none, none, none]) d_L_told_224 (Nat.le_of_ble_eq_true rfl) rfl ?_
        refine jm_aloadn d_L_told_226 rfl ?_
        refine jm_iload d_L_told_227 rfl ?_
        refine jm_bipush (v := 59) d_L_told_229 rfl (jm_okI (by decide) (by decide)) ?_
        refine jm_invS (n1 := jm_N) (mc := 0) (ms := 0) (av := [jm_R _, jm_I _, jm_I _]) w_L_put l_L_17 d_L_told_231 rfl ⟨Nat.le_refl _, Nat.le_refl _⟩ (Nat.le_of_ble_eq_true rfl) rfl ?_
        refine jm_Cl.mono h (fun o m10 h hr _ => ?_)
        obtain ⟨r11, rfl⟩ := jm_rokI hr
        have h := h _ rfl
        refine jm_istore (L' := [some (jm_R _), some (jm_R _), some (jm_R _), some (jm_I _), some (jm_I _), some (jm_I _), some (jm_I _), none, none, none, none, none]) d_L_told_234 (Nat.le_of_ble_eq_true rfl) rfl ?_
        refine jm_iinc (L' := [some (jm_R _), some (jm_R _), some (jm_R _), some (jm_I _), some (jm_I _), some (jm_I _), some (jm_I _), none, none, none, none, none]) d_L_told_236 rfl rfl (Nat.le_of_ble_eq_true rfl) rfl ?_
        refine jm_goto (tgt := 108) d_L_told_239 (by decide) ?_
        exact h
      · have h := h.2 c7
        refine jm_ldcK (i := 8) (a := -109) (Nat.le_of_ble_eq_true rfl) rfl rfl rfl d_L_told_214 ?_
        refine jm_goto (tgt := 221) d_L_told_216 (by decide) ?_
        refine jm_invS (n1 := jm_N) (mc := 0) (ms := 0) (av := [jm_R _, jm_I _, jm_R _]) w_L_add l_L_53 d_L_told_221 rfl ⟨Nat.le_refl _, Nat.le_refl _⟩ (Nat.le_of_ble_eq_true rfl) rfl ?_
        refine jm_Cl.mono h (fun o m12 h hr _ => ?_)
        obtain ⟨r13, rfl⟩ := jm_rokI hr
        have h := h _ rfl
        refine jm_istore (L' := [some (jm_R _), some (jm_R _), some (jm_R _), some (jm_I _), some (jm_I _), some (jm_I _), some (jm_I _), none, none, none, none, none]) d_L_told_224 (Nat.le_of_ble_eq_true rfl) rfl ?_
        refine jm_aloadn d_L_told_226 rfl ?_
        refine jm_iload d_L_told_227 rfl ?_
        refine jm_bipush (v := 59) d_L_told_229 rfl (jm_okI (by decide) (by decide)) ?_
        refine jm_invS (n1 := jm_N) (mc := 0) (ms := 0) (av := [jm_R _, jm_I _, jm_I _]) w_L_put l_L_17 d_L_told_231 rfl ⟨Nat.le_refl _, Nat.le_refl _⟩ (Nat.le_of_ble_eq_true rfl) rfl ?_
        refine jm_Cl.mono h (fun o m14 h hr _ => ?_)
        obtain ⟨r15, rfl⟩ := jm_rokI hr
        have h := h _ rfl
        refine jm_istore (L' := [some (jm_R _), some (jm_R _), some (jm_R _), some (jm_I _), some (jm_I _), some (jm_I _), some (jm_I _), none, none, none, none, none]) d_L_told_234 (Nat.le_of_ble_eq_true rfl) rfl ?_
        refine jm_iinc (L' := [some (jm_R _), some (jm_R _), some (jm_R _), some (jm_I _), some (jm_I _), some (jm_I _), some (jm_I _), none, none, none, none, none]) d_L_told_236 rfl rfl (Nat.le_of_ble_eq_true rfl) rfl ?_
        refine jm_goto (tgt := 108) d_L_told_239 (by decide) ?_
        exact h
set_option maxRecDepth 20000 in
theorem r_L_told_265 {E : jm_E} {d : Nat} {μ : jm_M} {Q : Option jm_V → jm_M → Prop} {v3 v4 v5 v6 : Int} (h :
  ((μ 134 1 ≤ v6 →
    jc E m_L_put d [jm_R 133, jm_I v5, jm_I 59] μ (fun (o : Option jm_V) (m2 : jm_M) => ∀ r3 : Int, o = some (jm_I r3) →
    ∀ m4 : jm_M, m4 = (jm_up m2 134 6 (jm_and (jm_shr v3 19) 1)) →
    ((m4 134 6 ≠ 1 →
      jg E m_L_told d 357 [some (jm_R 0), some (jm_R 133), some (jm_R 134), some (jm_I v3), some (jm_I v4), some (jm_I r3), none, none, none, none, none, none] [] m4 Q) ∧
     (¬ (m4 134 6 ≠ 1) →
      jc E m_L_add d [jm_R 133, jm_I r3, jm_R ((-112))] m4 (fun (o : Option jm_V) (m6 : jm_M) => ∀ r7 : Int, o = some (jm_I r7) →
      jg E m_L_told d 357 [some (jm_R 0), some (jm_R 133), some (jm_R 134), some (jm_I v3), some (jm_I v4), some (jm_I r7), none, none, none, none, none, none] [] m6 Q))))) ∧
   (¬ (μ 134 1 ≤ v6) →
    (0 ≤ jm_wr (2 + v6) ∧ jm_wr (2 + v6) < 32) ∧
    ∀ m9 : jm_M, m9 = (jm_up μ 134 (jm_wr (2 + v6)) (jm_wr (1 + (jm_rem (jm_and (jm_shr v3 (jm_wr (2 + (jm_wr (2 * v6))))) 3) 3)))) →
    jc E m_L_put d [jm_R 133, jm_I v5, jm_I 32] m9 (fun (o : Option jm_V) (m10 : jm_M) => ∀ r11 : Int, o = some (jm_I r11) →
    jc E m_L_number d [jm_R 133, jm_I r11, jm_I (m10 134 (jm_wr (2 + v6)))] m10 (fun (o : Option jm_V) (m12 : jm_M) => ∀ r13 : Int, o = some (jm_I r13) →
    jg E m_L_told d 265 [some (jm_R 0), some (jm_R 133), some (jm_R 134), some (jm_I v3), some (jm_I v4), some (jm_I r13), some (jm_I (jm_wr (v6 + 1))), none, none, none, none, none] [] m12 Q))))) : jg E m_L_told d 265 [some (jm_R 0), some (jm_R 133), some (jm_R 134), some (jm_I v3), some (jm_I v4), some (jm_I v5), some (jm_I v6), none, none, none, none, none] [] μ Q := by
  refine jm_iload d_L_told_265 rfl ?_
  refine jm_aloadn d_L_told_267 rfl ?_
  refine jm_iconst (v := 1) d_L_told_268 rfl (jm_okI (by decide) (by decide)) ?_
  refine jm_iaload d_L_told_269 (ixl_134 (by decide) (by decide)) ?_
  refine jm_icmp_ge (tgt := 319) d_L_told_270 (by decide) (fun c1 => ?_) (fun c1 => ?_)
  · have h := h.1 c1
    refine jm_aloadn d_L_told_319 rfl ?_
    refine jm_iload d_L_told_320 rfl ?_
    refine jm_bipush (v := 59) d_L_told_322 rfl (jm_okI (by decide) (by decide)) ?_
    refine jm_invS (n1 := jm_N) (mc := 0) (ms := 0) (av := [jm_R _, jm_I _, jm_I _]) w_L_put l_L_17 d_L_told_324 rfl ⟨Nat.le_refl _, Nat.le_refl _⟩ (Nat.le_of_ble_eq_true rfl) rfl ?_
    refine jm_Cl.mono h (fun o m2 h hr _ => ?_)
    obtain ⟨r3, rfl⟩ := jm_rokI hr
    have h := h _ rfl
    refine jm_istore (L' := [some (jm_R _), some (jm_R _), some (jm_R _), some (jm_I _), some (jm_I _), some (jm_I _), some (jm_I _), none, none, none, none, none]) d_L_told_327 (Nat.le_of_ble_eq_true rfl) rfl ?_
    refine jm_aloadn d_L_told_329 rfl ?_
    refine jm_bipush (v := 6) d_L_told_330 rfl (jm_okI (by decide) (by decide)) ?_
    refine jm_iloadn d_L_told_332 rfl ?_
    refine jm_bipush (v := 19) d_L_told_333 rfl (jm_okI (by decide) (by decide)) ?_
    refine jm_ishr d_L_told_335 ?_
    refine jm_iconst (v := 1) d_L_told_336 rfl (jm_okI (by decide) (by decide)) ?_
    refine jm_iand d_L_told_337 ?_
    refine jm_iastore d_L_told_338 (ixl_134 (by decide) (by decide)) ?_
    have h := h _ rfl
    refine jm_aloadn d_L_told_339 rfl ?_
    refine jm_bipush (v := 6) d_L_told_340 rfl (jm_okI (by decide) (by decide)) ?_
    refine jm_iaload d_L_told_342 (ixl_134 (by decide) (by decide)) ?_
    refine jm_iconst (v := 1) d_L_told_343 rfl (jm_okI (by decide) (by decide)) ?_
    refine jm_icmp_ne (tgt := 357) d_L_told_344 (by decide) (fun c5 => ?_) (fun c5 => ?_)
    · have h := h.1 c5
      exact jm_weak2 h (And.intro rfl (And.intro rfl (And.intro rfl (And.intro rfl (And.intro rfl (And.intro rfl trivial))))))
    · have h := h.2 c5
      refine jm_aloadn d_L_told_347 rfl ?_
      refine jm_iload d_L_told_348 rfl ?_
      refine jm_ldcK (i := 11) (a := -112) (Nat.le_of_ble_eq_true rfl) rfl rfl rfl d_L_told_350 ?_
      refine jm_invS (n1 := jm_N) (mc := 0) (ms := 0) (av := [jm_R _, jm_I _, jm_R _]) w_L_add l_L_53 d_L_told_352 rfl ⟨Nat.le_refl _, Nat.le_refl _⟩ (Nat.le_of_ble_eq_true rfl) rfl ?_
      refine jm_Cl.mono h (fun o m6 h hr _ => ?_)
      obtain ⟨r7, rfl⟩ := jm_rokI hr
      have h := h _ rfl
      refine jm_istore (L' := [some (jm_R _), some (jm_R _), some (jm_R _), some (jm_I _), some (jm_I _), some (jm_I _), some (jm_I _), none, none, none, none, none]) d_L_told_355 (Nat.le_of_ble_eq_true rfl) rfl ?_
      exact jm_weak2 h (And.intro rfl (And.intro rfl (And.intro rfl (And.intro rfl (And.intro rfl (And.intro rfl trivial))))))
  · have h := h.2 c1
    refine jm_aloadn d_L_told_273 rfl ?_
    refine jm_iconst (v := 2) d_L_told_274 rfl (jm_okI (by decide) (by decide)) ?_
    refine jm_iload d_L_told_275 rfl ?_
    refine jm_iadd d_L_told_277 ?_
    refine jm_iconst (v := 1) d_L_told_278 rfl (jm_okI (by decide) (by decide)) ?_
    refine jm_iloadn d_L_told_279 rfl ?_
    refine jm_iconst (v := 2) d_L_told_280 rfl (jm_okI (by decide) (by decide)) ?_
    refine jm_iconst (v := 2) d_L_told_281 rfl (jm_okI (by decide) (by decide)) ?_
    refine jm_iload d_L_told_282 rfl ?_
    refine jm_imul d_L_told_284 ?_
    refine jm_iadd d_L_told_285 ?_
    refine jm_ishr d_L_told_286 ?_
    refine jm_iconst (v := 3) d_L_told_287 rfl (jm_okI (by decide) (by decide)) ?_
    refine jm_iand d_L_told_288 ?_
    refine jm_iconst (v := 3) d_L_told_289 rfl (jm_okI (by decide) (by decide)) ?_
    refine jm_irem d_L_told_290 (by decide) ?_
    refine jm_iadd d_L_told_291 ?_
    obtain ⟨f8, h⟩ := h
    refine jm_iastore d_L_told_292 (ixl_134 f8.1 f8.2) ?_
    have h := h _ rfl
    refine jm_aloadn d_L_told_293 rfl ?_
    refine jm_aloadn d_L_told_294 rfl ?_
    refine jm_iload d_L_told_295 rfl ?_
    refine jm_bipush (v := 32) d_L_told_297 rfl (jm_okI (by decide) (by decide)) ?_
    refine jm_invS (n1 := jm_N) (mc := 0) (ms := 0) (av := [jm_R _, jm_I _, jm_I _]) w_L_put l_L_17 d_L_told_299 rfl ⟨Nat.le_refl _, Nat.le_refl _⟩ (Nat.le_of_ble_eq_true rfl) rfl ?_
    refine jm_Cl.mono h (fun o m10 h hr _ => ?_)
    obtain ⟨r11, rfl⟩ := jm_rokI hr
    have h := h _ rfl
    refine jm_aloadn d_L_told_302 rfl ?_
    refine jm_iconst (v := 2) d_L_told_303 rfl (jm_okI (by decide) (by decide)) ?_
    refine jm_iload d_L_told_304 rfl ?_
    refine jm_iadd d_L_told_306 ?_
    refine jm_iaload d_L_told_307 (ixl_134 f8.1 f8.2) ?_
    refine jm_invS (n1 := jm_N) (mc := 0) (ms := 0) (av := [jm_R _, jm_I _, jm_I _]) w_L_number l_L_57 d_L_told_308 rfl ⟨Nat.le_refl _, Nat.le_refl _⟩ (Nat.le_of_ble_eq_true rfl) rfl ?_
    refine jm_Cl.mono h (fun o m12 h hr _ => ?_)
    obtain ⟨r13, rfl⟩ := jm_rokI hr
    have h := h _ rfl
    refine jm_istore (L' := [some (jm_R _), some (jm_R _), some (jm_R _), some (jm_I _), some (jm_I _), some (jm_I _), some (jm_I _), none, none, none, none, none]) d_L_told_311 (Nat.le_of_ble_eq_true rfl) rfl ?_
    refine jm_iinc (L' := [some (jm_R _), some (jm_R _), some (jm_R _), some (jm_I _), some (jm_I _), some (jm_I _), some (jm_I _), none, none, none, none, none]) d_L_told_313 rfl rfl (Nat.le_of_ble_eq_true rfl) rfl ?_
    refine jm_goto (tgt := 265) d_L_told_316 (by decide) ?_
    exact h
set_option maxRecDepth 20000 in
theorem r_L_told_357 {E : jm_E} {d : Nat} {μ : jm_M} {Q : Option jm_V → jm_M → Prop} {v3 v4 v5 : Int} (h :
  ∀ m1 : jm_M, m1 = (jm_up μ 134 7 (jm_and (jm_shr v3 20) 1)) →
  ((m1 134 7 ≠ 1 →
    jg E m_L_told d 385 [some (jm_R 0), some (jm_R 133), some (jm_R 134), none, some (jm_I v4), some (jm_I v5), none, none, none, none, none, none] [] m1 Q) ∧
   (¬ (m1 134 7 ≠ 1) →
    jc E m_L_add d [jm_R 133, jm_I v5, jm_R ((-113))] m1 (fun (o : Option jm_V) (m3 : jm_M) => ∀ r4 : Int, o = some (jm_I r4) →
    jg E m_L_told d 385 [some (jm_R 0), some (jm_R 133), some (jm_R 134), none, some (jm_I v4), some (jm_I r4), none, none, none, none, none, none] [] m3 Q)))) : jg E m_L_told d 357 [some (jm_R 0), some (jm_R 133), some (jm_R 134), some (jm_I v3), some (jm_I v4), some (jm_I v5), none, none, none, none, none, none] [] μ Q := by
  refine jm_aloadn d_L_told_357 rfl ?_
  refine jm_bipush (v := 7) d_L_told_358 rfl (jm_okI (by decide) (by decide)) ?_
  refine jm_iloadn d_L_told_360 rfl ?_
  refine jm_bipush (v := 20) d_L_told_361 rfl (jm_okI (by decide) (by decide)) ?_
  refine jm_ishr d_L_told_363 ?_
  refine jm_iconst (v := 1) d_L_told_364 rfl (jm_okI (by decide) (by decide)) ?_
  refine jm_iand d_L_told_365 ?_
  refine jm_iastore d_L_told_366 (ixl_134 (by decide) (by decide)) ?_
  have h := h _ rfl
  refine jm_aloadn d_L_told_367 rfl ?_
  refine jm_bipush (v := 7) d_L_told_368 rfl (jm_okI (by decide) (by decide)) ?_
  refine jm_iaload d_L_told_370 (ixl_134 (by decide) (by decide)) ?_
  refine jm_iconst (v := 1) d_L_told_371 rfl (jm_okI (by decide) (by decide)) ?_
  refine jm_icmp_ne (tgt := 385) d_L_told_372 (by decide) (fun c2 => ?_) (fun c2 => ?_)
  · have h := h.1 c2
    exact jm_weak2 h (And.intro rfl (And.intro rfl (And.intro rfl (And.intro rfl (And.intro rfl trivial)))))
  · have h := h.2 c2
    refine jm_aloadn d_L_told_375 rfl ?_
    refine jm_iload d_L_told_376 rfl ?_
    refine jm_ldcK (i := 12) (a := -113) (Nat.le_of_ble_eq_true rfl) rfl rfl rfl d_L_told_378 ?_
    refine jm_invS (n1 := jm_N) (mc := 0) (ms := 0) (av := [jm_R _, jm_I _, jm_R _]) w_L_add l_L_53 d_L_told_380 rfl ⟨Nat.le_refl _, Nat.le_refl _⟩ (Nat.le_of_ble_eq_true rfl) rfl ?_
    refine jm_Cl.mono h (fun o m3 h hr _ => ?_)
    obtain ⟨r4, rfl⟩ := jm_rokI hr
    have h := h _ rfl
    refine jm_istore (L' := [some (jm_R _), some (jm_R _), some (jm_R _), some (jm_I _), some (jm_I _), some (jm_I _), none, none, none, none, none, none]) d_L_told_383 (Nat.le_of_ble_eq_true rfl) rfl ?_
    exact jm_weak2 h (And.intro rfl (And.intro rfl (And.intro rfl (And.intro rfl (And.intro rfl trivial)))))
set_option maxRecDepth 20000 in
theorem r_L_told_385 {E : jm_E} {d : Nat} {μ : jm_M} {Q : Option jm_V → jm_M → Prop} {v4 v5 : Int} (h :
  jc E m_L_lies d [jm_R 0, jm_R 133, jm_I v5] μ (fun (o : Option jm_V) (m1 : jm_M) => ∀ r2 : Int, o = some (jm_I r2) → (r2 = 0 ∨ r2 = 1) →
  ((r2 = 0 →
    ∀ x5 : Int, x5 = jm_wr ((jm_wr ((jm_wr ((m1 134 0) + 8)) + (m1 134 6))) + (m1 134 7)) →
    jg E m_L_told d 432 [some (jm_R 0), some (jm_R 133), some (jm_R 134), none, some (jm_I v4), some (jm_I 0), some (jm_I ((-3000))), some (jm_I x5), some (jm_I 0), some (jm_I 0), none, none] [] m1 Q) ∧
   (¬ (r2 = 0) →
    ∀ x6 : Int, x6 = jm_wr ((jm_wr ((jm_wr ((m1 134 0) + 8)) + (m1 134 6))) + (m1 134 7)) →
    jg E m_L_told d 432 [some (jm_R 0), some (jm_R 133), some (jm_R 134), none, some (jm_I v4), some (jm_I 0), some (jm_I v5), some (jm_I x6), some (jm_I 0), some (jm_I 0), none, none] [] m1 Q)))) : jg E m_L_told d 385 [some (jm_R 0), some (jm_R 133), some (jm_R 134), none, some (jm_I v4), some (jm_I v5), none, none, none, none, none, none] [] μ Q := by
  refine jm_aloadn d_L_told_385 rfl ?_
  refine jm_aloadn d_L_told_386 rfl ?_
  refine jm_iload d_L_told_387 rfl ?_
  refine jm_invS (n1 := jm_N) (mc := 0) (ms := 0) (av := [jm_R _, jm_R _, jm_I _]) w_L_lies l_L_74 d_L_told_389 rfl ⟨Nat.le_refl _, Nat.le_refl _⟩ (Nat.le_of_ble_eq_true rfl) rfl ?_
  refine jm_Cl.mono h (fun o m1 h hr _ => ?_)
  obtain ⟨r2, rfl, z3⟩ := jm_rokZ hr
  have h := h _ rfl z3
  refine jm_if_eq (tgt := 400) d_L_told_392 (by decide) (fun c4 => ?_) (fun c4 => ?_)
  · have h := h.1 c4
    refine jm_sipush (v := (-3000)) d_L_told_400 rfl (jm_okI (by decide) (by decide)) ?_
    refine jm_istore (L' := [some (jm_R _), some (jm_R _), some (jm_R _), none, some (jm_I _), some (jm_I _), some (jm_I _), none, none, none, none, none]) d_L_told_403 (Nat.le_of_ble_eq_true rfl) rfl ?_
    refine jm_aloadn d_L_told_405 rfl ?_
    refine jm_iconst (v := 0) d_L_told_406 rfl (jm_okI (by decide) (by decide)) ?_
    refine jm_iaload d_L_told_407 (ixl_134 (by decide) (by decide)) ?_
    refine jm_bipush (v := 8) d_L_told_408 rfl (jm_okI (by decide) (by decide)) ?_
    refine jm_iadd d_L_told_410 ?_
    refine jm_aloadn d_L_told_411 rfl ?_
    refine jm_bipush (v := 6) d_L_told_412 rfl (jm_okI (by decide) (by decide)) ?_
    refine jm_iaload d_L_told_414 (ixl_134 (by decide) (by decide)) ?_
    refine jm_iadd d_L_told_415 ?_
    refine jm_aloadn d_L_told_416 rfl ?_
    refine jm_bipush (v := 7) d_L_told_417 rfl (jm_okI (by decide) (by decide)) ?_
    refine jm_iaload d_L_told_419 (ixl_134 (by decide) (by decide)) ?_
    refine jm_iadd d_L_told_420 ?_
    have h := h _ rfl
    refine jm_istore (L' := [some (jm_R _), some (jm_R _), some (jm_R _), none, some (jm_I _), some (jm_I _), some (jm_I _), some (jm_I _), none, none, none, none]) d_L_told_421 (Nat.le_of_ble_eq_true rfl) rfl ?_
    refine jm_iconst (v := 0) d_L_told_423 rfl (jm_okI (by decide) (by decide)) ?_
    refine jm_istore (L' := [some (jm_R _), some (jm_R _), some (jm_R _), none, some (jm_I _), some (jm_I _), some (jm_I _), some (jm_I _), some (jm_I _), none, none, none]) d_L_told_424 (Nat.le_of_ble_eq_true rfl) rfl ?_
    refine jm_iconst (v := 0) d_L_told_426 rfl (jm_okI (by decide) (by decide)) ?_
    refine jm_istore (L' := [some (jm_R _), some (jm_R _), some (jm_R _), none, some (jm_I _), some (jm_I _), some (jm_I _), some (jm_I _), some (jm_I _), none, none, none]) d_L_told_427 (Nat.le_of_ble_eq_true rfl) rfl ?_
    refine jm_iconst (v := 0) d_L_told_429 rfl (jm_okI (by decide) (by decide)) ?_
    refine jm_istore (L' := [some (jm_R _), some (jm_R _), some (jm_R _), none, some (jm_I _), some (jm_I _), some (jm_I _), some (jm_I _), some (jm_I _), some (jm_I _), none, none]) d_L_told_430 (Nat.le_of_ble_eq_true rfl) rfl ?_
    exact h
  · have h := h.2 c4
    refine jm_iload d_L_told_395 rfl ?_
    refine jm_goto (tgt := 403) d_L_told_397 (by decide) ?_
    refine jm_istore (L' := [some (jm_R _), some (jm_R _), some (jm_R _), none, some (jm_I _), some (jm_I _), some (jm_I _), none, none, none, none, none]) d_L_told_403 (Nat.le_of_ble_eq_true rfl) rfl ?_
    refine jm_aloadn d_L_told_405 rfl ?_
    refine jm_iconst (v := 0) d_L_told_406 rfl (jm_okI (by decide) (by decide)) ?_
    refine jm_iaload d_L_told_407 (ixl_134 (by decide) (by decide)) ?_
    refine jm_bipush (v := 8) d_L_told_408 rfl (jm_okI (by decide) (by decide)) ?_
    refine jm_iadd d_L_told_410 ?_
    refine jm_aloadn d_L_told_411 rfl ?_
    refine jm_bipush (v := 6) d_L_told_412 rfl (jm_okI (by decide) (by decide)) ?_
    refine jm_iaload d_L_told_414 (ixl_134 (by decide) (by decide)) ?_
    refine jm_iadd d_L_told_415 ?_
    refine jm_aloadn d_L_told_416 rfl ?_
    refine jm_bipush (v := 7) d_L_told_417 rfl (jm_okI (by decide) (by decide)) ?_
    refine jm_iaload d_L_told_419 (ixl_134 (by decide) (by decide)) ?_
    refine jm_iadd d_L_told_420 ?_
    have h := h _ rfl
    refine jm_istore (L' := [some (jm_R _), some (jm_R _), some (jm_R _), none, some (jm_I _), some (jm_I _), some (jm_I _), some (jm_I _), none, none, none, none]) d_L_told_421 (Nat.le_of_ble_eq_true rfl) rfl ?_
    refine jm_iconst (v := 0) d_L_told_423 rfl (jm_okI (by decide) (by decide)) ?_
    refine jm_istore (L' := [some (jm_R _), some (jm_R _), some (jm_R _), none, some (jm_I _), some (jm_I _), some (jm_I _), some (jm_I _), some (jm_I _), none, none, none]) d_L_told_424 (Nat.le_of_ble_eq_true rfl) rfl ?_
    refine jm_iconst (v := 0) d_L_told_426 rfl (jm_okI (by decide) (by decide)) ?_
    refine jm_istore (L' := [some (jm_R _), some (jm_R _), some (jm_R _), none, some (jm_I _), some (jm_I _), some (jm_I _), some (jm_I _), some (jm_I _), none, none, none]) d_L_told_427 (Nat.le_of_ble_eq_true rfl) rfl ?_
    refine jm_iconst (v := 0) d_L_told_429 rfl (jm_okI (by decide) (by decide)) ?_
    refine jm_istore (L' := [some (jm_R _), some (jm_R _), some (jm_R _), none, some (jm_I _), some (jm_I _), some (jm_I _), some (jm_I _), some (jm_I _), some (jm_I _), none, none]) d_L_told_430 (Nat.le_of_ble_eq_true rfl) rfl ?_
    exact h
set_option maxRecDepth 20000 in
theorem r_L_told_432 {E : jm_E} {d : Nat} {μ : jm_M} {Q : Option jm_V → jm_M → Prop} {v4 v5 v6 v7 v8 v9 : Int} (h :
  ((7 ≤ v9 →
    jc E m_L_more d [jm_R 0, jm_R 133, jm_I v5, jm_I v6] μ (fun (o : Option jm_V) (m2 : jm_M) => ∀ r3 : Int, o = some (jm_I r3) →
    ((r3 ≤ 0 →
      Q (some (jm_I 0)) m2) ∧
     (¬ (r3 ≤ 0) →
      jc E m_X10_table d [jm_R 0] m2 (fun (o : Option jm_V) (m5 : jm_M) => ∀ r6 : Int, o = some (jm_I r6) →
      ((r6 ≠ (jm_wr (v7 + v8)) →
        Q (some (jm_I 0)) m5) ∧
       (¬ (r6 ≠ (jm_wr (v7 + v8))) →
        jc E m_X10_fault d [jm_R 0] m5 (fun (o : Option jm_V) (m8 : jm_M) => ∀ r9 : Int, o = some (jm_I r9) →
        ((r9 ≠ 0 →
          Q (some (jm_I 0)) m8) ∧
         (¬ (r9 ≠ 0) →
          jc E m_X10_count d [jm_R 0, jm_I 0] m8 (fun (o : Option jm_V) (m11 : jm_M) => ∀ r12 : Int, o = some (jm_I r12) →
          ((r12 ≠ m11 134 0 →
            Q (some (jm_I 0)) m11) ∧
           (¬ (r12 ≠ m11 134 0) →
            jc E m_X10_count d [jm_R 0, jm_I 1] m11 (fun (o : Option jm_V) (m14 : jm_M) => ∀ r15 : Int, o = some (jm_I r15) →
            ((r15 ≠ 7 →
              Q (some (jm_I 0)) m14) ∧
             (¬ (r15 ≠ 7) →
              jc E m_X10_count d [jm_R 0, jm_I 2] m14 (fun (o : Option jm_V) (m17 : jm_M) => ∀ r18 : Int, o = some (jm_I r18) →
              ((r18 ≠ v8 →
                Q (some (jm_I 0)) m17) ∧
               (¬ (r18 ≠ v8) →
                jc E m_X10_count d [jm_R 0, jm_I 3] m17 (fun (o : Option jm_V) (m20 : jm_M) => ∀ r21 : Int, o = some (jm_I r21) →
                ((r21 ≠ m20 134 1 →
                  Q (some (jm_I 0)) m20) ∧
                 (¬ (r21 ≠ m20 134 1) →
                  jc E m_X10_count d [jm_R 0, jm_I 4] m20 (fun (o : Option jm_V) (m23 : jm_M) => ∀ r24 : Int, o = some (jm_I r24) →
                  ((r24 ≠ m23 134 6 →
                    Q (some (jm_I 0)) m23) ∧
                   (¬ (r24 ≠ m23 134 6) →
                    jc E m_X10_count d [jm_R 0, jm_I 5] m23 (fun (o : Option jm_V) (m26 : jm_M) => ∀ r27 : Int, o = some (jm_I r27) →
                    ((r27 ≠ m26 134 7 →
                      Q (some (jm_I 0)) m26) ∧
                     (¬ (r27 ≠ m26 134 7) →
                      jc E m_X10_count d [jm_R 0, jm_I 6] m26 (fun (o : Option jm_V) (m29 : jm_M) => ∀ r30 : Int, o = some (jm_I r30) →
                      ((r30 ≠ 0 →
                        Q (some (jm_I 0)) m29) ∧
                       (¬ (r30 ≠ 0) →
                        Q (some (jm_I 1)) m29))))))))))))))))))))))))))))))) ∧
   (¬ (7 ≤ v9) →
    jg E m_L_told d 442 [some (jm_R 0), some (jm_R 133), some (jm_R 134), none, some (jm_I v4), some (jm_I v5), some (jm_I v6), some (jm_I v7), some (jm_I v8), some (jm_I v9), some (jm_I 0), none] [] μ Q))) : jg E m_L_told d 432 [some (jm_R 0), some (jm_R 133), some (jm_R 134), none, some (jm_I v4), some (jm_I v5), some (jm_I v6), some (jm_I v7), some (jm_I v8), some (jm_I v9), none, none] [] μ Q := by
  refine jm_iload d_L_told_432 rfl ?_
  refine jm_bipush (v := 7) d_L_told_434 rfl (jm_okI (by decide) (by decide)) ?_
  refine jm_icmp_ge (tgt := 621) d_L_told_436 (by decide) (fun c1 => ?_) (fun c1 => ?_)
  · have h := h.1 c1
    refine jm_aloadn d_L_told_621 rfl ?_
    refine jm_aloadn d_L_told_622 rfl ?_
    refine jm_iload d_L_told_623 rfl ?_
    refine jm_iload d_L_told_625 rfl ?_
    refine jm_invS (n1 := jm_N) (mc := 0) (ms := 0) (av := [jm_R _, jm_R _, jm_I _, jm_I _]) w_L_more l_L_33 d_L_told_627 rfl ⟨Nat.le_refl _, Nat.le_refl _⟩ (Nat.le_of_ble_eq_true rfl) rfl ?_
    refine jm_Cl.mono h (fun o m2 h hr _ => ?_)
    obtain ⟨r3, rfl⟩ := jm_rokI hr
    have h := h _ rfl
    refine jm_istore (L' := [some (jm_R _), some (jm_R _), some (jm_R _), none, some (jm_I _), some (jm_I _), some (jm_I _), some (jm_I _), some (jm_I _), some (jm_I _), none, none]) d_L_told_630 (Nat.le_of_ble_eq_true rfl) rfl ?_
    refine jm_iload d_L_told_632 rfl ?_
    refine jm_if_le (tgt := 735) d_L_told_634 (by decide) (fun c4 => ?_) (fun c4 => ?_)
    · have h := h.1 c4
      refine jm_iconst (v := 0) d_L_told_735 rfl (jm_okI (by decide) (by decide)) ?_
      exact jm_ret (o := some (jm_I _)) d_L_told_736 rfl ⟨Nat.le_refl _, Nat.le_refl _⟩ (jm_r_Z (by decide)) h rfl
    · have h := h.2 c4
      refine jm_aloadn d_L_told_637 rfl ?_
      refine jm_invV (n1 := jm_N) (mc := 0) (ms := 0) (av := []) w_X10_table l_L_84 d_L_told_638 rfl is_0 ⟨_, _, rfl⟩ ⟨Nat.le_refl _, Nat.le_refl _⟩ (Nat.le_of_ble_eq_true rfl) rfl ?_
      refine jm_Cl.mono h (fun o m5 h hr _ => ?_)
      obtain ⟨r6, rfl⟩ := jm_rokI hr
      have h := h _ rfl
      refine jm_iload d_L_told_641 rfl ?_
      refine jm_iload d_L_told_643 rfl ?_
      refine jm_iadd d_L_told_645 ?_
      refine jm_icmp_ne (tgt := 735) d_L_told_646 (by decide) (fun c7 => ?_) (fun c7 => ?_)
      · have h := h.1 c7
        refine jm_iconst (v := 0) d_L_told_735 rfl (jm_okI (by decide) (by decide)) ?_
        exact jm_ret (o := some (jm_I _)) d_L_told_736 rfl ⟨Nat.le_refl _, Nat.le_refl _⟩ (jm_r_Z (by decide)) h rfl
      · have h := h.2 c7
        refine jm_aloadn d_L_told_649 rfl ?_
        refine jm_invV (n1 := jm_N) (mc := 0) (ms := 0) (av := []) w_X10_fault l_L_87 d_L_told_650 rfl is_0 ⟨_, _, rfl⟩ ⟨Nat.le_refl _, Nat.le_refl _⟩ (Nat.le_of_ble_eq_true rfl) rfl ?_
        refine jm_Cl.mono h (fun o m8 h hr _ => ?_)
        obtain ⟨r9, rfl⟩ := jm_rokI hr
        have h := h _ rfl
        refine jm_if_ne (tgt := 735) d_L_told_653 (by decide) (fun c10 => ?_) (fun c10 => ?_)
        · have h := h.1 c10
          refine jm_iconst (v := 0) d_L_told_735 rfl (jm_okI (by decide) (by decide)) ?_
          exact jm_ret (o := some (jm_I _)) d_L_told_736 rfl ⟨Nat.le_refl _, Nat.le_refl _⟩ (jm_r_Z (by decide)) h rfl
        · have h := h.2 c10
          refine jm_aloadn d_L_told_656 rfl ?_
          refine jm_iconst (v := 0) d_L_told_657 rfl (jm_okI (by decide) (by decide)) ?_
          refine jm_invV (n1 := jm_N) (mc := 0) (ms := 0) (av := [jm_I _]) w_X10_count l_L_90 d_L_told_658 rfl is_0 ⟨_, _, rfl⟩ ⟨Nat.le_refl _, Nat.le_refl _⟩ (Nat.le_of_ble_eq_true rfl) rfl ?_
          refine jm_Cl.mono h (fun o m11 h hr _ => ?_)
          obtain ⟨r12, rfl⟩ := jm_rokI hr
          have h := h _ rfl
          refine jm_aloadn d_L_told_661 rfl ?_
          refine jm_iconst (v := 0) d_L_told_662 rfl (jm_okI (by decide) (by decide)) ?_
          refine jm_iaload d_L_told_663 (ixl_134 (by decide) (by decide)) ?_
          refine jm_icmp_ne (tgt := 735) d_L_told_664 (by decide) (fun c13 => ?_) (fun c13 => ?_)
          · have h := h.1 c13
            refine jm_iconst (v := 0) d_L_told_735 rfl (jm_okI (by decide) (by decide)) ?_
            exact jm_ret (o := some (jm_I _)) d_L_told_736 rfl ⟨Nat.le_refl _, Nat.le_refl _⟩ (jm_r_Z (by decide)) h rfl
          · have h := h.2 c13
            refine jm_aloadn d_L_told_667 rfl ?_
            refine jm_iconst (v := 1) d_L_told_668 rfl (jm_okI (by decide) (by decide)) ?_
            refine jm_invV (n1 := jm_N) (mc := 0) (ms := 0) (av := [jm_I _]) w_X10_count l_L_90 d_L_told_669 rfl is_0 ⟨_, _, rfl⟩ ⟨Nat.le_refl _, Nat.le_refl _⟩ (Nat.le_of_ble_eq_true rfl) rfl ?_
            refine jm_Cl.mono h (fun o m14 h hr _ => ?_)
            obtain ⟨r15, rfl⟩ := jm_rokI hr
            have h := h _ rfl
            refine jm_bipush (v := 7) d_L_told_672 rfl (jm_okI (by decide) (by decide)) ?_
            refine jm_icmp_ne (tgt := 735) d_L_told_674 (by decide) (fun c16 => ?_) (fun c16 => ?_)
            · have h := h.1 c16
              refine jm_iconst (v := 0) d_L_told_735 rfl (jm_okI (by decide) (by decide)) ?_
              exact jm_ret (o := some (jm_I _)) d_L_told_736 rfl ⟨Nat.le_refl _, Nat.le_refl _⟩ (jm_r_Z (by decide)) h rfl
            · have h := h.2 c16
              refine jm_aloadn d_L_told_677 rfl ?_
              refine jm_iconst (v := 2) d_L_told_678 rfl (jm_okI (by decide) (by decide)) ?_
              refine jm_invV (n1 := jm_N) (mc := 0) (ms := 0) (av := [jm_I _]) w_X10_count l_L_90 d_L_told_679 rfl is_0 ⟨_, _, rfl⟩ ⟨Nat.le_refl _, Nat.le_refl _⟩ (Nat.le_of_ble_eq_true rfl) rfl ?_
              refine jm_Cl.mono h (fun o m17 h hr _ => ?_)
              obtain ⟨r18, rfl⟩ := jm_rokI hr
              have h := h _ rfl
              refine jm_iload d_L_told_682 rfl ?_
              refine jm_icmp_ne (tgt := 735) d_L_told_684 (by decide) (fun c19 => ?_) (fun c19 => ?_)
              · have h := h.1 c19
                refine jm_iconst (v := 0) d_L_told_735 rfl (jm_okI (by decide) (by decide)) ?_
                exact jm_ret (o := some (jm_I _)) d_L_told_736 rfl ⟨Nat.le_refl _, Nat.le_refl _⟩ (jm_r_Z (by decide)) h rfl
              · have h := h.2 c19
                refine jm_aloadn d_L_told_687 rfl ?_
                refine jm_iconst (v := 3) d_L_told_688 rfl (jm_okI (by decide) (by decide)) ?_
                refine jm_invV (n1 := jm_N) (mc := 0) (ms := 0) (av := [jm_I _]) w_X10_count l_L_90 d_L_told_689 rfl is_0 ⟨_, _, rfl⟩ ⟨Nat.le_refl _, Nat.le_refl _⟩ (Nat.le_of_ble_eq_true rfl) rfl ?_
                refine jm_Cl.mono h (fun o m20 h hr _ => ?_)
                obtain ⟨r21, rfl⟩ := jm_rokI hr
                have h := h _ rfl
                refine jm_aloadn d_L_told_692 rfl ?_
                refine jm_iconst (v := 1) d_L_told_693 rfl (jm_okI (by decide) (by decide)) ?_
                refine jm_iaload d_L_told_694 (ixl_134 (by decide) (by decide)) ?_
                refine jm_icmp_ne (tgt := 735) d_L_told_695 (by decide) (fun c22 => ?_) (fun c22 => ?_)
                · have h := h.1 c22
                  refine jm_iconst (v := 0) d_L_told_735 rfl (jm_okI (by decide) (by decide)) ?_
                  exact jm_ret (o := some (jm_I _)) d_L_told_736 rfl ⟨Nat.le_refl _, Nat.le_refl _⟩ (jm_r_Z (by decide)) h rfl
                · have h := h.2 c22
                  refine jm_aloadn d_L_told_698 rfl ?_
                  refine jm_iconst (v := 4) d_L_told_699 rfl (jm_okI (by decide) (by decide)) ?_
                  refine jm_invV (n1 := jm_N) (mc := 0) (ms := 0) (av := [jm_I _]) w_X10_count l_L_90 d_L_told_700 rfl is_0 ⟨_, _, rfl⟩ ⟨Nat.le_refl _, Nat.le_refl _⟩ (Nat.le_of_ble_eq_true rfl) rfl ?_
                  refine jm_Cl.mono h (fun o m23 h hr _ => ?_)
                  obtain ⟨r24, rfl⟩ := jm_rokI hr
                  have h := h _ rfl
                  refine jm_aloadn d_L_told_703 rfl ?_
                  refine jm_bipush (v := 6) d_L_told_704 rfl (jm_okI (by decide) (by decide)) ?_
                  refine jm_iaload d_L_told_706 (ixl_134 (by decide) (by decide)) ?_
                  refine jm_icmp_ne (tgt := 735) d_L_told_707 (by decide) (fun c25 => ?_) (fun c25 => ?_)
                  · have h := h.1 c25
                    refine jm_iconst (v := 0) d_L_told_735 rfl (jm_okI (by decide) (by decide)) ?_
                    exact jm_ret (o := some (jm_I _)) d_L_told_736 rfl ⟨Nat.le_refl _, Nat.le_refl _⟩ (jm_r_Z (by decide)) h rfl
                  · have h := h.2 c25
                    refine jm_aloadn d_L_told_710 rfl ?_
                    refine jm_iconst (v := 5) d_L_told_711 rfl (jm_okI (by decide) (by decide)) ?_
                    refine jm_invV (n1 := jm_N) (mc := 0) (ms := 0) (av := [jm_I _]) w_X10_count l_L_90 d_L_told_712 rfl is_0 ⟨_, _, rfl⟩ ⟨Nat.le_refl _, Nat.le_refl _⟩ (Nat.le_of_ble_eq_true rfl) rfl ?_
                    refine jm_Cl.mono h (fun o m26 h hr _ => ?_)
                    obtain ⟨r27, rfl⟩ := jm_rokI hr
                    have h := h _ rfl
                    refine jm_aloadn d_L_told_715 rfl ?_
                    refine jm_bipush (v := 7) d_L_told_716 rfl (jm_okI (by decide) (by decide)) ?_
                    refine jm_iaload d_L_told_718 (ixl_134 (by decide) (by decide)) ?_
                    refine jm_icmp_ne (tgt := 735) d_L_told_719 (by decide) (fun c28 => ?_) (fun c28 => ?_)
                    · have h := h.1 c28
                      refine jm_iconst (v := 0) d_L_told_735 rfl (jm_okI (by decide) (by decide)) ?_
                      exact jm_ret (o := some (jm_I _)) d_L_told_736 rfl ⟨Nat.le_refl _, Nat.le_refl _⟩ (jm_r_Z (by decide)) h rfl
                    · have h := h.2 c28
                      refine jm_aloadn d_L_told_722 rfl ?_
                      refine jm_bipush (v := 6) d_L_told_723 rfl (jm_okI (by decide) (by decide)) ?_
                      refine jm_invV (n1 := jm_N) (mc := 0) (ms := 0) (av := [jm_I _]) w_X10_count l_L_90 d_L_told_725 rfl is_0 ⟨_, _, rfl⟩ ⟨Nat.le_refl _, Nat.le_refl _⟩ (Nat.le_of_ble_eq_true rfl) rfl ?_
                      refine jm_Cl.mono h (fun o m29 h hr _ => ?_)
                      obtain ⟨r30, rfl⟩ := jm_rokI hr
                      have h := h _ rfl
                      refine jm_if_ne (tgt := 735) d_L_told_728 (by decide) (fun c31 => ?_) (fun c31 => ?_)
                      · have h := h.1 c31
                        refine jm_iconst (v := 0) d_L_told_735 rfl (jm_okI (by decide) (by decide)) ?_
                        exact jm_ret (o := some (jm_I _)) d_L_told_736 rfl ⟨Nat.le_refl _, Nat.le_refl _⟩ (jm_r_Z (by decide)) h rfl
                      · have h := h.2 c31
                        refine jm_iconst (v := 1) d_L_told_731 rfl (jm_okI (by decide) (by decide)) ?_
                        refine jm_goto (tgt := 736) d_L_told_732 (by decide) ?_
                        exact jm_ret (o := some (jm_I _)) d_L_told_736 rfl ⟨Nat.le_refl _, Nat.le_refl _⟩ (jm_r_Z (by decide)) h rfl
  · have h := h.2 c1
    refine jm_iconst (v := 0) d_L_told_439 rfl (jm_okI (by decide) (by decide)) ?_
    refine jm_istore (L' := [some (jm_R _), some (jm_R _), some (jm_R _), none, some (jm_I _), some (jm_I _), some (jm_I _), some (jm_I _), some (jm_I _), some (jm_I _), some (jm_I _), none]) d_L_told_440 (Nat.le_of_ble_eq_true rfl) rfl ?_
    exact h
set_option maxRecDepth 20000 in
theorem r_L_told_442 {E : jm_E} {d : Nat} {μ : jm_M} {Q : Option jm_V → jm_M → Prop} {v4 v5 v6 v7 v8 v9 v10 : Int} (h :
  ((7 ≤ v10 →
    jg E m_L_told d 432 [some (jm_R 0), some (jm_R 133), some (jm_R 134), none, some (jm_I v4), some (jm_I v5), some (jm_I v6), some (jm_I v7), some (jm_I v8), some (jm_I (jm_wr (v9 + 1))), none, none] [] μ Q) ∧
   (¬ (7 ≤ v10) →
    ((v9 = 1 →
      ((v10 = 0 →
        jg E m_L_told d 485 [some (jm_R 0), some (jm_R 133), some (jm_R 134), none, some (jm_I v4), some (jm_I v5), some (jm_I v6), some (jm_I v7), some (jm_I v8), some (jm_I v9), some (jm_I v10), none] [] μ Q) ∧
       (¬ (v10 = 0) →
        ((v9 ≤ 2 →
          jg E m_L_told d 489 [some (jm_R 0), some (jm_R 133), some (jm_R 134), none, some (jm_I v4), some (jm_I v5), some (jm_I v6), some (jm_I v7), some (jm_I v8), some (jm_I v9), some (jm_I v10), none] [] μ Q) ∧
         (¬ (v9 ≤ 2) →
          ((6 ≤ v9 →
            jg E m_L_told d 489 [some (jm_R 0), some (jm_R 133), some (jm_R 134), none, some (jm_I v4), some (jm_I v5), some (jm_I v6), some (jm_I v7), some (jm_I v8), some (jm_I v9), some (jm_I v10), none] [] μ Q) ∧
           (¬ (6 ≤ v9) →
            ((v10 ≠ 1 →
              jg E m_L_told d 489 [some (jm_R 0), some (jm_R 133), some (jm_R 134), none, some (jm_I v4), some (jm_I v5), some (jm_I v6), some (jm_I v7), some (jm_I v8), some (jm_I v9), some (jm_I v10), none] [] μ Q) ∧
             (¬ (v10 ≠ 1) →
              jg E m_L_told d 485 [some (jm_R 0), some (jm_R 133), some (jm_R 134), none, some (jm_I v4), some (jm_I v5), some (jm_I v6), some (jm_I v7), some (jm_I v8), some (jm_I v9), some (jm_I v10), none] [] μ Q))))))))) ∧
     (¬ (v9 = 1) →
      ((v9 ≠ 2 →
        ((v9 ≤ 2 →
          jg E m_L_told d 489 [some (jm_R 0), some (jm_R 133), some (jm_R 134), none, some (jm_I v4), some (jm_I v5), some (jm_I v6), some (jm_I v7), some (jm_I v8), some (jm_I v9), some (jm_I v10), none] [] μ Q) ∧
         (¬ (v9 ≤ 2) →
          ((6 ≤ v9 →
            jg E m_L_told d 489 [some (jm_R 0), some (jm_R 133), some (jm_R 134), none, some (jm_I v4), some (jm_I v5), some (jm_I v6), some (jm_I v7), some (jm_I v8), some (jm_I v9), some (jm_I v10), none] [] μ Q) ∧
           (¬ (6 ≤ v9) →
            ((v10 ≠ 1 →
              jg E m_L_told d 489 [some (jm_R 0), some (jm_R 133), some (jm_R 134), none, some (jm_I v4), some (jm_I v5), some (jm_I v6), some (jm_I v7), some (jm_I v8), some (jm_I v9), some (jm_I v10), none] [] μ Q) ∧
             (¬ (v10 ≠ 1) →
              jg E m_L_told d 485 [some (jm_R 0), some (jm_R 133), some (jm_R 134), none, some (jm_I v4), some (jm_I v5), some (jm_I v6), some (jm_I v7), some (jm_I v8), some (jm_I v9), some (jm_I v10), none] [] μ Q))))))) ∧
       (¬ (v9 ≠ 2) →
        ((v10 = 0 →
          jg E m_L_told d 485 [some (jm_R 0), some (jm_R 133), some (jm_R 134), none, some (jm_I v4), some (jm_I v5), some (jm_I v6), some (jm_I v7), some (jm_I v8), some (jm_I v9), some (jm_I v10), none] [] μ Q) ∧
         (¬ (v10 = 0) →
          ((v9 ≤ 2 →
            jg E m_L_told d 489 [some (jm_R 0), some (jm_R 133), some (jm_R 134), none, some (jm_I v4), some (jm_I v5), some (jm_I v6), some (jm_I v7), some (jm_I v8), some (jm_I v9), some (jm_I v10), none] [] μ Q) ∧
           (¬ (v9 ≤ 2) →
            ((6 ≤ v9 →
              jg E m_L_told d 489 [some (jm_R 0), some (jm_R 133), some (jm_R 134), none, some (jm_I v4), some (jm_I v5), some (jm_I v6), some (jm_I v7), some (jm_I v8), some (jm_I v9), some (jm_I v10), none] [] μ Q) ∧
             (¬ (6 ≤ v9) →
              ((v10 ≠ 1 →
                jg E m_L_told d 489 [some (jm_R 0), some (jm_R 133), some (jm_R 134), none, some (jm_I v4), some (jm_I v5), some (jm_I v6), some (jm_I v7), some (jm_I v8), some (jm_I v9), some (jm_I v10), none] [] μ Q) ∧
               (¬ (v10 ≠ 1) →
                jg E m_L_told d 485 [some (jm_R 0), some (jm_R 133), some (jm_R 134), none, some (jm_I v4), some (jm_I v5), some (jm_I v6), some (jm_I v7), some (jm_I v8), some (jm_I v9), some (jm_I v10), none] [] μ Q))))))))))))))) : jg E m_L_told d 442 [some (jm_R 0), some (jm_R 133), some (jm_R 134), none, some (jm_I v4), some (jm_I v5), some (jm_I v6), some (jm_I v7), some (jm_I v8), some (jm_I v9), some (jm_I v10), none] [] μ Q := by
  refine jm_iload d_L_told_442 rfl ?_
  refine jm_bipush (v := 7) d_L_told_444 rfl (jm_okI (by decide) (by decide)) ?_
  refine jm_icmp_ge (tgt := 615) d_L_told_446 (by decide) (fun c1 => ?_) (fun c1 => ?_)
  · have h := h.1 c1
    refine jm_iinc (L' := [some (jm_R _), some (jm_R _), some (jm_R _), none, some (jm_I _), some (jm_I _), some (jm_I _), some (jm_I _), some (jm_I _), some (jm_I _), some (jm_I _), none]) d_L_told_615 rfl rfl (Nat.le_of_ble_eq_true rfl) rfl ?_
    refine jm_goto (tgt := 432) d_L_told_618 (by decide) ?_
    exact jm_weak2 h (And.intro rfl (And.intro rfl (And.intro rfl (And.intro rfl (And.intro rfl (And.intro rfl (And.intro rfl (And.intro rfl (And.intro rfl trivial)))))))))
  · have h := h.2 c1
    refine jm_iload d_L_told_449 rfl ?_
    refine jm_iconst (v := 1) d_L_told_451 rfl (jm_okI (by decide) (by decide)) ?_
    refine jm_icmp_eq (tgt := 461) d_L_told_452 (by decide) (fun c2 => ?_) (fun c2 => ?_)
    · have h := h.1 c2
      refine jm_iload d_L_told_461 rfl ?_
      refine jm_if_eq (tgt := 485) d_L_told_463 (by decide) (fun c3 => ?_) (fun c3 => ?_)
      · have h := h.1 c3
        exact h
      · have h := h.2 c3
        refine jm_iload d_L_told_466 rfl ?_
        refine jm_iconst (v := 2) d_L_told_468 rfl (jm_okI (by decide) (by decide)) ?_
        refine jm_icmp_le (tgt := 489) d_L_told_469 (by decide) (fun c4 => ?_) (fun c4 => ?_)
        · have h := h.1 c4
          exact h
        · have h := h.2 c4
          refine jm_iload d_L_told_472 rfl ?_
          refine jm_bipush (v := 6) d_L_told_474 rfl (jm_okI (by decide) (by decide)) ?_
          refine jm_icmp_ge (tgt := 489) d_L_told_476 (by decide) (fun c5 => ?_) (fun c5 => ?_)
          · have h := h.1 c5
            exact h
          · have h := h.2 c5
            refine jm_iload d_L_told_479 rfl ?_
            refine jm_iconst (v := 1) d_L_told_481 rfl (jm_okI (by decide) (by decide)) ?_
            refine jm_icmp_ne (tgt := 489) d_L_told_482 (by decide) (fun c6 => ?_) (fun c6 => ?_)
            · have h := h.1 c6
              exact h
            · have h := h.2 c6
              exact h
    · have h := h.2 c2
      refine jm_iload d_L_told_455 rfl ?_
      refine jm_iconst (v := 2) d_L_told_457 rfl (jm_okI (by decide) (by decide)) ?_
      refine jm_icmp_ne (tgt := 466) d_L_told_458 (by decide) (fun c7 => ?_) (fun c7 => ?_)
      · have h := h.1 c7
        refine jm_iload d_L_told_466 rfl ?_
        refine jm_iconst (v := 2) d_L_told_468 rfl (jm_okI (by decide) (by decide)) ?_
        refine jm_icmp_le (tgt := 489) d_L_told_469 (by decide) (fun c8 => ?_) (fun c8 => ?_)
        · have h := h.1 c8
          exact h
        · have h := h.2 c8
          refine jm_iload d_L_told_472 rfl ?_
          refine jm_bipush (v := 6) d_L_told_474 rfl (jm_okI (by decide) (by decide)) ?_
          refine jm_icmp_ge (tgt := 489) d_L_told_476 (by decide) (fun c9 => ?_) (fun c9 => ?_)
          · have h := h.1 c9
            exact h
          · have h := h.2 c9
            refine jm_iload d_L_told_479 rfl ?_
            refine jm_iconst (v := 1) d_L_told_481 rfl (jm_okI (by decide) (by decide)) ?_
            refine jm_icmp_ne (tgt := 489) d_L_told_482 (by decide) (fun c10 => ?_) (fun c10 => ?_)
            · have h := h.1 c10
              exact h
            · have h := h.2 c10
              exact h
      · have h := h.2 c7
        refine jm_iload d_L_told_461 rfl ?_
        refine jm_if_eq (tgt := 485) d_L_told_463 (by decide) (fun c11 => ?_) (fun c11 => ?_)
        · have h := h.1 c11
          exact h
        · have h := h.2 c11
          refine jm_iload d_L_told_466 rfl ?_
          refine jm_iconst (v := 2) d_L_told_468 rfl (jm_okI (by decide) (by decide)) ?_
          refine jm_icmp_le (tgt := 489) d_L_told_469 (by decide) (fun c12 => ?_) (fun c12 => ?_)
          · have h := h.1 c12
            exact h
          · have h := h.2 c12
            refine jm_iload d_L_told_472 rfl ?_
            refine jm_bipush (v := 6) d_L_told_474 rfl (jm_okI (by decide) (by decide)) ?_
            refine jm_icmp_ge (tgt := 489) d_L_told_476 (by decide) (fun c13 => ?_) (fun c13 => ?_)
            · have h := h.1 c13
              exact h
            · have h := h.2 c13
              refine jm_iload d_L_told_479 rfl ?_
              refine jm_iconst (v := 1) d_L_told_481 rfl (jm_okI (by decide) (by decide)) ?_
              refine jm_icmp_ne (tgt := 489) d_L_told_482 (by decide) (fun c14 => ?_) (fun c14 => ?_)
              · have h := h.1 c14
                exact h
              · have h := h.2 c14
                exact h
set_option maxRecDepth 20000 in
theorem r_L_told_485 {E : jm_E} {d : Nat} {μ : jm_M} {Q : Option jm_V → jm_M → Prop} {v4 v5 v6 v7 v8 v9 v10 : Int} (h :
  jg E m_L_told d 552 [some (jm_R 0), some (jm_R 133), some (jm_R 134), none, some (jm_I v4), some (jm_I v5), some (jm_I v6), some (jm_I v7), some (jm_I v8), some (jm_I v9), some (jm_I v10), none] [] μ Q) : jg E m_L_told d 485 [some (jm_R 0), some (jm_R 133), some (jm_R 134), none, some (jm_I v4), some (jm_I v5), some (jm_I v6), some (jm_I v7), some (jm_I v8), some (jm_I v9), some (jm_I v10), none] [] μ Q := by
  refine jm_iconst (v := 1) d_L_told_485 rfl (jm_okI (by decide) (by decide)) ?_
  refine jm_goto (tgt := 490) d_L_told_486 (by decide) ?_
  refine jm_istore (L' := [some (jm_R _), some (jm_R _), some (jm_R _), none, some (jm_I _), some (jm_I _), some (jm_I _), some (jm_I _), some (jm_I _), some (jm_I _), some (jm_I _), some (jm_I _)]) d_L_told_490 (Nat.le_of_ble_eq_true rfl) rfl ?_
  refine jm_iload d_L_told_492 rfl ?_
  refine jm_if_ne (tgt := 552) d_L_told_494 (by decide) (fun _ => ?_) (fun c1 => absurd (by decide) c1)
  exact jm_weak2 h (And.intro rfl (And.intro rfl (And.intro rfl (And.intro rfl (And.intro rfl (And.intro rfl (And.intro rfl (And.intro rfl (And.intro rfl (And.intro rfl trivial))))))))))
set_option maxRecDepth 20000 in
theorem r_L_told_489 {E : jm_E} {d : Nat} {μ : jm_M} {Q : Option jm_V → jm_M → Prop} {v4 v5 v6 v7 v8 v9 v10 : Int} (h :
  ((0 < (jm_rem (jm_wr ((jm_wr (7 * v9)) + v10)) 3) →
    jg E m_L_told d 529 [some (jm_R 0), some (jm_R 133), some (jm_R 134), none, some (jm_I v4), some (jm_I v5), some (jm_I v6), some (jm_I v7), some (jm_I v8), some (jm_I v9), some (jm_I v10), none] [] μ Q) ∧
   (¬ (0 < (jm_rem (jm_wr ((jm_wr (7 * v9)) + v10)) 3)) →
    (((jm_and (jm_shr v4 (jm_rem (jm_wr ((jm_wr (7 * v9)) + v10)) 31)) 1) ≠ 0 →
      jg E m_L_told d 552 [some (jm_R 0), some (jm_R 133), some (jm_R 134), none, some (jm_I v4), some (jm_I v5), some (jm_I v6), some (jm_I v7), some (jm_I v8), some (jm_I v9), some (jm_I v10), none] [] μ Q) ∧
     (¬ ((jm_and (jm_shr v4 (jm_rem (jm_wr ((jm_wr (7 * v9)) + v10)) 31)) 1) ≠ 0) →
      jg E m_L_told d 529 [some (jm_R 0), some (jm_R 133), some (jm_R 134), none, some (jm_I v4), some (jm_I v5), some (jm_I v6), some (jm_I v7), some (jm_I v8), some (jm_I v9), some (jm_I v10), none] [] μ Q))))) : jg E m_L_told d 489 [some (jm_R 0), some (jm_R 133), some (jm_R 134), none, some (jm_I v4), some (jm_I v5), some (jm_I v6), some (jm_I v7), some (jm_I v8), some (jm_I v9), some (jm_I v10), none] [] μ Q := by
  refine jm_iconst (v := 0) d_L_told_489 rfl (jm_okI (by decide) (by decide)) ?_
  refine jm_istore (L' := [some (jm_R _), some (jm_R _), some (jm_R _), none, some (jm_I _), some (jm_I _), some (jm_I _), some (jm_I _), some (jm_I _), some (jm_I _), some (jm_I _), some (jm_I _)]) d_L_told_490 (Nat.le_of_ble_eq_true rfl) rfl ?_
  refine jm_iload d_L_told_492 rfl ?_
  refine jm_if_ne (tgt := 552) d_L_told_494 (by decide) (fun c1 => absurd c1 (by decide)) (fun _ => ?_)
  refine jm_bipush (v := 7) d_L_told_497 rfl (jm_okI (by decide) (by decide)) ?_
  refine jm_iload d_L_told_499 rfl ?_
  refine jm_imul d_L_told_501 ?_
  refine jm_iload d_L_told_502 rfl ?_
  refine jm_iadd d_L_told_504 ?_
  refine jm_iconst (v := 3) d_L_told_505 rfl (jm_okI (by decide) (by decide)) ?_
  refine jm_irem d_L_told_506 (by decide) ?_
  refine jm_if_gt (tgt := 529) d_L_told_507 (by decide) (fun c2 => ?_) (fun c2 => ?_)
  · have h := h.1 c2
    exact jm_weak2 h (And.intro rfl (And.intro rfl (And.intro rfl (And.intro rfl (And.intro rfl (And.intro rfl (And.intro rfl (And.intro rfl (And.intro rfl (And.intro rfl trivial))))))))))
  · have h := h.2 c2
    refine jm_iload d_L_told_510 rfl ?_
    refine jm_bipush (v := 7) d_L_told_512 rfl (jm_okI (by decide) (by decide)) ?_
    refine jm_iload d_L_told_514 rfl ?_
    refine jm_imul d_L_told_516 ?_
    refine jm_iload d_L_told_517 rfl ?_
    refine jm_iadd d_L_told_519 ?_
    refine jm_bipush (v := 31) d_L_told_520 rfl (jm_okI (by decide) (by decide)) ?_
    refine jm_irem d_L_told_522 (by decide) ?_
    refine jm_ishr d_L_told_523 ?_
    refine jm_iconst (v := 1) d_L_told_524 rfl (jm_okI (by decide) (by decide)) ?_
    refine jm_iand d_L_told_525 ?_
    refine jm_if_ne (tgt := 552) d_L_told_526 (by decide) (fun c3 => ?_) (fun c3 => ?_)
    · have h := h.1 c3
      exact jm_weak2 h (And.intro rfl (And.intro rfl (And.intro rfl (And.intro rfl (And.intro rfl (And.intro rfl (And.intro rfl (And.intro rfl (And.intro rfl (And.intro rfl trivial))))))))))
    · have h := h.2 c3
      exact jm_weak2 h (And.intro rfl (And.intro rfl (And.intro rfl (And.intro rfl (And.intro rfl (And.intro rfl (And.intro rfl (And.intro rfl (And.intro rfl (And.intro rfl trivial))))))))))
set_option maxRecDepth 20000 in
theorem r_L_told_529 {E : jm_E} {d : Nat} {μ : jm_M} {Q : Option jm_V → jm_M → Prop} {v4 v5 v6 v7 v8 v9 v10 : Int} (h :
  ((v9 < 6 →
    jg E m_L_told d 442 [some (jm_R 0), some (jm_R 133), some (jm_R 134), none, some (jm_I v4), some (jm_I v5), some (jm_I v6), some (jm_I v7), some (jm_I v8), some (jm_I v9), some (jm_I (jm_wr (v10 + 1))), none] [] μ Q) ∧
   (¬ (v9 < 6) →
    (((jm_and (jm_shr v4 (jm_wr (24 + v10))) 1) ≠ 0 →
      jg E m_L_told d 552 [some (jm_R 0), some (jm_R 133), some (jm_R 134), none, some (jm_I v4), some (jm_I v5), some (jm_I v6), some (jm_I v7), some (jm_I v8), some (jm_I v9), some (jm_I v10), none] [] μ Q) ∧
     (¬ ((jm_and (jm_shr v4 (jm_wr (24 + v10))) 1) ≠ 0) →
      jg E m_L_told d 442 [some (jm_R 0), some (jm_R 133), some (jm_R 134), none, some (jm_I v4), some (jm_I v5), some (jm_I v6), some (jm_I v7), some (jm_I v8), some (jm_I v9), some (jm_I (jm_wr (v10 + 1))), none] [] μ Q))))) : jg E m_L_told d 529 [some (jm_R 0), some (jm_R 133), some (jm_R 134), none, some (jm_I v4), some (jm_I v5), some (jm_I v6), some (jm_I v7), some (jm_I v8), some (jm_I v9), some (jm_I v10), none] [] μ Q := by
  refine jm_iload d_L_told_529 rfl ?_
  refine jm_bipush (v := 6) d_L_told_531 rfl (jm_okI (by decide) (by decide)) ?_
  refine jm_icmp_lt (tgt := 609) d_L_told_533 (by decide) (fun c1 => ?_) (fun c1 => ?_)
  · have h := h.1 c1
    refine jm_iinc (L' := [some (jm_R _), some (jm_R _), some (jm_R _), none, some (jm_I _), some (jm_I _), some (jm_I _), some (jm_I _), some (jm_I _), some (jm_I _), some (jm_I _), none]) d_L_told_609 rfl rfl (Nat.le_of_ble_eq_true rfl) rfl ?_
    refine jm_goto (tgt := 442) d_L_told_612 (by decide) ?_
    exact h
  · have h := h.2 c1
    refine jm_iload d_L_told_536 rfl ?_
    refine jm_bipush (v := 24) d_L_told_538 rfl (jm_okI (by decide) (by decide)) ?_
    refine jm_iload d_L_told_540 rfl ?_
    refine jm_iadd d_L_told_542 ?_
    refine jm_ishr d_L_told_543 ?_
    refine jm_iconst (v := 1) d_L_told_544 rfl (jm_okI (by decide) (by decide)) ?_
    refine jm_iand d_L_told_545 ?_
    refine jm_if_ne (tgt := 552) d_L_told_546 (by decide) (fun c2 => ?_) (fun c2 => ?_)
    · have h := h.1 c2
      exact h
    · have h := h.2 c2
      refine jm_goto (tgt := 609) d_L_told_549 (by decide) ?_
      refine jm_iinc (L' := [some (jm_R _), some (jm_R _), some (jm_R _), none, some (jm_I _), some (jm_I _), some (jm_I _), some (jm_I _), some (jm_I _), some (jm_I _), some (jm_I _), none]) d_L_told_609 rfl rfl (Nat.le_of_ble_eq_true rfl) rfl ?_
      refine jm_goto (tgt := 442) d_L_told_612 (by decide) ?_
      exact h
set_option maxRecDepth 20000 in
theorem r_L_told_552 {E : jm_E} {d : Nat} {μ : jm_M} {Q : Option jm_V → jm_M → Prop} {v4 v5 v6 v7 v8 v9 v10 : Int} (h :
  ∀ x1 : Int, x1 = jm_wr (20 + v9) →
  (0 ≤ x1 ∧ x1 < 32) ∧
  ∀ m3 : jm_M, m3 = (jm_up μ 134 x1 (jm_or (μ 134 x1) (jm_shl 1 v10))) →
  jc E m_L_add d [jm_R 133, jm_I v5, jm_R ((-114))] m3 (fun (o : Option jm_V) (m4 : jm_M) => ∀ r5 : Int, o = some (jm_I r5) →
  jc E m_L_nameOf d [jm_I v9] m4 (fun (o : Option jm_V) (m6 : jm_M) => ∀ r7 : Int, o = some (jm_I r7) →
  jc E m_L_put d [jm_R 133, jm_I r5, jm_I r7] m6 (fun (o : Option jm_V) (m8 : jm_M) => ∀ r9 : Int, o = some (jm_I r9) →
  jc E m_L_put d [jm_R 133, jm_I r9, jm_I 32] m8 (fun (o : Option jm_V) (m10 : jm_M) => ∀ r11 : Int, o = some (jm_I r11) →
  jc E m_L_nameOf d [jm_I v10] m10 (fun (o : Option jm_V) (m12 : jm_M) => ∀ r13 : Int, o = some (jm_I r13) →
  jc E m_L_put d [jm_R 133, jm_I r11, jm_I r13] m12 (fun (o : Option jm_V) (m14 : jm_M) => ∀ r15 : Int, o = some (jm_I r15) →
  jc E m_L_put d [jm_R 133, jm_I r15, jm_I 59] m14 (fun (o : Option jm_V) (m16 : jm_M) => ∀ r17 : Int, o = some (jm_I r17) →
  jg E m_L_told d 442 [some (jm_R 0), some (jm_R 133), some (jm_R 134), none, some (jm_I v4), some (jm_I r17), some (jm_I v6), some (jm_I v7), some (jm_I (jm_wr (v8 + 1))), some (jm_I v9), some (jm_I (jm_wr (v10 + 1))), none] [] m16 Q)))))))) : jg E m_L_told d 552 [some (jm_R 0), some (jm_R 133), some (jm_R 134), none, some (jm_I v4), some (jm_I v5), some (jm_I v6), some (jm_I v7), some (jm_I v8), some (jm_I v9), some (jm_I v10), none] [] μ Q := by
  refine jm_aloadn d_L_told_552 rfl ?_
  refine jm_bipush (v := 20) d_L_told_553 rfl (jm_okI (by decide) (by decide)) ?_
  refine jm_iload d_L_told_555 rfl ?_
  refine jm_iadd d_L_told_557 ?_
  have h := h _ rfl
  refine jm_dup2 rfl rfl d_L_told_558 ?_
  obtain ⟨f2, h⟩ := h
  refine jm_iaload d_L_told_559 (ixl_134 f2.1 f2.2) ?_
  refine jm_iconst (v := 1) d_L_told_560 rfl (jm_okI (by decide) (by decide)) ?_
  refine jm_iload d_L_told_561 rfl ?_
  refine jm_ishl d_L_told_563 ?_
  refine jm_ior d_L_told_564 ?_
  refine jm_iastore d_L_told_565 (ixl_134 f2.1 f2.2) ?_
  have h := h _ rfl
  refine jm_iinc (L' := [some (jm_R _), some (jm_R _), some (jm_R _), none, some (jm_I _), some (jm_I _), some (jm_I _), some (jm_I _), some (jm_I _), some (jm_I _), some (jm_I _), none]) d_L_told_566 rfl rfl (Nat.le_of_ble_eq_true rfl) rfl ?_
  refine jm_aloadn d_L_told_569 rfl ?_
  refine jm_aloadn d_L_told_570 rfl ?_
  refine jm_aloadn d_L_told_571 rfl ?_
  refine jm_aloadn d_L_told_572 rfl ?_
  refine jm_aloadn d_L_told_573 rfl ?_
  refine jm_iload d_L_told_574 rfl ?_
  refine jm_ldcK (i := 13) (a := -114) (Nat.le_of_ble_eq_true rfl) rfl rfl rfl d_L_told_576 ?_
  refine jm_invS (n1 := jm_N) (mc := 0) (ms := 0) (av := [jm_R _, jm_I _, jm_R _]) w_L_add l_L_53 d_L_told_578 rfl ⟨Nat.le_refl _, Nat.le_refl _⟩ (Nat.le_of_ble_eq_true rfl) rfl ?_
  refine jm_Cl.mono h (fun o m4 h hr _ => ?_)
  obtain ⟨r5, rfl⟩ := jm_rokI hr
  have h := h _ rfl
  refine jm_iload d_L_told_581 rfl ?_
  refine jm_invS5 (n1 := jm_N) (mc := 0) (ms := 0) (av := [jm_I _]) w_L_nameOf l_L_80 d_L_told_583 rfl ⟨Nat.le_refl _, Nat.le_refl _⟩ (Nat.le_of_ble_eq_true rfl) rfl ?_
  refine jm_Cl.mono h (fun o m6 h hr _ => ?_)
  obtain ⟨r7, rfl⟩ := jm_rokI hr
  have h := h _ rfl
  refine jm_invS (n1 := jm_N) (mc := 0) (ms := 0) (av := [jm_R _, jm_I _, jm_I _]) w_L_put l_L_17 d_L_told_586 rfl ⟨Nat.le_refl _, Nat.le_refl _⟩ (Nat.le_of_ble_eq_true rfl) rfl ?_
  refine jm_Cl.mono h (fun o m8 h hr _ => ?_)
  obtain ⟨r9, rfl⟩ := jm_rokI hr
  have h := h _ rfl
  refine jm_bipush (v := 32) d_L_told_589 rfl (jm_okI (by decide) (by decide)) ?_
  refine jm_invS (n1 := jm_N) (mc := 0) (ms := 0) (av := [jm_R _, jm_I _, jm_I _]) w_L_put l_L_17 d_L_told_591 rfl ⟨Nat.le_refl _, Nat.le_refl _⟩ (Nat.le_of_ble_eq_true rfl) rfl ?_
  refine jm_Cl.mono h (fun o m10 h hr _ => ?_)
  obtain ⟨r11, rfl⟩ := jm_rokI hr
  have h := h _ rfl
  refine jm_iload d_L_told_594 rfl ?_
  refine jm_invS (n1 := jm_N) (mc := 0) (ms := 0) (av := [jm_I _]) w_L_nameOf l_L_80 d_L_told_596 rfl ⟨Nat.le_refl _, Nat.le_refl _⟩ (Nat.le_of_ble_eq_true rfl) rfl ?_
  refine jm_Cl.mono h (fun o m12 h hr _ => ?_)
  obtain ⟨r13, rfl⟩ := jm_rokI hr
  have h := h _ rfl
  refine jm_invS (n1 := jm_N) (mc := 0) (ms := 0) (av := [jm_R _, jm_I _, jm_I _]) w_L_put l_L_17 d_L_told_599 rfl ⟨Nat.le_refl _, Nat.le_refl _⟩ (Nat.le_of_ble_eq_true rfl) rfl ?_
  refine jm_Cl.mono h (fun o m14 h hr _ => ?_)
  obtain ⟨r15, rfl⟩ := jm_rokI hr
  have h := h _ rfl
  refine jm_bipush (v := 59) d_L_told_602 rfl (jm_okI (by decide) (by decide)) ?_
  refine jm_invS (n1 := jm_N) (mc := 0) (ms := 0) (av := [jm_R _, jm_I _, jm_I _]) w_L_put l_L_17 d_L_told_604 rfl ⟨Nat.le_refl _, Nat.le_refl _⟩ (Nat.le_of_ble_eq_true rfl) rfl ?_
  refine jm_Cl.mono h (fun o m16 h hr _ => ?_)
  obtain ⟨r17, rfl⟩ := jm_rokI hr
  have h := h _ rfl
  refine jm_istore (L' := [some (jm_R _), some (jm_R _), some (jm_R _), none, some (jm_I _), some (jm_I _), some (jm_I _), some (jm_I _), some (jm_I _), some (jm_I _), some (jm_I _), none]) d_L_told_607 (Nat.le_of_ble_eq_true rfl) rfl ?_
  refine jm_iinc (L' := [some (jm_R _), some (jm_R _), some (jm_R _), none, some (jm_I _), some (jm_I _), some (jm_I _), some (jm_I _), some (jm_I _), some (jm_I _), some (jm_I _), none]) d_L_told_609 rfl rfl (Nat.le_of_ble_eq_true rfl) rfl ?_
  refine jm_goto (tgt := 442) d_L_told_612 (by decide) ?_
  exact h
/-! ('CombTableLaw', 'live', '([I[II[I)I') -/
theorem d_L_live_0 : decode m_L_live.2.1 0 = .ok (.aload_n 3, 1) := by decide +kernel
theorem d_L_live_1 : decode m_L_live.2.1 1 = .ok (.bipush 49, 2) := by decide +kernel
theorem d_L_live_3 : decode m_L_live.2.1 3 = .ok (.iconst 0, 1) := by decide +kernel
theorem d_L_live_4 : decode m_L_live.2.1 4 = .ok (.iastore, 1) := by decide +kernel
theorem d_L_live_5 : decode m_L_live.2.1 5 = .ok (.iconst 0, 1) := by decide +kernel
theorem d_L_live_6 : decode m_L_live.2.1 6 = .ok (.istore 4, 2) := by decide +kernel
theorem d_L_live_8 : decode m_L_live.2.1 8 = .ok (.iload 4, 2) := by decide +kernel
theorem d_L_live_10 : decode m_L_live.2.1 10 = .ok (.iload_n 2, 1) := by decide +kernel
theorem d_L_live_11 : decode m_L_live.2.1 11 = .ok (.if_icmp .ge 541, 3) := by decide +kernel
theorem d_L_live_14 : decode m_L_live.2.1 14 = .ok (.aload_n 1, 1) := by decide +kernel
theorem d_L_live_15 : decode m_L_live.2.1 15 = .ok (.iload 4, 2) := by decide +kernel
theorem d_L_live_17 : decode m_L_live.2.1 17 = .ok (.iaload, 1) := by decide +kernel
theorem d_L_live_18 : decode m_L_live.2.1 18 = .ok (.iconst 4, 1) := by decide +kernel
theorem d_L_live_19 : decode m_L_live.2.1 19 = .ok (.ishr, 1) := by decide +kernel
theorem d_L_live_20 : decode m_L_live.2.1 20 = .ok (.istore 5, 2) := by decide +kernel
theorem d_L_live_22 : decode m_L_live.2.1 22 = .ok (.aload_n 1, 1) := by decide +kernel
theorem d_L_live_23 : decode m_L_live.2.1 23 = .ok (.iload 4, 2) := by decide +kernel
theorem d_L_live_25 : decode m_L_live.2.1 25 = .ok (.iaload, 1) := by decide +kernel
theorem d_L_live_26 : decode m_L_live.2.1 26 = .ok (.bipush 15, 2) := by decide +kernel
theorem d_L_live_28 : decode m_L_live.2.1 28 = .ok (.iand, 1) := by decide +kernel
theorem d_L_live_29 : decode m_L_live.2.1 29 = .ok (.istore 6, 2) := by decide +kernel
theorem d_L_live_31 : decode m_L_live.2.1 31 = .ok (.aload_n 0, 1) := by decide +kernel
theorem d_L_live_32 : decode m_L_live.2.1 32 = .ok (.bipush 6, 2) := by decide +kernel
theorem d_L_live_34 : decode m_L_live.2.1 34 = .ok (.iaload, 1) := by decide +kernel
theorem d_L_live_35 : decode m_L_live.2.1 35 = .ok (.iconst 1, 1) := by decide +kernel
theorem d_L_live_36 : decode m_L_live.2.1 36 = .ok (.if_icmp .ne 13, 3) := by decide +kernel
theorem d_L_live_39 : decode m_L_live.2.1 39 = .ok (.aload_n 0, 1) := by decide +kernel
theorem d_L_live_40 : decode m_L_live.2.1 40 = .ok (.bipush 8, 2) := by decide +kernel
theorem d_L_live_42 : decode m_L_live.2.1 42 = .ok (.iload 5, 2) := by decide +kernel
theorem d_L_live_44 : decode m_L_live.2.1 44 = .ok (.iadd, 1) := by decide +kernel
theorem d_L_live_45 : decode m_L_live.2.1 45 = .ok (.iaload, 1) := by decide +kernel
theorem d_L_live_46 : decode m_L_live.2.1 46 = .ok (.goto 13, 3) := by decide +kernel
theorem d_L_live_49 : decode m_L_live.2.1 49 = .ok (.aload_n 0, 1) := by decide +kernel
theorem d_L_live_50 : decode m_L_live.2.1 50 = .ok (.iconst 2, 1) := by decide +kernel
theorem d_L_live_51 : decode m_L_live.2.1 51 = .ok (.iload 4, 2) := by decide +kernel
theorem d_L_live_53 : decode m_L_live.2.1 53 = .ok (.aload_n 0, 1) := by decide +kernel
theorem d_L_live_54 : decode m_L_live.2.1 54 = .ok (.iconst 1, 1) := by decide +kernel
theorem d_L_live_55 : decode m_L_live.2.1 55 = .ok (.iaload, 1) := by decide +kernel
theorem d_L_live_56 : decode m_L_live.2.1 56 = .ok (.irem, 1) := by decide +kernel
theorem d_L_live_57 : decode m_L_live.2.1 57 = .ok (.iadd, 1) := by decide +kernel
theorem d_L_live_58 : decode m_L_live.2.1 58 = .ok (.iaload, 1) := by decide +kernel
theorem d_L_live_59 : decode m_L_live.2.1 59 = .ok (.istore 7, 2) := by decide +kernel
theorem d_L_live_61 : decode m_L_live.2.1 61 = .ok (.aload_n 0, 1) := by decide +kernel
theorem d_L_live_62 : decode m_L_live.2.1 62 = .ok (.bipush 12, 2) := by decide +kernel
theorem d_L_live_64 : decode m_L_live.2.1 64 = .ok (.iload 6, 2) := by decide +kernel
theorem d_L_live_66 : decode m_L_live.2.1 66 = .ok (.iadd, 1) := by decide +kernel
theorem d_L_live_67 : decode m_L_live.2.1 67 = .ok (.iaload, 1) := by decide +kernel
theorem d_L_live_68 : decode m_L_live.2.1 68 = .ok (.iconst 2, 1) := by decide +kernel
theorem d_L_live_69 : decode m_L_live.2.1 69 = .ok (.if_icmp .eq 10, 3) := by decide +kernel
theorem d_L_live_72 : decode m_L_live.2.1 72 = .ok (.iload 4, 2) := by decide +kernel
theorem d_L_live_74 : decode m_L_live.2.1 74 = .ok (.iload 7, 2) := by decide +kernel
theorem d_L_live_76 : decode m_L_live.2.1 76 = .ok (.if_icmp .ge 7, 3) := by decide +kernel
theorem d_L_live_79 : decode m_L_live.2.1 79 = .ok (.iconst (-1), 1) := by decide +kernel
theorem d_L_live_80 : decode m_L_live.2.1 80 = .ok (.goto 8, 3) := by decide +kernel
theorem d_L_live_83 : decode m_L_live.2.1 83 = .ok (.iload 4, 2) := by decide +kernel
theorem d_L_live_85 : decode m_L_live.2.1 85 = .ok (.iload 7, 2) := by decide +kernel
theorem d_L_live_87 : decode m_L_live.2.1 87 = .ok (.isub, 1) := by decide +kernel
theorem d_L_live_88 : decode m_L_live.2.1 88 = .ok (.istore 8, 2) := by decide +kernel
theorem d_L_live_90 : decode m_L_live.2.1 90 = .ok (.iconst 0, 1) := by decide +kernel
theorem d_L_live_91 : decode m_L_live.2.1 91 = .ok (.istore 9, 2) := by decide +kernel
theorem d_L_live_93 : decode m_L_live.2.1 93 = .ok (.iload 8, 2) := by decide +kernel
theorem d_L_live_95 : decode m_L_live.2.1 95 = .ok (.ifCond .lt 19, 3) := by decide +kernel
theorem d_L_live_98 : decode m_L_live.2.1 98 = .ok (.aload_n 1, 1) := by decide +kernel
theorem d_L_live_99 : decode m_L_live.2.1 99 = .ok (.iload 8, 2) := by decide +kernel
theorem d_L_live_101 : decode m_L_live.2.1 101 = .ok (.iaload, 1) := by decide +kernel
theorem d_L_live_102 : decode m_L_live.2.1 102 = .ok (.bipush 15, 2) := by decide +kernel
theorem d_L_live_104 : decode m_L_live.2.1 104 = .ok (.iand, 1) := by decide +kernel
theorem d_L_live_105 : decode m_L_live.2.1 105 = .ok (.iconst 1, 1) := by decide +kernel
theorem d_L_live_106 : decode m_L_live.2.1 106 = .ok (.if_icmp .ne 8, 3) := by decide +kernel
theorem d_L_live_109 : decode m_L_live.2.1 109 = .ok (.iload 8, 2) := by decide +kernel
theorem d_L_live_111 : decode m_L_live.2.1 111 = .ok (.goto 4, 3) := by decide +kernel
theorem d_L_live_114 : decode m_L_live.2.1 114 = .ok (.iconst (-1), 1) := by decide +kernel
theorem d_L_live_115 : decode m_L_live.2.1 115 = .ok (.istore 10, 2) := by decide +kernel
theorem d_L_live_117 : decode m_L_live.2.1 117 = .ok (.iload 10, 2) := by decide +kernel
theorem d_L_live_119 : decode m_L_live.2.1 119 = .ok (.ifCond .lt 29, 3) := by decide +kernel
theorem d_L_live_122 : decode m_L_live.2.1 122 = .ok (.aload_n 3, 1) := by decide +kernel
theorem d_L_live_123 : decode m_L_live.2.1 123 = .ok (.bipush 36, 2) := by decide +kernel
theorem d_L_live_125 : decode m_L_live.2.1 125 = .ok (.iload 10, 2) := by decide +kernel
theorem d_L_live_127 : decode m_L_live.2.1 127 = .ok (.iadd, 1) := by decide +kernel
theorem d_L_live_128 : decode m_L_live.2.1 128 = .ok (.iaload, 1) := by decide +kernel
theorem d_L_live_129 : decode m_L_live.2.1 129 = .ok (.iconst 4, 1) := by decide +kernel
theorem d_L_live_130 : decode m_L_live.2.1 130 = .ok (.if_icmp .ne 15, 3) := by decide +kernel
theorem d_L_live_133 : decode m_L_live.2.1 133 = .ok (.iload 4, 2) := by decide +kernel
theorem d_L_live_135 : decode m_L_live.2.1 135 = .ok (.iload 10, 2) := by decide +kernel
theorem d_L_live_137 : decode m_L_live.2.1 137 = .ok (.isub, 1) := by decide +kernel
theorem d_L_live_138 : decode m_L_live.2.1 138 = .ok (.aload_n 0, 1) := by decide +kernel
theorem d_L_live_139 : decode m_L_live.2.1 139 = .ok (.bipush 11, 2) := by decide +kernel
theorem d_L_live_141 : decode m_L_live.2.1 141 = .ok (.iaload, 1) := by decide +kernel
theorem d_L_live_142 : decode m_L_live.2.1 142 = .ok (.if_icmp .le 6, 3) := by decide +kernel
theorem d_L_live_145 : decode m_L_live.2.1 145 = .ok (.iconst (-1), 1) := by decide +kernel
theorem d_L_live_146 : decode m_L_live.2.1 146 = .ok (.istore 10, 2) := by decide +kernel
theorem d_L_live_148 : decode m_L_live.2.1 148 = .ok (.iload 6, 2) := by decide +kernel
theorem d_L_live_150 : decode m_L_live.2.1 150 = .ok (.iconst 2, 1) := by decide +kernel
theorem d_L_live_151 : decode m_L_live.2.1 151 = .ok (.if_icmp .le 73, 3) := by decide +kernel
theorem d_L_live_154 : decode m_L_live.2.1 154 = .ok (.iload 6, 2) := by decide +kernel
theorem d_L_live_156 : decode m_L_live.2.1 156 = .ok (.bipush 6, 2) := by decide +kernel
theorem d_L_live_158 : decode m_L_live.2.1 158 = .ok (.if_icmp .ge 66, 3) := by decide +kernel
theorem d_L_live_161 : decode m_L_live.2.1 161 = .ok (.iload 8, 2) := by decide +kernel
theorem d_L_live_163 : decode m_L_live.2.1 163 = .ok (.ifCond .lt 61, 3) := by decide +kernel
theorem d_L_live_166 : decode m_L_live.2.1 166 = .ok (.iload 10, 2) := by decide +kernel
theorem d_L_live_168 : decode m_L_live.2.1 168 = .ok (.ifCond .ge 7, 3) := by decide +kernel
theorem d_L_live_171 : decode m_L_live.2.1 171 = .ok (.iconst (-1), 1) := by decide +kernel
theorem d_L_live_172 : decode m_L_live.2.1 172 = .ok (.goto 26, 3) := by decide +kernel
theorem d_L_live_175 : decode m_L_live.2.1 175 = .ok (.iload 6, 2) := by decide +kernel
theorem d_L_live_177 : decode m_L_live.2.1 177 = .ok (.iconst 5, 1) := by decide +kernel
theorem d_L_live_178 : decode m_L_live.2.1 178 = .ok (.if_icmp .ne 14, 3) := by decide +kernel
theorem d_L_live_181 : decode m_L_live.2.1 181 = .ok (.aload_n 1, 1) := by decide +kernel
theorem d_L_live_182 : decode m_L_live.2.1 182 = .ok (.aload_n 3, 1) := by decide +kernel
theorem d_L_live_183 : decode m_L_live.2.1 183 = .ok (.iload 10, 2) := by decide +kernel
theorem d_L_live_185 : decode m_L_live.2.1 185 = .ok (.iaload, 1) := by decide +kernel
theorem d_L_live_186 : decode m_L_live.2.1 186 = .ok (.iaload, 1) := by decide +kernel
theorem d_L_live_187 : decode m_L_live.2.1 187 = .ok (.iconst 4, 1) := by decide +kernel
theorem d_L_live_188 : decode m_L_live.2.1 188 = .ok (.ishr, 1) := by decide +kernel
theorem d_L_live_189 : decode m_L_live.2.1 189 = .ok (.goto 9, 3) := by decide +kernel
theorem d_L_live_192 : decode m_L_live.2.1 192 = .ok (.aload_n 1, 1) := by decide +kernel
theorem d_L_live_193 : decode m_L_live.2.1 193 = .ok (.iload 10, 2) := by decide +kernel
theorem d_L_live_195 : decode m_L_live.2.1 195 = .ok (.iaload, 1) := by decide +kernel
theorem d_L_live_196 : decode m_L_live.2.1 196 = .ok (.iconst 4, 1) := by decide +kernel
theorem d_L_live_197 : decode m_L_live.2.1 197 = .ok (.ishr, 1) := by decide +kernel
theorem d_L_live_198 : decode m_L_live.2.1 198 = .ok (.istore 11, 2) := by decide +kernel
theorem d_L_live_200 : decode m_L_live.2.1 200 = .ok (.iload 11, 2) := by decide +kernel
theorem d_L_live_202 : decode m_L_live.2.1 202 = .ok (.ifCond .lt 14, 3) := by decide +kernel
theorem d_L_live_205 : decode m_L_live.2.1 205 = .ok (.iload 11, 2) := by decide +kernel
theorem d_L_live_207 : decode m_L_live.2.1 207 = .ok (.iload 5, 2) := by decide +kernel
theorem d_L_live_209 : decode m_L_live.2.1 209 = .ok (.if_icmp .eq 7, 3) := by decide +kernel
theorem d_L_live_212 : decode m_L_live.2.1 212 = .ok (.bipush 6, 2) := by decide +kernel
theorem d_L_live_214 : decode m_L_live.2.1 214 = .ok (.istore 9, 2) := by decide +kernel
theorem d_L_live_216 : decode m_L_live.2.1 216 = .ok (.iload 10, 2) := by decide +kernel
theorem d_L_live_218 : decode m_L_live.2.1 218 = .ok (.ifCond .ge 6, 3) := by decide +kernel
theorem d_L_live_221 : decode m_L_live.2.1 221 = .ok (.iconst 5, 1) := by decide +kernel
theorem d_L_live_222 : decode m_L_live.2.1 222 = .ok (.istore 9, 2) := by decide +kernel
theorem d_L_live_224 : decode m_L_live.2.1 224 = .ok (.iload 6, 2) := by decide +kernel
theorem d_L_live_226 : decode m_L_live.2.1 226 = .ok (.iconst 2, 1) := by decide +kernel
theorem d_L_live_227 : decode m_L_live.2.1 227 = .ok (.if_icmp .le 18, 3) := by decide +kernel
theorem d_L_live_230 : decode m_L_live.2.1 230 = .ok (.iload 6, 2) := by decide +kernel
theorem d_L_live_232 : decode m_L_live.2.1 232 = .ok (.bipush 6, 2) := by decide +kernel
theorem d_L_live_234 : decode m_L_live.2.1 234 = .ok (.if_icmp .ge 11, 3) := by decide +kernel
theorem d_L_live_237 : decode m_L_live.2.1 237 = .ok (.iload 8, 2) := by decide +kernel
theorem d_L_live_239 : decode m_L_live.2.1 239 = .ok (.ifCond .ge 6, 3) := by decide +kernel
theorem d_L_live_242 : decode m_L_live.2.1 242 = .ok (.iconst 5, 1) := by decide +kernel
theorem d_L_live_243 : decode m_L_live.2.1 243 = .ok (.istore 9, 2) := by decide +kernel
theorem d_L_live_245 : decode m_L_live.2.1 245 = .ok (.iload 6, 2) := by decide +kernel
theorem d_L_live_247 : decode m_L_live.2.1 247 = .ok (.iconst 1, 1) := by decide +kernel
theorem d_L_live_248 : decode m_L_live.2.1 248 = .ok (.if_icmp .eq 9, 3) := by decide +kernel
theorem d_L_live_251 : decode m_L_live.2.1 251 = .ok (.iload 6, 2) := by decide +kernel
theorem d_L_live_253 : decode m_L_live.2.1 253 = .ok (.iconst 2, 1) := by decide +kernel
theorem d_L_live_254 : decode m_L_live.2.1 254 = .ok (.if_icmp .ne 22, 3) := by decide +kernel
theorem d_L_live_257 : decode m_L_live.2.1 257 = .ok (.iload 8, 2) := by decide +kernel
theorem d_L_live_259 : decode m_L_live.2.1 259 = .ok (.ifCond .lt 14, 3) := by decide +kernel
theorem d_L_live_262 : decode m_L_live.2.1 262 = .ok (.aload_n 3, 1) := by decide +kernel
theorem d_L_live_263 : decode m_L_live.2.1 263 = .ok (.bipush 36, 2) := by decide +kernel
theorem d_L_live_265 : decode m_L_live.2.1 265 = .ok (.iload 8, 2) := by decide +kernel
theorem d_L_live_267 : decode m_L_live.2.1 267 = .ok (.iadd, 1) := by decide +kernel
theorem d_L_live_268 : decode m_L_live.2.1 268 = .ok (.iaload, 1) := by decide +kernel
theorem d_L_live_269 : decode m_L_live.2.1 269 = .ok (.iconst 1, 1) := by decide +kernel
theorem d_L_live_270 : decode m_L_live.2.1 270 = .ok (.if_icmp .eq 6, 3) := by decide +kernel
theorem d_L_live_273 : decode m_L_live.2.1 273 = .ok (.iconst 5, 1) := by decide +kernel
theorem d_L_live_274 : decode m_L_live.2.1 274 = .ok (.istore 9, 2) := by decide +kernel
theorem d_L_live_276 : decode m_L_live.2.1 276 = .ok (.iload 8, 2) := by decide +kernel
theorem d_L_live_278 : decode m_L_live.2.1 278 = .ok (.ifCond .lt 29, 3) := by decide +kernel
theorem d_L_live_281 : decode m_L_live.2.1 281 = .ok (.aload_n 1, 1) := by decide +kernel
theorem d_L_live_282 : decode m_L_live.2.1 282 = .ok (.iload 8, 2) := by decide +kernel
theorem d_L_live_284 : decode m_L_live.2.1 284 = .ok (.iaload, 1) := by decide +kernel
theorem d_L_live_285 : decode m_L_live.2.1 285 = .ok (.iconst 4, 1) := by decide +kernel
theorem d_L_live_286 : decode m_L_live.2.1 286 = .ok (.ishr, 1) := by decide +kernel
theorem d_L_live_287 : decode m_L_live.2.1 287 = .ok (.iload 5, 2) := by decide +kernel
theorem d_L_live_289 : decode m_L_live.2.1 289 = .ok (.if_icmp .ne 18, 3) := by decide +kernel
theorem d_L_live_292 : decode m_L_live.2.1 292 = .ok (.iload 6, 2) := by decide +kernel
theorem d_L_live_294 : decode m_L_live.2.1 294 = .ok (.iconst 3, 1) := by decide +kernel
theorem d_L_live_295 : decode m_L_live.2.1 295 = .ok (.if_icmp .eq 12, 3) := by decide +kernel
theorem d_L_live_298 : decode m_L_live.2.1 298 = .ok (.iload 6, 2) := by decide +kernel
theorem d_L_live_300 : decode m_L_live.2.1 300 = .ok (.iconst 4, 1) := by decide +kernel
theorem d_L_live_301 : decode m_L_live.2.1 301 = .ok (.if_icmp .eq 6, 3) := by decide +kernel
theorem d_L_live_304 : decode m_L_live.2.1 304 = .ok (.iconst 4, 1) := by decide +kernel
theorem d_L_live_305 : decode m_L_live.2.1 305 = .ok (.istore 9, 2) := by decide +kernel
theorem d_L_live_307 : decode m_L_live.2.1 307 = .ok (.iload 8, 2) := by decide +kernel
theorem d_L_live_309 : decode m_L_live.2.1 309 = .ok (.ifCond .lt 26, 3) := by decide +kernel
theorem d_L_live_312 : decode m_L_live.2.1 312 = .ok (.aload_n 0, 1) := by decide +kernel
theorem d_L_live_313 : decode m_L_live.2.1 313 = .ok (.bipush 20, 2) := by decide +kernel
theorem d_L_live_315 : decode m_L_live.2.1 315 = .ok (.iload 6, 2) := by decide +kernel
theorem d_L_live_317 : decode m_L_live.2.1 317 = .ok (.iadd, 1) := by decide +kernel
theorem d_L_live_318 : decode m_L_live.2.1 318 = .ok (.iaload, 1) := by decide +kernel
theorem d_L_live_319 : decode m_L_live.2.1 319 = .ok (.aload_n 1, 1) := by decide +kernel
theorem d_L_live_320 : decode m_L_live.2.1 320 = .ok (.iload 8, 2) := by decide +kernel
theorem d_L_live_322 : decode m_L_live.2.1 322 = .ok (.iaload, 1) := by decide +kernel
theorem d_L_live_323 : decode m_L_live.2.1 323 = .ok (.bipush 15, 2) := by decide +kernel
theorem d_L_live_325 : decode m_L_live.2.1 325 = .ok (.iand, 1) := by decide +kernel
theorem d_L_live_326 : decode m_L_live.2.1 326 = .ok (.ishr, 1) := by decide +kernel
theorem d_L_live_327 : decode m_L_live.2.1 327 = .ok (.iconst 1, 1) := by decide +kernel
theorem d_L_live_328 : decode m_L_live.2.1 328 = .ok (.iand, 1) := by decide +kernel
theorem d_L_live_329 : decode m_L_live.2.1 329 = .ok (.ifCond .ne 6, 3) := by decide +kernel
theorem d_L_live_332 : decode m_L_live.2.1 332 = .ok (.iconst 3, 1) := by decide +kernel
theorem d_L_live_333 : decode m_L_live.2.1 333 = .ok (.istore 9, 2) := by decide +kernel
theorem d_L_live_335 : decode m_L_live.2.1 335 = .ok (.iload 8, 2) := by decide +kernel
theorem d_L_live_337 : decode m_L_live.2.1 337 = .ok (.ifCond .ge 16, 3) := by decide +kernel
theorem d_L_live_340 : decode m_L_live.2.1 340 = .ok (.aload_n 0, 1) := by decide +kernel
theorem d_L_live_341 : decode m_L_live.2.1 341 = .ok (.bipush 12, 2) := by decide +kernel
theorem d_L_live_343 : decode m_L_live.2.1 343 = .ok (.iload 6, 2) := by decide +kernel
theorem d_L_live_345 : decode m_L_live.2.1 345 = .ok (.iadd, 1) := by decide +kernel
theorem d_L_live_346 : decode m_L_live.2.1 346 = .ok (.iaload, 1) := by decide +kernel
theorem d_L_live_347 : decode m_L_live.2.1 347 = .ok (.ifCond .ne 6, 3) := by decide +kernel
theorem d_L_live_350 : decode m_L_live.2.1 350 = .ok (.iconst 2, 1) := by decide +kernel
theorem d_L_live_351 : decode m_L_live.2.1 351 = .ok (.istore 9, 2) := by decide +kernel
theorem d_L_live_353 : decode m_L_live.2.1 353 = .ok (.aload_n 0, 1) := by decide +kernel
theorem d_L_live_354 : decode m_L_live.2.1 354 = .ok (.bipush 7, 2) := by decide +kernel
theorem d_L_live_356 : decode m_L_live.2.1 356 = .ok (.iaload, 1) := by decide +kernel
theorem d_L_live_357 : decode m_L_live.2.1 357 = .ok (.ifCond .ne 24, 3) := by decide +kernel
theorem d_L_live_360 : decode m_L_live.2.1 360 = .ok (.iload 4, 2) := by decide +kernel
theorem d_L_live_362 : decode m_L_live.2.1 362 = .ok (.ifCond .le 19, 3) := by decide +kernel
theorem d_L_live_365 : decode m_L_live.2.1 365 = .ok (.aload_n 1, 1) := by decide +kernel
theorem d_L_live_366 : decode m_L_live.2.1 366 = .ok (.iload 4, 2) := by decide +kernel
theorem d_L_live_368 : decode m_L_live.2.1 368 = .ok (.iconst 1, 1) := by decide +kernel
theorem d_L_live_369 : decode m_L_live.2.1 369 = .ok (.isub, 1) := by decide +kernel
theorem d_L_live_370 : decode m_L_live.2.1 370 = .ok (.iaload, 1) := by decide +kernel
theorem d_L_live_371 : decode m_L_live.2.1 371 = .ok (.iconst 4, 1) := by decide +kernel
theorem d_L_live_372 : decode m_L_live.2.1 372 = .ok (.ishr, 1) := by decide +kernel
theorem d_L_live_373 : decode m_L_live.2.1 373 = .ok (.iload 5, 2) := by decide +kernel
theorem d_L_live_375 : decode m_L_live.2.1 375 = .ok (.if_icmp .ne 6, 3) := by decide +kernel
theorem d_L_live_378 : decode m_L_live.2.1 378 = .ok (.iconst 1, 1) := by decide +kernel
theorem d_L_live_379 : decode m_L_live.2.1 379 = .ok (.istore 9, 2) := by decide +kernel
theorem d_L_live_381 : decode m_L_live.2.1 381 = .ok (.aload_n 3, 1) := by decide +kernel
theorem d_L_live_382 : decode m_L_live.2.1 382 = .ok (.bipush 48, 2) := by decide +kernel
theorem d_L_live_384 : decode m_L_live.2.1 384 = .ok (.iload 9, 2) := by decide +kernel
theorem d_L_live_386 : decode m_L_live.2.1 386 = .ok (.iastore, 1) := by decide +kernel
theorem d_L_live_387 : decode m_L_live.2.1 387 = .ok (.iload 9, 2) := by decide +kernel
theorem d_L_live_389 : decode m_L_live.2.1 389 = .ok (.ifCond .le 6, 3) := by decide +kernel
theorem d_L_live_392 : decode m_L_live.2.1 392 = .ok (.iload 4, 2) := by decide +kernel
theorem d_L_live_394 : decode m_L_live.2.1 394 = .ok (.ireturn, 1) := by decide +kernel
theorem d_L_live_395 : decode m_L_live.2.1 395 = .ok (.aload_n 3, 1) := by decide +kernel
theorem d_L_live_396 : decode m_L_live.2.1 396 = .ok (.iload 4, 2) := by decide +kernel
theorem d_L_live_398 : decode m_L_live.2.1 398 = .ok (.iload 8, 2) := by decide +kernel
theorem d_L_live_400 : decode m_L_live.2.1 400 = .ok (.iastore, 1) := by decide +kernel
theorem d_L_live_401 : decode m_L_live.2.1 401 = .ok (.aload_n 3, 1) := by decide +kernel
theorem d_L_live_402 : decode m_L_live.2.1 402 = .ok (.bipush 12, 2) := by decide +kernel
theorem d_L_live_404 : decode m_L_live.2.1 404 = .ok (.iload 4, 2) := by decide +kernel
theorem d_L_live_406 : decode m_L_live.2.1 406 = .ok (.iadd, 1) := by decide +kernel
theorem d_L_live_407 : decode m_L_live.2.1 407 = .ok (.iload 8, 2) := by decide +kernel
theorem d_L_live_409 : decode m_L_live.2.1 409 = .ok (.ifCond .ge 10, 3) := by decide +kernel
theorem d_L_live_412 : decode m_L_live.2.1 412 = .ok (.aload_n 3, 1) := by decide +kernel
theorem d_L_live_413 : decode m_L_live.2.1 413 = .ok (.bipush 49, 2) := by decide +kernel
theorem d_L_live_415 : decode m_L_live.2.1 415 = .ok (.iaload, 1) := by decide +kernel
theorem d_L_live_416 : decode m_L_live.2.1 416 = .ok (.goto 10, 3) := by decide +kernel
theorem d_L_live_419 : decode m_L_live.2.1 419 = .ok (.aload_n 3, 1) := by decide +kernel
theorem d_L_live_420 : decode m_L_live.2.1 420 = .ok (.bipush 12, 2) := by decide +kernel
theorem d_L_live_422 : decode m_L_live.2.1 422 = .ok (.iload 8, 2) := by decide +kernel
theorem d_L_live_424 : decode m_L_live.2.1 424 = .ok (.iadd, 1) := by decide +kernel
theorem d_L_live_425 : decode m_L_live.2.1 425 = .ok (.iaload, 1) := by decide +kernel
theorem d_L_live_426 : decode m_L_live.2.1 426 = .ok (.iastore, 1) := by decide +kernel
theorem d_L_live_427 : decode m_L_live.2.1 427 = .ok (.aload_n 3, 1) := by decide +kernel
theorem d_L_live_428 : decode m_L_live.2.1 428 = .ok (.bipush 24, 2) := by decide +kernel
theorem d_L_live_430 : decode m_L_live.2.1 430 = .ok (.iload 4, 2) := by decide +kernel
theorem d_L_live_432 : decode m_L_live.2.1 432 = .ok (.iadd, 1) := by decide +kernel
theorem d_L_live_433 : decode m_L_live.2.1 433 = .ok (.iload 8, 2) := by decide +kernel
theorem d_L_live_435 : decode m_L_live.2.1 435 = .ok (.ifCond .ge 7, 3) := by decide +kernel
theorem d_L_live_438 : decode m_L_live.2.1 438 = .ok (.iconst 0, 1) := by decide +kernel
theorem d_L_live_439 : decode m_L_live.2.1 439 = .ok (.goto 12, 3) := by decide +kernel
theorem d_L_live_442 : decode m_L_live.2.1 442 = .ok (.aload_n 3, 1) := by decide +kernel
theorem d_L_live_443 : decode m_L_live.2.1 443 = .ok (.bipush 24, 2) := by decide +kernel
theorem d_L_live_445 : decode m_L_live.2.1 445 = .ok (.iload 8, 2) := by decide +kernel
theorem d_L_live_447 : decode m_L_live.2.1 447 = .ok (.iadd, 1) := by decide +kernel
theorem d_L_live_448 : decode m_L_live.2.1 448 = .ok (.iaload, 1) := by decide +kernel
theorem d_L_live_449 : decode m_L_live.2.1 449 = .ok (.iconst 1, 1) := by decide +kernel
theorem d_L_live_450 : decode m_L_live.2.1 450 = .ok (.iadd, 1) := by decide +kernel
theorem d_L_live_451 : decode m_L_live.2.1 451 = .ok (.iastore, 1) := by decide +kernel
theorem d_L_live_452 : decode m_L_live.2.1 452 = .ok (.iload 8, 2) := by decide +kernel
theorem d_L_live_454 : decode m_L_live.2.1 454 = .ok (.ifCond .ge 11, 3) := by decide +kernel
theorem d_L_live_457 : decode m_L_live.2.1 457 = .ok (.aload_n 3, 1) := by decide +kernel
theorem d_L_live_458 : decode m_L_live.2.1 458 = .ok (.bipush 49, 2) := by decide +kernel
theorem d_L_live_460 : decode m_L_live.2.1 460 = .ok (.dup2, 1) := by decide +kernel
theorem d_L_live_461 : decode m_L_live.2.1 461 = .ok (.iaload, 1) := by decide +kernel
theorem d_L_live_462 : decode m_L_live.2.1 462 = .ok (.iconst 1, 1) := by decide +kernel
theorem d_L_live_463 : decode m_L_live.2.1 463 = .ok (.iadd, 1) := by decide +kernel
theorem d_L_live_464 : decode m_L_live.2.1 464 = .ok (.iastore, 1) := by decide +kernel
theorem d_L_live_465 : decode m_L_live.2.1 465 = .ok (.aload_n 3, 1) := by decide +kernel
theorem d_L_live_466 : decode m_L_live.2.1 466 = .ok (.bipush 36, 2) := by decide +kernel
theorem d_L_live_468 : decode m_L_live.2.1 468 = .ok (.iload 4, 2) := by decide +kernel
theorem d_L_live_470 : decode m_L_live.2.1 470 = .ok (.iadd, 1) := by decide +kernel
theorem d_L_live_471 : decode m_L_live.2.1 471 = .ok (.iload 6, 2) := by decide +kernel
theorem d_L_live_473 : decode m_L_live.2.1 473 = .ok (.ifCond .ne 7, 3) := by decide +kernel
theorem d_L_live_476 : decode m_L_live.2.1 476 = .ok (.iconst 1, 1) := by decide +kernel
theorem d_L_live_477 : decode m_L_live.2.1 477 = .ok (.goto 14, 3) := by decide +kernel
theorem d_L_live_480 : decode m_L_live.2.1 480 = .ok (.iload 6, 2) := by decide +kernel
theorem d_L_live_482 : decode m_L_live.2.1 482 = .ok (.iconst 1, 1) := by decide +kernel
theorem d_L_live_483 : decode m_L_live.2.1 483 = .ok (.if_icmp .ne 7, 3) := by decide +kernel
theorem d_L_live_486 : decode m_L_live.2.1 486 = .ok (.iconst 4, 1) := by decide +kernel
theorem d_L_live_487 : decode m_L_live.2.1 487 = .ok (.goto 4, 3) := by decide +kernel
theorem d_L_live_490 : decode m_L_live.2.1 490 = .ok (.iconst 0, 1) := by decide +kernel
theorem d_L_live_491 : decode m_L_live.2.1 491 = .ok (.iastore, 1) := by decide +kernel
theorem d_L_live_492 : decode m_L_live.2.1 492 = .ok (.iload 6, 2) := by decide +kernel
theorem d_L_live_494 : decode m_L_live.2.1 494 = .ok (.iconst 1, 1) := by decide +kernel
theorem d_L_live_495 : decode m_L_live.2.1 495 = .ok (.if_icmp .eq 9, 3) := by decide +kernel
theorem d_L_live_498 : decode m_L_live.2.1 498 = .ok (.iload 6, 2) := by decide +kernel
theorem d_L_live_500 : decode m_L_live.2.1 500 = .ok (.iconst 2, 1) := by decide +kernel
theorem d_L_live_501 : decode m_L_live.2.1 501 = .ok (.if_icmp .ne 21, 3) := by decide +kernel
theorem d_L_live_504 : decode m_L_live.2.1 504 = .ok (.aload_n 3, 1) := by decide +kernel
theorem d_L_live_505 : decode m_L_live.2.1 505 = .ok (.bipush 36, 2) := by decide +kernel
theorem d_L_live_507 : decode m_L_live.2.1 507 = .ok (.iload 8, 2) := by decide +kernel
theorem d_L_live_509 : decode m_L_live.2.1 509 = .ok (.iadd, 1) := by decide +kernel
theorem d_L_live_510 : decode m_L_live.2.1 510 = .ok (.iload 6, 2) := by decide +kernel
theorem d_L_live_512 : decode m_L_live.2.1 512 = .ok (.iconst 1, 1) := by decide +kernel
theorem d_L_live_513 : decode m_L_live.2.1 513 = .ok (.if_icmp .ne 7, 3) := by decide +kernel
theorem d_L_live_516 : decode m_L_live.2.1 516 = .ok (.iconst 2, 1) := by decide +kernel
theorem d_L_live_517 : decode m_L_live.2.1 517 = .ok (.goto 4, 3) := by decide +kernel
theorem d_L_live_520 : decode m_L_live.2.1 520 = .ok (.iconst 3, 1) := by decide +kernel
theorem d_L_live_521 : decode m_L_live.2.1 521 = .ok (.iastore, 1) := by decide +kernel
theorem d_L_live_522 : decode m_L_live.2.1 522 = .ok (.iload 6, 2) := by decide +kernel
theorem d_L_live_524 : decode m_L_live.2.1 524 = .ok (.iconst 2, 1) := by decide +kernel
theorem d_L_live_525 : decode m_L_live.2.1 525 = .ok (.if_icmp .le 21, 3) := by decide +kernel
theorem d_L_live_528 : decode m_L_live.2.1 528 = .ok (.iload 6, 2) := by decide +kernel
theorem d_L_live_530 : decode m_L_live.2.1 530 = .ok (.bipush 6, 2) := by decide +kernel
theorem d_L_live_532 : decode m_L_live.2.1 532 = .ok (.if_icmp .ge 14, 3) := by decide +kernel
theorem d_L_live_535 : decode m_L_live.2.1 535 = .ok (.aload_n 3, 1) := by decide +kernel
theorem d_L_live_536 : decode m_L_live.2.1 536 = .ok (.bipush 36, 2) := by decide +kernel
theorem d_L_live_538 : decode m_L_live.2.1 538 = .ok (.iload 8, 2) := by decide +kernel
theorem d_L_live_540 : decode m_L_live.2.1 540 = .ok (.iadd, 1) := by decide +kernel
theorem d_L_live_541 : decode m_L_live.2.1 541 = .ok (.iload 6, 2) := by decide +kernel
theorem d_L_live_543 : decode m_L_live.2.1 543 = .ok (.iconst 2, 1) := by decide +kernel
theorem d_L_live_544 : decode m_L_live.2.1 544 = .ok (.iadd, 1) := by decide +kernel
theorem d_L_live_545 : decode m_L_live.2.1 545 = .ok (.iastore, 1) := by decide +kernel
theorem d_L_live_546 : decode m_L_live.2.1 546 = .ok (.iinc 4 1, 3) := by decide +kernel
theorem d_L_live_549 : decode m_L_live.2.1 549 = .ok (.goto (-541), 3) := by decide +kernel
theorem d_L_live_552 : decode m_L_live.2.1 552 = .ok (.iconst (-1), 1) := by decide +kernel
theorem d_L_live_553 : decode m_L_live.2.1 553 = .ok (.ireturn, 1) := by decide +kernel
set_option maxRecDepth 20000 in
theorem e_L_live {E : jm_E} {d : Nat} {μ : jm_M} {Q : Option jm_V → jm_M → Prop} {v2 : Int} (h : (∀ v ∈ ([jm_R 134, jm_R 135, jm_I v2, jm_R 136] : List jm_V), jm_ok v) →
  ∀ m1 : jm_M, m1 = (jm_up μ 136 49 0) →
  jg E m_L_live d 8 [some (jm_R 134), some (jm_R 135), some (jm_I v2), some (jm_R 136), some (jm_I 0), none, none, none, none, none, none, none] [] m1 Q) : jc E m_L_live (d + 1) [jm_R 134, jm_R 135, jm_I v2, jm_R 136] μ Q := by
  refine jm_Cl.of2 (by decide +kernel) (L0 := [some (jm_R 134), some (jm_R 135), some (jm_I v2), some (jm_R 136), none, none, none, none, none, none, none, none]) rfl (Nat.le_of_ble_eq_true rfl) (fun hok => ?_)
  have h := h hok
  refine jm_aloadn d_L_live_0 rfl ?_
  refine jm_bipush (v := 49) d_L_live_1 rfl (jm_okI (by decide) (by decide)) ?_
  refine jm_iconst (v := 0) d_L_live_3 rfl (jm_okI (by decide) (by decide)) ?_
  refine jm_iastore d_L_live_4 (ixl_136 (by decide) (by decide)) ?_
  have h := h _ rfl
  refine jm_iconst (v := 0) d_L_live_5 rfl (jm_okI (by decide) (by decide)) ?_
  refine jm_istore (L' := [some (jm_R _), some (jm_R _), some (jm_I _), some (jm_R _), some (jm_I _), none, none, none, none, none, none, none]) d_L_live_6 (Nat.le_of_ble_eq_true rfl) rfl ?_
  exact h
set_option maxRecDepth 20000 in
theorem r_L_live_8 {E : jm_E} {d : Nat} {μ : jm_M} {Q : Option jm_V → jm_M → Prop} {v2 v4 : Int} (h :
  ((v2 ≤ v4 →
    Q (some (jm_I ((-1)))) μ) ∧
   (¬ (v2 ≤ v4) →
    (0 ≤ v4 ∧ v4 < 16) ∧
    ∀ x3 : Int, x3 = jm_shr (μ 135 v4) 4 →
    ∀ x4 : Int, x4 = jm_and (μ 135 v4) 15 →
    ((μ 134 6 ≠ 1 →
      ((μ 134 1) ≠ 0) ∧
      (0 ≤ jm_wr (2 + (jm_rem v4 (μ 134 1))) ∧ jm_wr (2 + (jm_rem v4 (μ 134 1))) < 32) ∧
      ∀ x8 : Int, x8 = μ 134 (jm_wr (2 + (jm_rem v4 (μ 134 1)))) →
      (0 ≤ jm_wr (12 + x4) ∧ jm_wr (12 + x4) < 32) ∧
      (((μ 134 (jm_wr (12 + x4))) = 2 →
        jg E m_L_live d 79 [some (jm_R 134), some (jm_R 135), some (jm_I v2), some (jm_R 136), some (jm_I v4), some (jm_I x3), some (jm_I x4), none, none, none, none, none] [] μ Q) ∧
       (¬ ((μ 134 (jm_wr (12 + x4))) = 2) →
        ((x8 ≤ v4 →
          ∀ x12 : Int, x12 = jm_wr (v4 - x8) →
          ((x12 < 0 →
            jg E m_L_live d 114 [some (jm_R 134), some (jm_R 135), some (jm_I v2), some (jm_R 136), some (jm_I v4), some (jm_I x3), some (jm_I x4), none, some (jm_I x12), some (jm_I 0), none, none] [] μ Q) ∧
           (¬ (x12 < 0) →
            (0 ≤ x12 ∧ x12 < 16) ∧
            (((jm_and (μ 135 x12) 15) ≠ 1 →
              jg E m_L_live d 114 [some (jm_R 134), some (jm_R 135), some (jm_I v2), some (jm_R 136), some (jm_I v4), some (jm_I x3), some (jm_I x4), none, some (jm_I x12), some (jm_I 0), none, none] [] μ Q) ∧
             (¬ ((jm_and (μ 135 x12) 15) ≠ 1) →
              (0 ≤ jm_wr (36 + x12) ∧ jm_wr (36 + x12) < 56) ∧
              (((μ 136 (jm_wr (36 + x12))) ≠ 4 →
                jg E m_L_live d 148 [some (jm_R 134), some (jm_R 135), some (jm_I v2), some (jm_R 136), some (jm_I v4), some (jm_I x3), some (jm_I x4), none, some (jm_I x12), some (jm_I 0), some (jm_I ((-1))), none] [] μ Q) ∧
               (¬ ((μ 136 (jm_wr (36 + x12))) ≠ 4) →
                (((jm_wr (v4 - x12)) ≤ μ 134 11 →
                  jg E m_L_live d 148 [some (jm_R 134), some (jm_R 135), some (jm_I v2), some (jm_R 136), some (jm_I v4), some (jm_I x3), some (jm_I x4), none, some (jm_I x12), some (jm_I 0), some (jm_I x12), none] [] μ Q) ∧
                 (¬ ((jm_wr (v4 - x12)) ≤ μ 134 11) →
                  jg E m_L_live d 148 [some (jm_R 134), some (jm_R 135), some (jm_I v2), some (jm_R 136), some (jm_I v4), some (jm_I x3), some (jm_I x4), none, some (jm_I x12), some (jm_I 0), some (jm_I ((-1))), none] [] μ Q))))))))) ∧
         (¬ (x8 ≤ v4) →
          jg E m_L_live d 79 [some (jm_R 134), some (jm_R 135), some (jm_I v2), some (jm_R 136), some (jm_I v4), some (jm_I x3), some (jm_I x4), none, none, none, none, none] [] μ Q))))) ∧
     (¬ (μ 134 6 ≠ 1) →
      (0 ≤ jm_wr (8 + x3) ∧ jm_wr (8 + x3) < 32) ∧
      ∀ x21 : Int, x21 = μ 134 (jm_wr (8 + x3)) →
      (0 ≤ jm_wr (12 + x4) ∧ jm_wr (12 + x4) < 32) ∧
      (((μ 134 (jm_wr (12 + x4))) = 2 →
        jg E m_L_live d 79 [some (jm_R 134), some (jm_R 135), some (jm_I v2), some (jm_R 136), some (jm_I v4), some (jm_I x3), some (jm_I x4), none, none, none, none, none] [] μ Q) ∧
       (¬ ((μ 134 (jm_wr (12 + x4))) = 2) →
        ((x21 ≤ v4 →
          ∀ x25 : Int, x25 = jm_wr (v4 - x21) →
          ((x25 < 0 →
            jg E m_L_live d 114 [some (jm_R 134), some (jm_R 135), some (jm_I v2), some (jm_R 136), some (jm_I v4), some (jm_I x3), some (jm_I x4), none, some (jm_I x25), some (jm_I 0), none, none] [] μ Q) ∧
           (¬ (x25 < 0) →
            (0 ≤ x25 ∧ x25 < 16) ∧
            (((jm_and (μ 135 x25) 15) ≠ 1 →
              jg E m_L_live d 114 [some (jm_R 134), some (jm_R 135), some (jm_I v2), some (jm_R 136), some (jm_I v4), some (jm_I x3), some (jm_I x4), none, some (jm_I x25), some (jm_I 0), none, none] [] μ Q) ∧
             (¬ ((jm_and (μ 135 x25) 15) ≠ 1) →
              (0 ≤ jm_wr (36 + x25) ∧ jm_wr (36 + x25) < 56) ∧
              (((μ 136 (jm_wr (36 + x25))) ≠ 4 →
                jg E m_L_live d 148 [some (jm_R 134), some (jm_R 135), some (jm_I v2), some (jm_R 136), some (jm_I v4), some (jm_I x3), some (jm_I x4), none, some (jm_I x25), some (jm_I 0), some (jm_I ((-1))), none] [] μ Q) ∧
               (¬ ((μ 136 (jm_wr (36 + x25))) ≠ 4) →
                (((jm_wr (v4 - x25)) ≤ μ 134 11 →
                  jg E m_L_live d 148 [some (jm_R 134), some (jm_R 135), some (jm_I v2), some (jm_R 136), some (jm_I v4), some (jm_I x3), some (jm_I x4), none, some (jm_I x25), some (jm_I 0), some (jm_I x25), none] [] μ Q) ∧
                 (¬ ((jm_wr (v4 - x25)) ≤ μ 134 11) →
                  jg E m_L_live d 148 [some (jm_R 134), some (jm_R 135), some (jm_I v2), some (jm_R 136), some (jm_I v4), some (jm_I x3), some (jm_I x4), none, some (jm_I x25), some (jm_I 0), some (jm_I ((-1))), none] [] μ Q))))))))) ∧
         (¬ (x21 ≤ v4) →
          jg E m_L_live d 79 [some (jm_R 134), some (jm_R 135), some (jm_I v2), some (jm_R 136), some (jm_I v4), some (jm_I x3), some (jm_I x4), none, none, none, none, none] [] μ Q))))))))) : jg E m_L_live d 8 [some (jm_R 134), some (jm_R 135), some (jm_I v2), some (jm_R 136), some (jm_I v4), none, none, none, none, none, none, none] [] μ Q := by
  refine jm_iload d_L_live_8 rfl ?_
  refine jm_iloadn d_L_live_10 rfl ?_
  refine jm_icmp_ge (tgt := 552) d_L_live_11 (by decide) (fun c1 => ?_) (fun c1 => ?_)
  · have h := h.1 c1
    refine jm_iconst (v := (-1)) d_L_live_552 rfl (jm_okI (by decide) (by decide)) ?_
    exact jm_ret (o := some (jm_I _)) d_L_live_553 rfl ⟨Nat.le_refl _, Nat.le_refl _⟩ jm_r_I h rfl
  · have h := h.2 c1
    refine jm_aloadn d_L_live_14 rfl ?_
    refine jm_iload d_L_live_15 rfl ?_
    obtain ⟨f2, h⟩ := h
    refine jm_iaload d_L_live_17 (ixl_135 f2.1 f2.2) ?_
    refine jm_iconst (v := 4) d_L_live_18 rfl (jm_okI (by decide) (by decide)) ?_
    refine jm_ishr d_L_live_19 ?_
    have h := h _ rfl
    refine jm_istore (L' := [some (jm_R _), some (jm_R _), some (jm_I _), some (jm_R _), some (jm_I _), some (jm_I _), none, none, none, none, none, none]) d_L_live_20 (Nat.le_of_ble_eq_true rfl) rfl ?_
    refine jm_aloadn d_L_live_22 rfl ?_
    refine jm_iload d_L_live_23 rfl ?_
    refine jm_iaload d_L_live_25 (ixl_135 f2.1 f2.2) ?_
    refine jm_bipush (v := 15) d_L_live_26 rfl (jm_okI (by decide) (by decide)) ?_
    refine jm_iand d_L_live_28 ?_
    have h := h _ rfl
    refine jm_istore (L' := [some (jm_R _), some (jm_R _), some (jm_I _), some (jm_R _), some (jm_I _), some (jm_I _), some (jm_I _), none, none, none, none, none]) d_L_live_29 (Nat.le_of_ble_eq_true rfl) rfl ?_
    refine jm_aloadn d_L_live_31 rfl ?_
    refine jm_bipush (v := 6) d_L_live_32 rfl (jm_okI (by decide) (by decide)) ?_
    refine jm_iaload d_L_live_34 (ixl_134 (by decide) (by decide)) ?_
    refine jm_iconst (v := 1) d_L_live_35 rfl (jm_okI (by decide) (by decide)) ?_
    refine jm_icmp_ne (tgt := 49) d_L_live_36 (by decide) (fun c5 => ?_) (fun c5 => ?_)
    · have h := h.1 c5
      refine jm_aloadn d_L_live_49 rfl ?_
      refine jm_iconst (v := 2) d_L_live_50 rfl (jm_okI (by decide) (by decide)) ?_
      refine jm_iload d_L_live_51 rfl ?_
      refine jm_aloadn d_L_live_53 rfl ?_
      refine jm_iconst (v := 1) d_L_live_54 rfl (jm_okI (by decide) (by decide)) ?_
      refine jm_iaload d_L_live_55 (ixl_134 (by decide) (by decide)) ?_
      obtain ⟨f6, h⟩ := h
      refine jm_irem d_L_live_56 f6 ?_
      refine jm_iadd d_L_live_57 ?_
      obtain ⟨f7, h⟩ := h
      refine jm_iaload d_L_live_58 (ixl_134 f7.1 f7.2) ?_
      have h := h _ rfl
      refine jm_istore (L' := [some (jm_R _), some (jm_R _), some (jm_I _), some (jm_R _), some (jm_I _), some (jm_I _), some (jm_I _), some (jm_I _), none, none, none, none]) d_L_live_59 (Nat.le_of_ble_eq_true rfl) rfl ?_
      refine jm_aloadn d_L_live_61 rfl ?_
      refine jm_bipush (v := 12) d_L_live_62 rfl (jm_okI (by decide) (by decide)) ?_
      refine jm_iload d_L_live_64 rfl ?_
      refine jm_iadd d_L_live_66 ?_
      obtain ⟨f9, h⟩ := h
      refine jm_iaload d_L_live_67 (ixl_134 f9.1 f9.2) ?_
      refine jm_iconst (v := 2) d_L_live_68 rfl (jm_okI (by decide) (by decide)) ?_
      refine jm_icmp_eq (tgt := 79) d_L_live_69 (by decide) (fun c10 => ?_) (fun c10 => ?_)
      · have h := h.1 c10
        exact jm_weak2 h (And.intro rfl (And.intro rfl (And.intro rfl (And.intro rfl (And.intro rfl (And.intro rfl (And.intro rfl trivial)))))))
      · have h := h.2 c10
        refine jm_iload d_L_live_72 rfl ?_
        refine jm_iload d_L_live_74 rfl ?_
        refine jm_icmp_ge (tgt := 83) d_L_live_76 (by decide) (fun c11 => ?_) (fun c11 => ?_)
        · have h := h.1 c11
          refine jm_iload d_L_live_83 rfl ?_
          refine jm_iload d_L_live_85 rfl ?_
          refine jm_isub d_L_live_87 ?_
          have h := h _ rfl
          refine jm_istore (L' := [some (jm_R _), some (jm_R _), some (jm_I _), some (jm_R _), some (jm_I _), some (jm_I _), some (jm_I _), some (jm_I _), some (jm_I _), none, none, none]) d_L_live_88 (Nat.le_of_ble_eq_true rfl) rfl ?_
          refine jm_iconst (v := 0) d_L_live_90 rfl (jm_okI (by decide) (by decide)) ?_
          refine jm_istore (L' := [some (jm_R _), some (jm_R _), some (jm_I _), some (jm_R _), some (jm_I _), some (jm_I _), some (jm_I _), some (jm_I _), some (jm_I _), some (jm_I _), none, none]) d_L_live_91 (Nat.le_of_ble_eq_true rfl) rfl ?_
          refine jm_iload d_L_live_93 rfl ?_
          refine jm_if_lt (tgt := 114) d_L_live_95 (by decide) (fun c13 => ?_) (fun c13 => ?_)
          · have h := h.1 c13
            exact jm_weak2 h (And.intro rfl (And.intro rfl (And.intro rfl (And.intro rfl (And.intro rfl (And.intro rfl (And.intro rfl (And.intro rfl (And.intro rfl trivial)))))))))
          · have h := h.2 c13
            refine jm_aloadn d_L_live_98 rfl ?_
            refine jm_iload d_L_live_99 rfl ?_
            obtain ⟨f14, h⟩ := h
            refine jm_iaload d_L_live_101 (ixl_135 f14.1 f14.2) ?_
            refine jm_bipush (v := 15) d_L_live_102 rfl (jm_okI (by decide) (by decide)) ?_
            refine jm_iand d_L_live_104 ?_
            refine jm_iconst (v := 1) d_L_live_105 rfl (jm_okI (by decide) (by decide)) ?_
            refine jm_icmp_ne (tgt := 114) d_L_live_106 (by decide) (fun c15 => ?_) (fun c15 => ?_)
            · have h := h.1 c15
              exact jm_weak2 h (And.intro rfl (And.intro rfl (And.intro rfl (And.intro rfl (And.intro rfl (And.intro rfl (And.intro rfl (And.intro rfl (And.intro rfl trivial)))))))))
            · have h := h.2 c15
              refine jm_iload d_L_live_109 rfl ?_
              refine jm_goto (tgt := 115) d_L_live_111 (by decide) ?_
              refine jm_istore (L' := [some (jm_R _), some (jm_R _), some (jm_I _), some (jm_R _), some (jm_I _), some (jm_I _), some (jm_I _), some (jm_I _), some (jm_I _), some (jm_I _), some (jm_I _), none]) d_L_live_115 (Nat.le_of_ble_eq_true rfl) rfl ?_
              refine jm_iload d_L_live_117 rfl ?_
              refine jm_if_lt (tgt := 148) d_L_live_119 (by decide) (fun c16 => absurd c16 c13) (fun _ => ?_)
              refine jm_aloadn d_L_live_122 rfl ?_
              refine jm_bipush (v := 36) d_L_live_123 rfl (jm_okI (by decide) (by decide)) ?_
              refine jm_iload d_L_live_125 rfl ?_
              refine jm_iadd d_L_live_127 ?_
              obtain ⟨f17, h⟩ := h
              refine jm_iaload d_L_live_128 (ixl_136 f17.1 f17.2) ?_
              refine jm_iconst (v := 4) d_L_live_129 rfl (jm_okI (by decide) (by decide)) ?_
              refine jm_icmp_ne (tgt := 145) d_L_live_130 (by decide) (fun c18 => ?_) (fun c18 => ?_)
              · have h := h.1 c18
                refine jm_iconst (v := (-1)) d_L_live_145 rfl (jm_okI (by decide) (by decide)) ?_
                refine jm_istore (L' := [some (jm_R _), some (jm_R _), some (jm_I _), some (jm_R _), some (jm_I _), some (jm_I _), some (jm_I _), some (jm_I _), some (jm_I _), some (jm_I _), some (jm_I _), none]) d_L_live_146 (Nat.le_of_ble_eq_true rfl) rfl ?_
                exact jm_weak2 h (And.intro rfl (And.intro rfl (And.intro rfl (And.intro rfl (And.intro rfl (And.intro rfl (And.intro rfl (And.intro rfl (And.intro rfl (And.intro rfl trivial))))))))))
              · have h := h.2 c18
                refine jm_iload d_L_live_133 rfl ?_
                refine jm_iload d_L_live_135 rfl ?_
                refine jm_isub d_L_live_137 ?_
                refine jm_aloadn d_L_live_138 rfl ?_
                refine jm_bipush (v := 11) d_L_live_139 rfl (jm_okI (by decide) (by decide)) ?_
                refine jm_iaload d_L_live_141 (ixl_134 (by decide) (by decide)) ?_
                refine jm_icmp_le (tgt := 148) d_L_live_142 (by decide) (fun c19 => ?_) (fun c19 => ?_)
                · have h := h.1 c19
                  exact jm_weak2 h (And.intro rfl (And.intro rfl (And.intro rfl (And.intro rfl (And.intro rfl (And.intro rfl (And.intro rfl (And.intro rfl (And.intro rfl (And.intro rfl trivial))))))))))
                · have h := h.2 c19
                  refine jm_iconst (v := (-1)) d_L_live_145 rfl (jm_okI (by decide) (by decide)) ?_
                  refine jm_istore (L' := [some (jm_R _), some (jm_R _), some (jm_I _), some (jm_R _), some (jm_I _), some (jm_I _), some (jm_I _), some (jm_I _), some (jm_I _), some (jm_I _), some (jm_I _), none]) d_L_live_146 (Nat.le_of_ble_eq_true rfl) rfl ?_
                  exact jm_weak2 h (And.intro rfl (And.intro rfl (And.intro rfl (And.intro rfl (And.intro rfl (And.intro rfl (And.intro rfl (And.intro rfl (And.intro rfl (And.intro rfl trivial))))))))))
        · have h := h.2 c11
          exact jm_weak2 h (And.intro rfl (And.intro rfl (And.intro rfl (And.intro rfl (And.intro rfl (And.intro rfl (And.intro rfl trivial)))))))
    · have h := h.2 c5
      refine jm_aloadn d_L_live_39 rfl ?_
      refine jm_bipush (v := 8) d_L_live_40 rfl (jm_okI (by decide) (by decide)) ?_
      refine jm_iload d_L_live_42 rfl ?_
      refine jm_iadd d_L_live_44 ?_
      obtain ⟨f20, h⟩ := h
      refine jm_iaload d_L_live_45 (ixl_134 f20.1 f20.2) ?_
      refine jm_goto (tgt := 59) d_L_live_46 (by decide) ?_
      have h := h _ rfl
      refine jm_istore (L' := [some (jm_R _), some (jm_R _), some (jm_I _), some (jm_R _), some (jm_I _), some (jm_I _), some (jm_I _), some (jm_I _), none, none, none, none]) d_L_live_59 (Nat.le_of_ble_eq_true rfl) rfl ?_
      refine jm_aloadn d_L_live_61 rfl ?_
      refine jm_bipush (v := 12) d_L_live_62 rfl (jm_okI (by decide) (by decide)) ?_
      refine jm_iload d_L_live_64 rfl ?_
      refine jm_iadd d_L_live_66 ?_
      obtain ⟨f22, h⟩ := h
      refine jm_iaload d_L_live_67 (ixl_134 f22.1 f22.2) ?_
      refine jm_iconst (v := 2) d_L_live_68 rfl (jm_okI (by decide) (by decide)) ?_
      refine jm_icmp_eq (tgt := 79) d_L_live_69 (by decide) (fun c23 => ?_) (fun c23 => ?_)
      · have h := h.1 c23
        exact jm_weak2 h (And.intro rfl (And.intro rfl (And.intro rfl (And.intro rfl (And.intro rfl (And.intro rfl (And.intro rfl trivial)))))))
      · have h := h.2 c23
        refine jm_iload d_L_live_72 rfl ?_
        refine jm_iload d_L_live_74 rfl ?_
        refine jm_icmp_ge (tgt := 83) d_L_live_76 (by decide) (fun c24 => ?_) (fun c24 => ?_)
        · have h := h.1 c24
          refine jm_iload d_L_live_83 rfl ?_
          refine jm_iload d_L_live_85 rfl ?_
          refine jm_isub d_L_live_87 ?_
          have h := h _ rfl
          refine jm_istore (L' := [some (jm_R _), some (jm_R _), some (jm_I _), some (jm_R _), some (jm_I _), some (jm_I _), some (jm_I _), some (jm_I _), some (jm_I _), none, none, none]) d_L_live_88 (Nat.le_of_ble_eq_true rfl) rfl ?_
          refine jm_iconst (v := 0) d_L_live_90 rfl (jm_okI (by decide) (by decide)) ?_
          refine jm_istore (L' := [some (jm_R _), some (jm_R _), some (jm_I _), some (jm_R _), some (jm_I _), some (jm_I _), some (jm_I _), some (jm_I _), some (jm_I _), some (jm_I _), none, none]) d_L_live_91 (Nat.le_of_ble_eq_true rfl) rfl ?_
          refine jm_iload d_L_live_93 rfl ?_
          refine jm_if_lt (tgt := 114) d_L_live_95 (by decide) (fun c26 => ?_) (fun c26 => ?_)
          · have h := h.1 c26
            exact jm_weak2 h (And.intro rfl (And.intro rfl (And.intro rfl (And.intro rfl (And.intro rfl (And.intro rfl (And.intro rfl (And.intro rfl (And.intro rfl trivial)))))))))
          · have h := h.2 c26
            refine jm_aloadn d_L_live_98 rfl ?_
            refine jm_iload d_L_live_99 rfl ?_
            obtain ⟨f27, h⟩ := h
            refine jm_iaload d_L_live_101 (ixl_135 f27.1 f27.2) ?_
            refine jm_bipush (v := 15) d_L_live_102 rfl (jm_okI (by decide) (by decide)) ?_
            refine jm_iand d_L_live_104 ?_
            refine jm_iconst (v := 1) d_L_live_105 rfl (jm_okI (by decide) (by decide)) ?_
            refine jm_icmp_ne (tgt := 114) d_L_live_106 (by decide) (fun c28 => ?_) (fun c28 => ?_)
            · have h := h.1 c28
              exact jm_weak2 h (And.intro rfl (And.intro rfl (And.intro rfl (And.intro rfl (And.intro rfl (And.intro rfl (And.intro rfl (And.intro rfl (And.intro rfl trivial)))))))))
            · have h := h.2 c28
              refine jm_iload d_L_live_109 rfl ?_
              refine jm_goto (tgt := 115) d_L_live_111 (by decide) ?_
              refine jm_istore (L' := [some (jm_R _), some (jm_R _), some (jm_I _), some (jm_R _), some (jm_I _), some (jm_I _), some (jm_I _), some (jm_I _), some (jm_I _), some (jm_I _), some (jm_I _), none]) d_L_live_115 (Nat.le_of_ble_eq_true rfl) rfl ?_
              refine jm_iload d_L_live_117 rfl ?_
              refine jm_if_lt (tgt := 148) d_L_live_119 (by decide) (fun c29 => absurd c29 c26) (fun _ => ?_)
              refine jm_aloadn d_L_live_122 rfl ?_
              refine jm_bipush (v := 36) d_L_live_123 rfl (jm_okI (by decide) (by decide)) ?_
              refine jm_iload d_L_live_125 rfl ?_
              refine jm_iadd d_L_live_127 ?_
              obtain ⟨f30, h⟩ := h
              refine jm_iaload d_L_live_128 (ixl_136 f30.1 f30.2) ?_
              refine jm_iconst (v := 4) d_L_live_129 rfl (jm_okI (by decide) (by decide)) ?_
              refine jm_icmp_ne (tgt := 145) d_L_live_130 (by decide) (fun c31 => ?_) (fun c31 => ?_)
              · have h := h.1 c31
                refine jm_iconst (v := (-1)) d_L_live_145 rfl (jm_okI (by decide) (by decide)) ?_
                refine jm_istore (L' := [some (jm_R _), some (jm_R _), some (jm_I _), some (jm_R _), some (jm_I _), some (jm_I _), some (jm_I _), some (jm_I _), some (jm_I _), some (jm_I _), some (jm_I _), none]) d_L_live_146 (Nat.le_of_ble_eq_true rfl) rfl ?_
                exact jm_weak2 h (And.intro rfl (And.intro rfl (And.intro rfl (And.intro rfl (And.intro rfl (And.intro rfl (And.intro rfl (And.intro rfl (And.intro rfl (And.intro rfl trivial))))))))))
              · have h := h.2 c31
                refine jm_iload d_L_live_133 rfl ?_
                refine jm_iload d_L_live_135 rfl ?_
                refine jm_isub d_L_live_137 ?_
                refine jm_aloadn d_L_live_138 rfl ?_
                refine jm_bipush (v := 11) d_L_live_139 rfl (jm_okI (by decide) (by decide)) ?_
                refine jm_iaload d_L_live_141 (ixl_134 (by decide) (by decide)) ?_
                refine jm_icmp_le (tgt := 148) d_L_live_142 (by decide) (fun c32 => ?_) (fun c32 => ?_)
                · have h := h.1 c32
                  exact jm_weak2 h (And.intro rfl (And.intro rfl (And.intro rfl (And.intro rfl (And.intro rfl (And.intro rfl (And.intro rfl (And.intro rfl (And.intro rfl (And.intro rfl trivial))))))))))
                · have h := h.2 c32
                  refine jm_iconst (v := (-1)) d_L_live_145 rfl (jm_okI (by decide) (by decide)) ?_
                  refine jm_istore (L' := [some (jm_R _), some (jm_R _), some (jm_I _), some (jm_R _), some (jm_I _), some (jm_I _), some (jm_I _), some (jm_I _), some (jm_I _), some (jm_I _), some (jm_I _), none]) d_L_live_146 (Nat.le_of_ble_eq_true rfl) rfl ?_
                  exact jm_weak2 h (And.intro rfl (And.intro rfl (And.intro rfl (And.intro rfl (And.intro rfl (And.intro rfl (And.intro rfl (And.intro rfl (And.intro rfl (And.intro rfl trivial))))))))))
        · have h := h.2 c24
          exact jm_weak2 h (And.intro rfl (And.intro rfl (And.intro rfl (And.intro rfl (And.intro rfl (And.intro rfl (And.intro rfl trivial)))))))
set_option maxRecDepth 20000 in
theorem r_L_live_79 {E : jm_E} {d : Nat} {μ : jm_M} {Q : Option jm_V → jm_M → Prop} {v2 v4 v5 v6 : Int} (h :
  jg E m_L_live d 114 [some (jm_R 134), some (jm_R 135), some (jm_I v2), some (jm_R 136), some (jm_I v4), some (jm_I v5), some (jm_I v6), none, some (jm_I ((-1))), some (jm_I 0), none, none] [] μ Q) : jg E m_L_live d 79 [some (jm_R 134), some (jm_R 135), some (jm_I v2), some (jm_R 136), some (jm_I v4), some (jm_I v5), some (jm_I v6), none, none, none, none, none] [] μ Q := by
  refine jm_iconst (v := (-1)) d_L_live_79 rfl (jm_okI (by decide) (by decide)) ?_
  refine jm_goto (tgt := 88) d_L_live_80 (by decide) ?_
  refine jm_istore (L' := [some (jm_R _), some (jm_R _), some (jm_I _), some (jm_R _), some (jm_I _), some (jm_I _), some (jm_I _), none, some (jm_I _), none, none, none]) d_L_live_88 (Nat.le_of_ble_eq_true rfl) rfl ?_
  refine jm_iconst (v := 0) d_L_live_90 rfl (jm_okI (by decide) (by decide)) ?_
  refine jm_istore (L' := [some (jm_R _), some (jm_R _), some (jm_I _), some (jm_R _), some (jm_I _), some (jm_I _), some (jm_I _), none, some (jm_I _), some (jm_I _), none, none]) d_L_live_91 (Nat.le_of_ble_eq_true rfl) rfl ?_
  refine jm_iload d_L_live_93 rfl ?_
  refine jm_if_lt (tgt := 114) d_L_live_95 (by decide) (fun _ => ?_) (fun c1 => absurd (by decide) c1)
  exact h
set_option maxRecDepth 20000 in
theorem r_L_live_114 {E : jm_E} {d : Nat} {μ : jm_M} {Q : Option jm_V → jm_M → Prop} {v2 v4 v5 v6 v8 v9 : Int} (h :
  jg E m_L_live d 148 [some (jm_R 134), some (jm_R 135), some (jm_I v2), some (jm_R 136), some (jm_I v4), some (jm_I v5), some (jm_I v6), none, some (jm_I v8), some (jm_I v9), some (jm_I ((-1))), none] [] μ Q) : jg E m_L_live d 114 [some (jm_R 134), some (jm_R 135), some (jm_I v2), some (jm_R 136), some (jm_I v4), some (jm_I v5), some (jm_I v6), none, some (jm_I v8), some (jm_I v9), none, none] [] μ Q := by
  refine jm_iconst (v := (-1)) d_L_live_114 rfl (jm_okI (by decide) (by decide)) ?_
  refine jm_istore (L' := [some (jm_R _), some (jm_R _), some (jm_I _), some (jm_R _), some (jm_I _), some (jm_I _), some (jm_I _), none, some (jm_I _), some (jm_I _), some (jm_I _), none]) d_L_live_115 (Nat.le_of_ble_eq_true rfl) rfl ?_
  refine jm_iload d_L_live_117 rfl ?_
  refine jm_if_lt (tgt := 148) d_L_live_119 (by decide) (fun _ => ?_) (fun c1 => absurd (by decide) c1)
  exact h
set_option maxRecDepth 20000 in
theorem r_L_live_148 {E : jm_E} {d : Nat} {μ : jm_M} {Q : Option jm_V → jm_M → Prop} {v2 v4 v5 v6 v8 v9 v10 : Int} (h :
  ((v6 ≤ 2 →
    jg E m_L_live d 245 [some (jm_R 134), some (jm_R 135), some (jm_I v2), some (jm_R 136), some (jm_I v4), some (jm_I v5), some (jm_I v6), none, some (jm_I v8), some (jm_I v9), none, none] [] μ Q) ∧
   (¬ (v6 ≤ 2) →
    ((6 ≤ v6 →
      jg E m_L_live d 245 [some (jm_R 134), some (jm_R 135), some (jm_I v2), some (jm_R 136), some (jm_I v4), some (jm_I v5), some (jm_I v6), none, some (jm_I v8), some (jm_I v9), none, none] [] μ Q) ∧
     (¬ (6 ≤ v6) →
      ((v8 < 0 →
        ((0 ≤ v8 →
          jg E m_L_live d 245 [some (jm_R 134), some (jm_R 135), some (jm_I v2), some (jm_R 136), some (jm_I v4), some (jm_I v5), some (jm_I v6), none, some (jm_I v8), some (jm_I v9), none, none] [] μ Q) ∧
         (¬ (0 ≤ v8) →
          jg E m_L_live d 245 [some (jm_R 134), some (jm_R 135), some (jm_I v2), some (jm_R 136), some (jm_I v4), some (jm_I v5), some (jm_I v6), none, some (jm_I v8), some (jm_I 5), none, none] [] μ Q))) ∧
       (¬ (v8 < 0) →
        ((0 ≤ v10 →
          ((v6 ≠ 5 →
            (0 ≤ v10 ∧ v10 < 16) ∧
            ∀ x13 : Int, x13 = jm_shr (μ 135 v10) 4 →
            ((x13 < 0 →
              jg E m_L_live d 216 [some (jm_R 134), some (jm_R 135), some (jm_I v2), some (jm_R 136), some (jm_I v4), some (jm_I v5), some (jm_I v6), none, some (jm_I v8), some (jm_I v9), some (jm_I v10), none] [] μ Q) ∧
             (¬ (x13 < 0) →
              ((x13 = v5 →
                jg E m_L_live d 216 [some (jm_R 134), some (jm_R 135), some (jm_I v2), some (jm_R 136), some (jm_I v4), some (jm_I v5), some (jm_I v6), none, some (jm_I v8), some (jm_I v9), some (jm_I v10), none] [] μ Q) ∧
               (¬ (x13 = v5) →
                jg E m_L_live d 216 [some (jm_R 134), some (jm_R 135), some (jm_I v2), some (jm_R 136), some (jm_I v4), some (jm_I v5), some (jm_I v6), none, some (jm_I v8), some (jm_I 6), some (jm_I v10), none] [] μ Q))))) ∧
           (¬ (v6 ≠ 5) →
            (0 ≤ v10 ∧ v10 < 56) ∧
            (0 ≤ μ 136 v10 ∧ μ 136 v10 < 16) ∧
            ∀ x18 : Int, x18 = jm_shr (μ 135 (μ 136 v10)) 4 →
            ((x18 < 0 →
              jg E m_L_live d 216 [some (jm_R 134), some (jm_R 135), some (jm_I v2), some (jm_R 136), some (jm_I v4), some (jm_I v5), some (jm_I v6), none, some (jm_I v8), some (jm_I v9), some (jm_I v10), none] [] μ Q) ∧
             (¬ (x18 < 0) →
              ((x18 = v5 →
                jg E m_L_live d 216 [some (jm_R 134), some (jm_R 135), some (jm_I v2), some (jm_R 136), some (jm_I v4), some (jm_I v5), some (jm_I v6), none, some (jm_I v8), some (jm_I v9), some (jm_I v10), none] [] μ Q) ∧
               (¬ (x18 = v5) →
                jg E m_L_live d 216 [some (jm_R 134), some (jm_R 135), some (jm_I v2), some (jm_R 136), some (jm_I v4), some (jm_I v5), some (jm_I v6), none, some (jm_I v8), some (jm_I 6), some (jm_I v10), none] [] μ Q))))))) ∧
         (¬ (0 ≤ v10) →
          jg E m_L_live d 216 [some (jm_R 134), some (jm_R 135), some (jm_I v2), some (jm_R 136), some (jm_I v4), some (jm_I v5), some (jm_I v6), none, some (jm_I v8), some (jm_I v9), some (jm_I v10), none] [] μ Q))))))))) : jg E m_L_live d 148 [some (jm_R 134), some (jm_R 135), some (jm_I v2), some (jm_R 136), some (jm_I v4), some (jm_I v5), some (jm_I v6), none, some (jm_I v8), some (jm_I v9), some (jm_I v10), none] [] μ Q := by
  refine jm_iload d_L_live_148 rfl ?_
  refine jm_iconst (v := 2) d_L_live_150 rfl (jm_okI (by decide) (by decide)) ?_
  refine jm_icmp_le (tgt := 224) d_L_live_151 (by decide) (fun c1 => ?_) (fun c1 => ?_)
  · have h := h.1 c1
    refine jm_iload d_L_live_224 rfl ?_
    refine jm_iconst (v := 2) d_L_live_226 rfl (jm_okI (by decide) (by decide)) ?_
    refine jm_icmp_le (tgt := 245) d_L_live_227 (by decide) (fun _ => ?_) (fun c2 => absurd c1 c2)
    exact jm_weak2 h (And.intro rfl (And.intro rfl (And.intro rfl (And.intro rfl (And.intro rfl (And.intro rfl (And.intro rfl (And.intro rfl (And.intro rfl trivial)))))))))
  · have h := h.2 c1
    refine jm_iload d_L_live_154 rfl ?_
    refine jm_bipush (v := 6) d_L_live_156 rfl (jm_okI (by decide) (by decide)) ?_
    refine jm_icmp_ge (tgt := 224) d_L_live_158 (by decide) (fun c3 => ?_) (fun c3 => ?_)
    · have h := h.1 c3
      refine jm_iload d_L_live_224 rfl ?_
      refine jm_iconst (v := 2) d_L_live_226 rfl (jm_okI (by decide) (by decide)) ?_
      refine jm_icmp_le (tgt := 245) d_L_live_227 (by decide) (fun c4 => absurd c4 c1) (fun _ => ?_)
      refine jm_iload d_L_live_230 rfl ?_
      refine jm_bipush (v := 6) d_L_live_232 rfl (jm_okI (by decide) (by decide)) ?_
      refine jm_icmp_ge (tgt := 245) d_L_live_234 (by decide) (fun _ => ?_) (fun c5 => absurd c3 c5)
      exact jm_weak2 h (And.intro rfl (And.intro rfl (And.intro rfl (And.intro rfl (And.intro rfl (And.intro rfl (And.intro rfl (And.intro rfl (And.intro rfl trivial)))))))))
    · have h := h.2 c3
      refine jm_iload d_L_live_161 rfl ?_
      refine jm_if_lt (tgt := 224) d_L_live_163 (by decide) (fun c6 => ?_) (fun c6 => ?_)
      · have h := h.1 c6
        refine jm_iload d_L_live_224 rfl ?_
        refine jm_iconst (v := 2) d_L_live_226 rfl (jm_okI (by decide) (by decide)) ?_
        refine jm_icmp_le (tgt := 245) d_L_live_227 (by decide) (fun c7 => absurd c7 c1) (fun _ => ?_)
        refine jm_iload d_L_live_230 rfl ?_
        refine jm_bipush (v := 6) d_L_live_232 rfl (jm_okI (by decide) (by decide)) ?_
        refine jm_icmp_ge (tgt := 245) d_L_live_234 (by decide) (fun c8 => absurd c8 c3) (fun _ => ?_)
        refine jm_iload d_L_live_237 rfl ?_
        refine jm_if_ge (tgt := 245) d_L_live_239 (by decide) (fun c9 => ?_) (fun c9 => ?_)
        · have h := h.1 c9
          exact jm_weak2 h (And.intro rfl (And.intro rfl (And.intro rfl (And.intro rfl (And.intro rfl (And.intro rfl (And.intro rfl (And.intro rfl (And.intro rfl trivial)))))))))
        · have h := h.2 c9
          refine jm_iconst (v := 5) d_L_live_242 rfl (jm_okI (by decide) (by decide)) ?_
          refine jm_istore (L' := [some (jm_R _), some (jm_R _), some (jm_I _), some (jm_R _), some (jm_I _), some (jm_I _), some (jm_I _), none, some (jm_I _), some (jm_I _), some (jm_I _), none]) d_L_live_243 (Nat.le_of_ble_eq_true rfl) rfl ?_
          exact jm_weak2 h (And.intro rfl (And.intro rfl (And.intro rfl (And.intro rfl (And.intro rfl (And.intro rfl (And.intro rfl (And.intro rfl (And.intro rfl trivial)))))))))
      · have h := h.2 c6
        refine jm_iload d_L_live_166 rfl ?_
        refine jm_if_ge (tgt := 175) d_L_live_168 (by decide) (fun c10 => ?_) (fun c10 => ?_)
        · have h := h.1 c10
          refine jm_iload d_L_live_175 rfl ?_
          refine jm_iconst (v := 5) d_L_live_177 rfl (jm_okI (by decide) (by decide)) ?_
          refine jm_icmp_ne (tgt := 192) d_L_live_178 (by decide) (fun c11 => ?_) (fun c11 => ?_)
          · have h := h.1 c11
            refine jm_aloadn d_L_live_192 rfl ?_
            refine jm_iload d_L_live_193 rfl ?_
            obtain ⟨f12, h⟩ := h
            refine jm_iaload d_L_live_195 (ixl_135 f12.1 f12.2) ?_
            refine jm_iconst (v := 4) d_L_live_196 rfl (jm_okI (by decide) (by decide)) ?_
            refine jm_ishr d_L_live_197 ?_
            have h := h _ rfl
            refine jm_istore (L' := [some (jm_R _), some (jm_R _), some (jm_I _), some (jm_R _), some (jm_I _), some (jm_I _), some (jm_I _), none, some (jm_I _), some (jm_I _), some (jm_I _), some (jm_I _)]) d_L_live_198 (Nat.le_of_ble_eq_true rfl) rfl ?_
            refine jm_iload d_L_live_200 rfl ?_
            refine jm_if_lt (tgt := 216) d_L_live_202 (by decide) (fun c14 => ?_) (fun c14 => ?_)
            · have h := h.1 c14
              exact jm_weak2 h (And.intro rfl (And.intro rfl (And.intro rfl (And.intro rfl (And.intro rfl (And.intro rfl (And.intro rfl (And.intro rfl (And.intro rfl (And.intro rfl trivial))))))))))
            · have h := h.2 c14
              refine jm_iload d_L_live_205 rfl ?_
              refine jm_iload d_L_live_207 rfl ?_
              refine jm_icmp_eq (tgt := 216) d_L_live_209 (by decide) (fun c15 => ?_) (fun c15 => ?_)
              · have h := h.1 c15
                exact jm_weak2 h (And.intro rfl (And.intro rfl (And.intro rfl (And.intro rfl (And.intro rfl (And.intro rfl (And.intro rfl (And.intro rfl (And.intro rfl (And.intro rfl trivial))))))))))
              · have h := h.2 c15
                refine jm_bipush (v := 6) d_L_live_212 rfl (jm_okI (by decide) (by decide)) ?_
                refine jm_istore (L' := [some (jm_R _), some (jm_R _), some (jm_I _), some (jm_R _), some (jm_I _), some (jm_I _), some (jm_I _), none, some (jm_I _), some (jm_I _), some (jm_I _), some (jm_I _)]) d_L_live_214 (Nat.le_of_ble_eq_true rfl) rfl ?_
                exact jm_weak2 h (And.intro rfl (And.intro rfl (And.intro rfl (And.intro rfl (And.intro rfl (And.intro rfl (And.intro rfl (And.intro rfl (And.intro rfl (And.intro rfl trivial))))))))))
          · have h := h.2 c11
            refine jm_aloadn d_L_live_181 rfl ?_
            refine jm_aloadn d_L_live_182 rfl ?_
            refine jm_iload d_L_live_183 rfl ?_
            obtain ⟨f16, h⟩ := h
            refine jm_iaload d_L_live_185 (ixl_136 f16.1 f16.2) ?_
            obtain ⟨f17, h⟩ := h
            refine jm_iaload d_L_live_186 (ixl_135 f17.1 f17.2) ?_
            refine jm_iconst (v := 4) d_L_live_187 rfl (jm_okI (by decide) (by decide)) ?_
            refine jm_ishr d_L_live_188 ?_
            refine jm_goto (tgt := 198) d_L_live_189 (by decide) ?_
            have h := h _ rfl
            refine jm_istore (L' := [some (jm_R _), some (jm_R _), some (jm_I _), some (jm_R _), some (jm_I _), some (jm_I _), some (jm_I _), none, some (jm_I _), some (jm_I _), some (jm_I _), some (jm_I _)]) d_L_live_198 (Nat.le_of_ble_eq_true rfl) rfl ?_
            refine jm_iload d_L_live_200 rfl ?_
            refine jm_if_lt (tgt := 216) d_L_live_202 (by decide) (fun c19 => ?_) (fun c19 => ?_)
            · have h := h.1 c19
              exact jm_weak2 h (And.intro rfl (And.intro rfl (And.intro rfl (And.intro rfl (And.intro rfl (And.intro rfl (And.intro rfl (And.intro rfl (And.intro rfl (And.intro rfl trivial))))))))))
            · have h := h.2 c19
              refine jm_iload d_L_live_205 rfl ?_
              refine jm_iload d_L_live_207 rfl ?_
              refine jm_icmp_eq (tgt := 216) d_L_live_209 (by decide) (fun c20 => ?_) (fun c20 => ?_)
              · have h := h.1 c20
                exact jm_weak2 h (And.intro rfl (And.intro rfl (And.intro rfl (And.intro rfl (And.intro rfl (And.intro rfl (And.intro rfl (And.intro rfl (And.intro rfl (And.intro rfl trivial))))))))))
              · have h := h.2 c20
                refine jm_bipush (v := 6) d_L_live_212 rfl (jm_okI (by decide) (by decide)) ?_
                refine jm_istore (L' := [some (jm_R _), some (jm_R _), some (jm_I _), some (jm_R _), some (jm_I _), some (jm_I _), some (jm_I _), none, some (jm_I _), some (jm_I _), some (jm_I _), some (jm_I _)]) d_L_live_214 (Nat.le_of_ble_eq_true rfl) rfl ?_
                exact jm_weak2 h (And.intro rfl (And.intro rfl (And.intro rfl (And.intro rfl (And.intro rfl (And.intro rfl (And.intro rfl (And.intro rfl (And.intro rfl (And.intro rfl trivial))))))))))
        · have h := h.2 c10
          refine jm_iconst (v := (-1)) d_L_live_171 rfl (jm_okI (by decide) (by decide)) ?_
          refine jm_goto (tgt := 198) d_L_live_172 (by decide) ?_
          refine jm_istore (L' := [some (jm_R _), some (jm_R _), some (jm_I _), some (jm_R _), some (jm_I _), some (jm_I _), some (jm_I _), none, some (jm_I _), some (jm_I _), some (jm_I _), some (jm_I _)]) d_L_live_198 (Nat.le_of_ble_eq_true rfl) rfl ?_
          refine jm_iload d_L_live_200 rfl ?_
          refine jm_if_lt (tgt := 216) d_L_live_202 (by decide) (fun _ => ?_) (fun c21 => absurd (by decide) c21)
          exact jm_weak2 h (And.intro rfl (And.intro rfl (And.intro rfl (And.intro rfl (And.intro rfl (And.intro rfl (And.intro rfl (And.intro rfl (And.intro rfl (And.intro rfl trivial))))))))))
set_option maxRecDepth 20000 in
theorem r_L_live_216 {E : jm_E} {d : Nat} {μ : jm_M} {Q : Option jm_V → jm_M → Prop} {v2 v4 v5 v6 v8 v9 v10 : Int} (h :
  ((0 ≤ v10 →
    ((v6 ≤ 2 →
      jg E m_L_live d 245 [some (jm_R 134), some (jm_R 135), some (jm_I v2), some (jm_R 136), some (jm_I v4), some (jm_I v5), some (jm_I v6), none, some (jm_I v8), some (jm_I v9), none, none] [] μ Q) ∧
     (¬ (v6 ≤ 2) →
      ((6 ≤ v6 →
        jg E m_L_live d 245 [some (jm_R 134), some (jm_R 135), some (jm_I v2), some (jm_R 136), some (jm_I v4), some (jm_I v5), some (jm_I v6), none, some (jm_I v8), some (jm_I v9), none, none] [] μ Q) ∧
       (¬ (6 ≤ v6) →
        ((0 ≤ v8 →
          jg E m_L_live d 245 [some (jm_R 134), some (jm_R 135), some (jm_I v2), some (jm_R 136), some (jm_I v4), some (jm_I v5), some (jm_I v6), none, some (jm_I v8), some (jm_I v9), none, none] [] μ Q) ∧
         (¬ (0 ≤ v8) →
          jg E m_L_live d 245 [some (jm_R 134), some (jm_R 135), some (jm_I v2), some (jm_R 136), some (jm_I v4), some (jm_I v5), some (jm_I v6), none, some (jm_I v8), some (jm_I 5), none, none] [] μ Q))))))) ∧
   (¬ (0 ≤ v10) →
    ((v6 ≤ 2 →
      jg E m_L_live d 245 [some (jm_R 134), some (jm_R 135), some (jm_I v2), some (jm_R 136), some (jm_I v4), some (jm_I v5), some (jm_I v6), none, some (jm_I v8), some (jm_I 5), none, none] [] μ Q) ∧
     (¬ (v6 ≤ 2) →
      ((6 ≤ v6 →
        jg E m_L_live d 245 [some (jm_R 134), some (jm_R 135), some (jm_I v2), some (jm_R 136), some (jm_I v4), some (jm_I v5), some (jm_I v6), none, some (jm_I v8), some (jm_I 5), none, none] [] μ Q) ∧
       (¬ (6 ≤ v6) →
        ((0 ≤ v8 →
          jg E m_L_live d 245 [some (jm_R 134), some (jm_R 135), some (jm_I v2), some (jm_R 136), some (jm_I v4), some (jm_I v5), some (jm_I v6), none, some (jm_I v8), some (jm_I 5), none, none] [] μ Q) ∧
         (¬ (0 ≤ v8) →
          jg E m_L_live d 245 [some (jm_R 134), some (jm_R 135), some (jm_I v2), some (jm_R 136), some (jm_I v4), some (jm_I v5), some (jm_I v6), none, some (jm_I v8), some (jm_I 5), none, none] [] μ Q))))))))) : jg E m_L_live d 216 [some (jm_R 134), some (jm_R 135), some (jm_I v2), some (jm_R 136), some (jm_I v4), some (jm_I v5), some (jm_I v6), none, some (jm_I v8), some (jm_I v9), some (jm_I v10), none] [] μ Q := by
  refine jm_iload d_L_live_216 rfl ?_
  refine jm_if_ge (tgt := 224) d_L_live_218 (by decide) (fun c1 => ?_) (fun c1 => ?_)
  · have h := h.1 c1
    refine jm_iload d_L_live_224 rfl ?_
    refine jm_iconst (v := 2) d_L_live_226 rfl (jm_okI (by decide) (by decide)) ?_
    refine jm_icmp_le (tgt := 245) d_L_live_227 (by decide) (fun c2 => ?_) (fun c2 => ?_)
    · have h := h.1 c2
      exact jm_weak2 h (And.intro rfl (And.intro rfl (And.intro rfl (And.intro rfl (And.intro rfl (And.intro rfl (And.intro rfl (And.intro rfl (And.intro rfl trivial)))))))))
    · have h := h.2 c2
      refine jm_iload d_L_live_230 rfl ?_
      refine jm_bipush (v := 6) d_L_live_232 rfl (jm_okI (by decide) (by decide)) ?_
      refine jm_icmp_ge (tgt := 245) d_L_live_234 (by decide) (fun c3 => ?_) (fun c3 => ?_)
      · have h := h.1 c3
        exact jm_weak2 h (And.intro rfl (And.intro rfl (And.intro rfl (And.intro rfl (And.intro rfl (And.intro rfl (And.intro rfl (And.intro rfl (And.intro rfl trivial)))))))))
      · have h := h.2 c3
        refine jm_iload d_L_live_237 rfl ?_
        refine jm_if_ge (tgt := 245) d_L_live_239 (by decide) (fun c4 => ?_) (fun c4 => ?_)
        · have h := h.1 c4
          exact jm_weak2 h (And.intro rfl (And.intro rfl (And.intro rfl (And.intro rfl (And.intro rfl (And.intro rfl (And.intro rfl (And.intro rfl (And.intro rfl trivial)))))))))
        · have h := h.2 c4
          refine jm_iconst (v := 5) d_L_live_242 rfl (jm_okI (by decide) (by decide)) ?_
          refine jm_istore (L' := [some (jm_R _), some (jm_R _), some (jm_I _), some (jm_R _), some (jm_I _), some (jm_I _), some (jm_I _), none, some (jm_I _), some (jm_I _), some (jm_I _), none]) d_L_live_243 (Nat.le_of_ble_eq_true rfl) rfl ?_
          exact jm_weak2 h (And.intro rfl (And.intro rfl (And.intro rfl (And.intro rfl (And.intro rfl (And.intro rfl (And.intro rfl (And.intro rfl (And.intro rfl trivial)))))))))
  · have h := h.2 c1
    refine jm_iconst (v := 5) d_L_live_221 rfl (jm_okI (by decide) (by decide)) ?_
    refine jm_istore (L' := [some (jm_R _), some (jm_R _), some (jm_I _), some (jm_R _), some (jm_I _), some (jm_I _), some (jm_I _), none, some (jm_I _), some (jm_I _), some (jm_I _), none]) d_L_live_222 (Nat.le_of_ble_eq_true rfl) rfl ?_
    refine jm_iload d_L_live_224 rfl ?_
    refine jm_iconst (v := 2) d_L_live_226 rfl (jm_okI (by decide) (by decide)) ?_
    refine jm_icmp_le (tgt := 245) d_L_live_227 (by decide) (fun c5 => ?_) (fun c5 => ?_)
    · have h := h.1 c5
      exact jm_weak2 h (And.intro rfl (And.intro rfl (And.intro rfl (And.intro rfl (And.intro rfl (And.intro rfl (And.intro rfl (And.intro rfl (And.intro rfl trivial)))))))))
    · have h := h.2 c5
      refine jm_iload d_L_live_230 rfl ?_
      refine jm_bipush (v := 6) d_L_live_232 rfl (jm_okI (by decide) (by decide)) ?_
      refine jm_icmp_ge (tgt := 245) d_L_live_234 (by decide) (fun c6 => ?_) (fun c6 => ?_)
      · have h := h.1 c6
        exact jm_weak2 h (And.intro rfl (And.intro rfl (And.intro rfl (And.intro rfl (And.intro rfl (And.intro rfl (And.intro rfl (And.intro rfl (And.intro rfl trivial)))))))))
      · have h := h.2 c6
        refine jm_iload d_L_live_237 rfl ?_
        refine jm_if_ge (tgt := 245) d_L_live_239 (by decide) (fun c7 => ?_) (fun c7 => ?_)
        · have h := h.1 c7
          exact jm_weak2 h (And.intro rfl (And.intro rfl (And.intro rfl (And.intro rfl (And.intro rfl (And.intro rfl (And.intro rfl (And.intro rfl (And.intro rfl trivial)))))))))
        · have h := h.2 c7
          refine jm_iconst (v := 5) d_L_live_242 rfl (jm_okI (by decide) (by decide)) ?_
          refine jm_istore (L' := [some (jm_R _), some (jm_R _), some (jm_I _), some (jm_R _), some (jm_I _), some (jm_I _), some (jm_I _), none, some (jm_I _), some (jm_I _), some (jm_I _), none]) d_L_live_243 (Nat.le_of_ble_eq_true rfl) rfl ?_
          exact jm_weak2 h (And.intro rfl (And.intro rfl (And.intro rfl (And.intro rfl (And.intro rfl (And.intro rfl (And.intro rfl (And.intro rfl (And.intro rfl trivial)))))))))
set_option maxRecDepth 20000 in
theorem r_L_live_245 {E : jm_E} {d : Nat} {μ : jm_M} {Q : Option jm_V → jm_M → Prop} {v2 v4 v5 v6 v8 v9 : Int} (h :
  ((v6 = 1 →
    ((v8 < 0 →
      jg E m_L_live d 276 [some (jm_R 134), some (jm_R 135), some (jm_I v2), some (jm_R 136), some (jm_I v4), some (jm_I v5), some (jm_I v6), none, some (jm_I v8), some (jm_I 5), none, none] [] μ Q) ∧
     (¬ (v8 < 0) →
      (0 ≤ jm_wr (36 + v8) ∧ jm_wr (36 + v8) < 56) ∧
      (((μ 136 (jm_wr (36 + v8))) = 1 →
        jg E m_L_live d 276 [some (jm_R 134), some (jm_R 135), some (jm_I v2), some (jm_R 136), some (jm_I v4), some (jm_I v5), some (jm_I v6), none, some (jm_I v8), some (jm_I v9), none, none] [] μ Q) ∧
       (¬ ((μ 136 (jm_wr (36 + v8))) = 1) →
        jg E m_L_live d 276 [some (jm_R 134), some (jm_R 135), some (jm_I v2), some (jm_R 136), some (jm_I v4), some (jm_I v5), some (jm_I v6), none, some (jm_I v8), some (jm_I 5), none, none] [] μ Q))))) ∧
   (¬ (v6 = 1) →
    ((v6 ≠ 2 →
      jg E m_L_live d 276 [some (jm_R 134), some (jm_R 135), some (jm_I v2), some (jm_R 136), some (jm_I v4), some (jm_I v5), some (jm_I v6), none, some (jm_I v8), some (jm_I v9), none, none] [] μ Q) ∧
     (¬ (v6 ≠ 2) →
      ((v8 < 0 →
        jg E m_L_live d 276 [some (jm_R 134), some (jm_R 135), some (jm_I v2), some (jm_R 136), some (jm_I v4), some (jm_I v5), some (jm_I v6), none, some (jm_I v8), some (jm_I 5), none, none] [] μ Q) ∧
       (¬ (v8 < 0) →
        (0 ≤ jm_wr (36 + v8) ∧ jm_wr (36 + v8) < 56) ∧
        (((μ 136 (jm_wr (36 + v8))) = 1 →
          jg E m_L_live d 276 [some (jm_R 134), some (jm_R 135), some (jm_I v2), some (jm_R 136), some (jm_I v4), some (jm_I v5), some (jm_I v6), none, some (jm_I v8), some (jm_I v9), none, none] [] μ Q) ∧
         (¬ ((μ 136 (jm_wr (36 + v8))) = 1) →
          jg E m_L_live d 276 [some (jm_R 134), some (jm_R 135), some (jm_I v2), some (jm_R 136), some (jm_I v4), some (jm_I v5), some (jm_I v6), none, some (jm_I v8), some (jm_I 5), none, none] [] μ Q))))))))) : jg E m_L_live d 245 [some (jm_R 134), some (jm_R 135), some (jm_I v2), some (jm_R 136), some (jm_I v4), some (jm_I v5), some (jm_I v6), none, some (jm_I v8), some (jm_I v9), none, none] [] μ Q := by
  refine jm_iload d_L_live_245 rfl ?_
  refine jm_iconst (v := 1) d_L_live_247 rfl (jm_okI (by decide) (by decide)) ?_
  refine jm_icmp_eq (tgt := 257) d_L_live_248 (by decide) (fun c1 => ?_) (fun c1 => ?_)
  · have h := h.1 c1
    refine jm_iload d_L_live_257 rfl ?_
    refine jm_if_lt (tgt := 273) d_L_live_259 (by decide) (fun c2 => ?_) (fun c2 => ?_)
    · have h := h.1 c2
      refine jm_iconst (v := 5) d_L_live_273 rfl (jm_okI (by decide) (by decide)) ?_
      refine jm_istore (L' := [some (jm_R _), some (jm_R _), some (jm_I _), some (jm_R _), some (jm_I _), some (jm_I _), some (jm_I _), none, some (jm_I _), some (jm_I _), none, none]) d_L_live_274 (Nat.le_of_ble_eq_true rfl) rfl ?_
      exact h
    · have h := h.2 c2
      refine jm_aloadn d_L_live_262 rfl ?_
      refine jm_bipush (v := 36) d_L_live_263 rfl (jm_okI (by decide) (by decide)) ?_
      refine jm_iload d_L_live_265 rfl ?_
      refine jm_iadd d_L_live_267 ?_
      obtain ⟨f3, h⟩ := h
      refine jm_iaload d_L_live_268 (ixl_136 f3.1 f3.2) ?_
      refine jm_iconst (v := 1) d_L_live_269 rfl (jm_okI (by decide) (by decide)) ?_
      refine jm_icmp_eq (tgt := 276) d_L_live_270 (by decide) (fun c4 => ?_) (fun c4 => ?_)
      · have h := h.1 c4
        exact h
      · have h := h.2 c4
        refine jm_iconst (v := 5) d_L_live_273 rfl (jm_okI (by decide) (by decide)) ?_
        refine jm_istore (L' := [some (jm_R _), some (jm_R _), some (jm_I _), some (jm_R _), some (jm_I _), some (jm_I _), some (jm_I _), none, some (jm_I _), some (jm_I _), none, none]) d_L_live_274 (Nat.le_of_ble_eq_true rfl) rfl ?_
        exact h
  · have h := h.2 c1
    refine jm_iload d_L_live_251 rfl ?_
    refine jm_iconst (v := 2) d_L_live_253 rfl (jm_okI (by decide) (by decide)) ?_
    refine jm_icmp_ne (tgt := 276) d_L_live_254 (by decide) (fun c5 => ?_) (fun c5 => ?_)
    · have h := h.1 c5
      exact h
    · have h := h.2 c5
      refine jm_iload d_L_live_257 rfl ?_
      refine jm_if_lt (tgt := 273) d_L_live_259 (by decide) (fun c6 => ?_) (fun c6 => ?_)
      · have h := h.1 c6
        refine jm_iconst (v := 5) d_L_live_273 rfl (jm_okI (by decide) (by decide)) ?_
        refine jm_istore (L' := [some (jm_R _), some (jm_R _), some (jm_I _), some (jm_R _), some (jm_I _), some (jm_I _), some (jm_I _), none, some (jm_I _), some (jm_I _), none, none]) d_L_live_274 (Nat.le_of_ble_eq_true rfl) rfl ?_
        exact h
      · have h := h.2 c6
        refine jm_aloadn d_L_live_262 rfl ?_
        refine jm_bipush (v := 36) d_L_live_263 rfl (jm_okI (by decide) (by decide)) ?_
        refine jm_iload d_L_live_265 rfl ?_
        refine jm_iadd d_L_live_267 ?_
        obtain ⟨f7, h⟩ := h
        refine jm_iaload d_L_live_268 (ixl_136 f7.1 f7.2) ?_
        refine jm_iconst (v := 1) d_L_live_269 rfl (jm_okI (by decide) (by decide)) ?_
        refine jm_icmp_eq (tgt := 276) d_L_live_270 (by decide) (fun c8 => ?_) (fun c8 => ?_)
        · have h := h.1 c8
          exact h
        · have h := h.2 c8
          refine jm_iconst (v := 5) d_L_live_273 rfl (jm_okI (by decide) (by decide)) ?_
          refine jm_istore (L' := [some (jm_R _), some (jm_R _), some (jm_I _), some (jm_R _), some (jm_I _), some (jm_I _), some (jm_I _), none, some (jm_I _), some (jm_I _), none, none]) d_L_live_274 (Nat.le_of_ble_eq_true rfl) rfl ?_
          exact h
set_option maxRecDepth 20000 in
theorem r_L_live_276 {E : jm_E} {d : Nat} {μ : jm_M} {Q : Option jm_V → jm_M → Prop} {v2 v4 v5 v6 v8 v9 : Int} (h :
  ((v8 < 0 →
    jg E m_L_live d 307 [some (jm_R 134), some (jm_R 135), some (jm_I v2), some (jm_R 136), some (jm_I v4), some (jm_I v5), some (jm_I v6), none, some (jm_I v8), some (jm_I v9), none, none] [] μ Q) ∧
   (¬ (v8 < 0) →
    (0 ≤ v8 ∧ v8 < 16) ∧
    (((jm_shr (μ 135 v8) 4) ≠ v5 →
      jg E m_L_live d 307 [some (jm_R 134), some (jm_R 135), some (jm_I v2), some (jm_R 136), some (jm_I v4), some (jm_I v5), some (jm_I v6), none, some (jm_I v8), some (jm_I v9), none, none] [] μ Q) ∧
     (¬ ((jm_shr (μ 135 v8) 4) ≠ v5) →
      ((v6 = 3 →
        jg E m_L_live d 307 [some (jm_R 134), some (jm_R 135), some (jm_I v2), some (jm_R 136), some (jm_I v4), some (jm_I v5), some (jm_I v6), none, some (jm_I v8), some (jm_I v9), none, none] [] μ Q) ∧
       (¬ (v6 = 3) →
        ((v6 = 4 →
          jg E m_L_live d 307 [some (jm_R 134), some (jm_R 135), some (jm_I v2), some (jm_R 136), some (jm_I v4), some (jm_I v5), some (jm_I v6), none, some (jm_I v8), some (jm_I v9), none, none] [] μ Q) ∧
         (¬ (v6 = 4) →
          jg E m_L_live d 307 [some (jm_R 134), some (jm_R 135), some (jm_I v2), some (jm_R 136), some (jm_I v4), some (jm_I v5), some (jm_I v6), none, some (jm_I v8), some (jm_I 4), none, none] [] μ Q))))))))) : jg E m_L_live d 276 [some (jm_R 134), some (jm_R 135), some (jm_I v2), some (jm_R 136), some (jm_I v4), some (jm_I v5), some (jm_I v6), none, some (jm_I v8), some (jm_I v9), none, none] [] μ Q := by
  refine jm_iload d_L_live_276 rfl ?_
  refine jm_if_lt (tgt := 307) d_L_live_278 (by decide) (fun c1 => ?_) (fun c1 => ?_)
  · have h := h.1 c1
    exact h
  · have h := h.2 c1
    refine jm_aloadn d_L_live_281 rfl ?_
    refine jm_iload d_L_live_282 rfl ?_
    obtain ⟨f2, h⟩ := h
    refine jm_iaload d_L_live_284 (ixl_135 f2.1 f2.2) ?_
    refine jm_iconst (v := 4) d_L_live_285 rfl (jm_okI (by decide) (by decide)) ?_
    refine jm_ishr d_L_live_286 ?_
    refine jm_iload d_L_live_287 rfl ?_
    refine jm_icmp_ne (tgt := 307) d_L_live_289 (by decide) (fun c3 => ?_) (fun c3 => ?_)
    · have h := h.1 c3
      exact h
    · have h := h.2 c3
      refine jm_iload d_L_live_292 rfl ?_
      refine jm_iconst (v := 3) d_L_live_294 rfl (jm_okI (by decide) (by decide)) ?_
      refine jm_icmp_eq (tgt := 307) d_L_live_295 (by decide) (fun c4 => ?_) (fun c4 => ?_)
      · have h := h.1 c4
        exact h
      · have h := h.2 c4
        refine jm_iload d_L_live_298 rfl ?_
        refine jm_iconst (v := 4) d_L_live_300 rfl (jm_okI (by decide) (by decide)) ?_
        refine jm_icmp_eq (tgt := 307) d_L_live_301 (by decide) (fun c5 => ?_) (fun c5 => ?_)
        · have h := h.1 c5
          exact h
        · have h := h.2 c5
          refine jm_iconst (v := 4) d_L_live_304 rfl (jm_okI (by decide) (by decide)) ?_
          refine jm_istore (L' := [some (jm_R _), some (jm_R _), some (jm_I _), some (jm_R _), some (jm_I _), some (jm_I _), some (jm_I _), none, some (jm_I _), some (jm_I _), none, none]) d_L_live_305 (Nat.le_of_ble_eq_true rfl) rfl ?_
          exact h
set_option maxRecDepth 20000 in
theorem r_L_live_307 {E : jm_E} {d : Nat} {μ : jm_M} {Q : Option jm_V → jm_M → Prop} {v2 v4 v5 v6 v8 v9 : Int} (h :
  ((v8 < 0 →
    ((0 ≤ v8 →
      jg E m_L_live d 353 [some (jm_R 134), some (jm_R 135), some (jm_I v2), some (jm_R 136), some (jm_I v4), some (jm_I v5), some (jm_I v6), none, some (jm_I v8), some (jm_I v9), none, none] [] μ Q) ∧
     (¬ (0 ≤ v8) →
      (0 ≤ jm_wr (12 + v6) ∧ jm_wr (12 + v6) < 32) ∧
      (((μ 134 (jm_wr (12 + v6))) ≠ 0 →
        jg E m_L_live d 353 [some (jm_R 134), some (jm_R 135), some (jm_I v2), some (jm_R 136), some (jm_I v4), some (jm_I v5), some (jm_I v6), none, some (jm_I v8), some (jm_I v9), none, none] [] μ Q) ∧
       (¬ ((μ 134 (jm_wr (12 + v6))) ≠ 0) →
        jg E m_L_live d 353 [some (jm_R 134), some (jm_R 135), some (jm_I v2), some (jm_R 136), some (jm_I v4), some (jm_I v5), some (jm_I v6), none, some (jm_I v8), some (jm_I 2), none, none] [] μ Q))))) ∧
   (¬ (v8 < 0) →
    (0 ≤ jm_wr (20 + v6) ∧ jm_wr (20 + v6) < 32) ∧
    (0 ≤ v8 ∧ v8 < 16) ∧
    (((jm_and (jm_shr (μ 134 (jm_wr (20 + v6))) (jm_and (μ 135 v8) 15)) 1) ≠ 0 →
      ((0 ≤ v8 →
        jg E m_L_live d 353 [some (jm_R 134), some (jm_R 135), some (jm_I v2), some (jm_R 136), some (jm_I v4), some (jm_I v5), some (jm_I v6), none, some (jm_I v8), some (jm_I v9), none, none] [] μ Q) ∧
       (¬ (0 ≤ v8) →
        (0 ≤ jm_wr (12 + v6) ∧ jm_wr (12 + v6) < 32) ∧
        (((μ 134 (jm_wr (12 + v6))) ≠ 0 →
          jg E m_L_live d 353 [some (jm_R 134), some (jm_R 135), some (jm_I v2), some (jm_R 136), some (jm_I v4), some (jm_I v5), some (jm_I v6), none, some (jm_I v8), some (jm_I v9), none, none] [] μ Q) ∧
         (¬ ((μ 134 (jm_wr (12 + v6))) ≠ 0) →
          jg E m_L_live d 353 [some (jm_R 134), some (jm_R 135), some (jm_I v2), some (jm_R 136), some (jm_I v4), some (jm_I v5), some (jm_I v6), none, some (jm_I v8), some (jm_I 2), none, none] [] μ Q))))) ∧
     (¬ ((jm_and (jm_shr (μ 134 (jm_wr (20 + v6))) (jm_and (μ 135 v8) 15)) 1) ≠ 0) →
      ((0 ≤ v8 →
        jg E m_L_live d 353 [some (jm_R 134), some (jm_R 135), some (jm_I v2), some (jm_R 136), some (jm_I v4), some (jm_I v5), some (jm_I v6), none, some (jm_I v8), some (jm_I 3), none, none] [] μ Q) ∧
       (¬ (0 ≤ v8) →
        (0 ≤ jm_wr (12 + v6) ∧ jm_wr (12 + v6) < 32) ∧
        (((μ 134 (jm_wr (12 + v6))) ≠ 0 →
          jg E m_L_live d 353 [some (jm_R 134), some (jm_R 135), some (jm_I v2), some (jm_R 136), some (jm_I v4), some (jm_I v5), some (jm_I v6), none, some (jm_I v8), some (jm_I 3), none, none] [] μ Q) ∧
         (¬ ((μ 134 (jm_wr (12 + v6))) ≠ 0) →
          jg E m_L_live d 353 [some (jm_R 134), some (jm_R 135), some (jm_I v2), some (jm_R 136), some (jm_I v4), some (jm_I v5), some (jm_I v6), none, some (jm_I v8), some (jm_I 2), none, none] [] μ Q))))))))) : jg E m_L_live d 307 [some (jm_R 134), some (jm_R 135), some (jm_I v2), some (jm_R 136), some (jm_I v4), some (jm_I v5), some (jm_I v6), none, some (jm_I v8), some (jm_I v9), none, none] [] μ Q := by
  refine jm_iload d_L_live_307 rfl ?_
  refine jm_if_lt (tgt := 335) d_L_live_309 (by decide) (fun c1 => ?_) (fun c1 => ?_)
  · have h := h.1 c1
    refine jm_iload d_L_live_335 rfl ?_
    refine jm_if_ge (tgt := 353) d_L_live_337 (by decide) (fun c2 => ?_) (fun c2 => ?_)
    · have h := h.1 c2
      exact h
    · have h := h.2 c2
      refine jm_aloadn d_L_live_340 rfl ?_
      refine jm_bipush (v := 12) d_L_live_341 rfl (jm_okI (by decide) (by decide)) ?_
      refine jm_iload d_L_live_343 rfl ?_
      refine jm_iadd d_L_live_345 ?_
      obtain ⟨f3, h⟩ := h
      refine jm_iaload d_L_live_346 (ixl_134 f3.1 f3.2) ?_
      refine jm_if_ne (tgt := 353) d_L_live_347 (by decide) (fun c4 => ?_) (fun c4 => ?_)
      · have h := h.1 c4
        exact h
      · have h := h.2 c4
        refine jm_iconst (v := 2) d_L_live_350 rfl (jm_okI (by decide) (by decide)) ?_
        refine jm_istore (L' := [some (jm_R _), some (jm_R _), some (jm_I _), some (jm_R _), some (jm_I _), some (jm_I _), some (jm_I _), none, some (jm_I _), some (jm_I _), none, none]) d_L_live_351 (Nat.le_of_ble_eq_true rfl) rfl ?_
        exact h
  · have h := h.2 c1
    refine jm_aloadn d_L_live_312 rfl ?_
    refine jm_bipush (v := 20) d_L_live_313 rfl (jm_okI (by decide) (by decide)) ?_
    refine jm_iload d_L_live_315 rfl ?_
    refine jm_iadd d_L_live_317 ?_
    obtain ⟨f5, h⟩ := h
    refine jm_iaload d_L_live_318 (ixl_134 f5.1 f5.2) ?_
    refine jm_aloadn d_L_live_319 rfl ?_
    refine jm_iload d_L_live_320 rfl ?_
    obtain ⟨f6, h⟩ := h
    refine jm_iaload d_L_live_322 (ixl_135 f6.1 f6.2) ?_
    refine jm_bipush (v := 15) d_L_live_323 rfl (jm_okI (by decide) (by decide)) ?_
    refine jm_iand d_L_live_325 ?_
    refine jm_ishr d_L_live_326 ?_
    refine jm_iconst (v := 1) d_L_live_327 rfl (jm_okI (by decide) (by decide)) ?_
    refine jm_iand d_L_live_328 ?_
    refine jm_if_ne (tgt := 335) d_L_live_329 (by decide) (fun c7 => ?_) (fun c7 => ?_)
    · have h := h.1 c7
      refine jm_iload d_L_live_335 rfl ?_
      refine jm_if_ge (tgt := 353) d_L_live_337 (by decide) (fun c8 => ?_) (fun c8 => ?_)
      · have h := h.1 c8
        exact h
      · have h := h.2 c8
        refine jm_aloadn d_L_live_340 rfl ?_
        refine jm_bipush (v := 12) d_L_live_341 rfl (jm_okI (by decide) (by decide)) ?_
        refine jm_iload d_L_live_343 rfl ?_
        refine jm_iadd d_L_live_345 ?_
        obtain ⟨f9, h⟩ := h
        refine jm_iaload d_L_live_346 (ixl_134 f9.1 f9.2) ?_
        refine jm_if_ne (tgt := 353) d_L_live_347 (by decide) (fun c10 => ?_) (fun c10 => ?_)
        · have h := h.1 c10
          exact h
        · have h := h.2 c10
          refine jm_iconst (v := 2) d_L_live_350 rfl (jm_okI (by decide) (by decide)) ?_
          refine jm_istore (L' := [some (jm_R _), some (jm_R _), some (jm_I _), some (jm_R _), some (jm_I _), some (jm_I _), some (jm_I _), none, some (jm_I _), some (jm_I _), none, none]) d_L_live_351 (Nat.le_of_ble_eq_true rfl) rfl ?_
          exact h
    · have h := h.2 c7
      refine jm_iconst (v := 3) d_L_live_332 rfl (jm_okI (by decide) (by decide)) ?_
      refine jm_istore (L' := [some (jm_R _), some (jm_R _), some (jm_I _), some (jm_R _), some (jm_I _), some (jm_I _), some (jm_I _), none, some (jm_I _), some (jm_I _), none, none]) d_L_live_333 (Nat.le_of_ble_eq_true rfl) rfl ?_
      refine jm_iload d_L_live_335 rfl ?_
      refine jm_if_ge (tgt := 353) d_L_live_337 (by decide) (fun c11 => ?_) (fun c11 => ?_)
      · have h := h.1 c11
        exact h
      · have h := h.2 c11
        refine jm_aloadn d_L_live_340 rfl ?_
        refine jm_bipush (v := 12) d_L_live_341 rfl (jm_okI (by decide) (by decide)) ?_
        refine jm_iload d_L_live_343 rfl ?_
        refine jm_iadd d_L_live_345 ?_
        obtain ⟨f12, h⟩ := h
        refine jm_iaload d_L_live_346 (ixl_134 f12.1 f12.2) ?_
        refine jm_if_ne (tgt := 353) d_L_live_347 (by decide) (fun c13 => ?_) (fun c13 => ?_)
        · have h := h.1 c13
          exact h
        · have h := h.2 c13
          refine jm_iconst (v := 2) d_L_live_350 rfl (jm_okI (by decide) (by decide)) ?_
          refine jm_istore (L' := [some (jm_R _), some (jm_R _), some (jm_I _), some (jm_R _), some (jm_I _), some (jm_I _), some (jm_I _), none, some (jm_I _), some (jm_I _), none, none]) d_L_live_351 (Nat.le_of_ble_eq_true rfl) rfl ?_
          exact h
set_option maxRecDepth 20000 in
theorem r_L_live_353 {E : jm_E} {d : Nat} {μ : jm_M} {Q : Option jm_V → jm_M → Prop} {v2 v4 v5 v6 v8 v9 : Int} (h :
  ((μ 134 7 ≠ 0 →
    jg E m_L_live d 381 [some (jm_R 134), some (jm_R 135), some (jm_I v2), some (jm_R 136), some (jm_I v4), none, some (jm_I v6), none, some (jm_I v8), some (jm_I v9), none, none] [] μ Q) ∧
   (¬ (μ 134 7 ≠ 0) →
    ((v4 ≤ 0 →
      jg E m_L_live d 381 [some (jm_R 134), some (jm_R 135), some (jm_I v2), some (jm_R 136), some (jm_I v4), none, some (jm_I v6), none, some (jm_I v8), some (jm_I v9), none, none] [] μ Q) ∧
     (¬ (v4 ≤ 0) →
      (0 ≤ jm_wr (v4 - 1) ∧ jm_wr (v4 - 1) < 16) ∧
      (((jm_shr (μ 135 (jm_wr (v4 - 1))) 4) ≠ v5 →
        jg E m_L_live d 381 [some (jm_R 134), some (jm_R 135), some (jm_I v2), some (jm_R 136), some (jm_I v4), none, some (jm_I v6), none, some (jm_I v8), some (jm_I v9), none, none] [] μ Q) ∧
       (¬ ((jm_shr (μ 135 (jm_wr (v4 - 1))) 4) ≠ v5) →
        jg E m_L_live d 381 [some (jm_R 134), some (jm_R 135), some (jm_I v2), some (jm_R 136), some (jm_I v4), none, some (jm_I v6), none, some (jm_I v8), some (jm_I 1), none, none] [] μ Q))))))) : jg E m_L_live d 353 [some (jm_R 134), some (jm_R 135), some (jm_I v2), some (jm_R 136), some (jm_I v4), some (jm_I v5), some (jm_I v6), none, some (jm_I v8), some (jm_I v9), none, none] [] μ Q := by
  refine jm_aloadn d_L_live_353 rfl ?_
  refine jm_bipush (v := 7) d_L_live_354 rfl (jm_okI (by decide) (by decide)) ?_
  refine jm_iaload d_L_live_356 (ixl_134 (by decide) (by decide)) ?_
  refine jm_if_ne (tgt := 381) d_L_live_357 (by decide) (fun c1 => ?_) (fun c1 => ?_)
  · have h := h.1 c1
    exact jm_weak2 h (And.intro rfl (And.intro rfl (And.intro rfl (And.intro rfl (And.intro rfl (And.intro rfl (And.intro rfl (And.intro rfl trivial))))))))
  · have h := h.2 c1
    refine jm_iload d_L_live_360 rfl ?_
    refine jm_if_le (tgt := 381) d_L_live_362 (by decide) (fun c2 => ?_) (fun c2 => ?_)
    · have h := h.1 c2
      exact jm_weak2 h (And.intro rfl (And.intro rfl (And.intro rfl (And.intro rfl (And.intro rfl (And.intro rfl (And.intro rfl (And.intro rfl trivial))))))))
    · have h := h.2 c2
      refine jm_aloadn d_L_live_365 rfl ?_
      refine jm_iload d_L_live_366 rfl ?_
      refine jm_iconst (v := 1) d_L_live_368 rfl (jm_okI (by decide) (by decide)) ?_
      refine jm_isub d_L_live_369 ?_
      obtain ⟨f3, h⟩ := h
      refine jm_iaload d_L_live_370 (ixl_135 f3.1 f3.2) ?_
      refine jm_iconst (v := 4) d_L_live_371 rfl (jm_okI (by decide) (by decide)) ?_
      refine jm_ishr d_L_live_372 ?_
      refine jm_iload d_L_live_373 rfl ?_
      refine jm_icmp_ne (tgt := 381) d_L_live_375 (by decide) (fun c4 => ?_) (fun c4 => ?_)
      · have h := h.1 c4
        exact jm_weak2 h (And.intro rfl (And.intro rfl (And.intro rfl (And.intro rfl (And.intro rfl (And.intro rfl (And.intro rfl (And.intro rfl trivial))))))))
      · have h := h.2 c4
        refine jm_iconst (v := 1) d_L_live_378 rfl (jm_okI (by decide) (by decide)) ?_
        refine jm_istore (L' := [some (jm_R _), some (jm_R _), some (jm_I _), some (jm_R _), some (jm_I _), some (jm_I _), some (jm_I _), none, some (jm_I _), some (jm_I _), none, none]) d_L_live_379 (Nat.le_of_ble_eq_true rfl) rfl ?_
        exact jm_weak2 h (And.intro rfl (And.intro rfl (And.intro rfl (And.intro rfl (And.intro rfl (And.intro rfl (And.intro rfl (And.intro rfl trivial))))))))
set_option maxRecDepth 20000 in
theorem r_L_live_381 {E : jm_E} {d : Nat} {μ : jm_M} {Q : Option jm_V → jm_M → Prop} {v2 v4 v6 v8 v9 : Int} (h :
  ∀ m1 : jm_M, m1 = (jm_up μ 136 48 v9) →
  ((v9 ≤ 0 →
    (0 ≤ v4 ∧ v4 < 56) ∧
    ∀ m4 : jm_M, m4 = (jm_up m1 136 v4 v8) →
    ((0 ≤ v8 →
      (0 ≤ jm_wr (12 + v8) ∧ jm_wr (12 + v8) < 56) ∧
      (0 ≤ jm_wr (12 + v4) ∧ jm_wr (12 + v4) < 56) ∧
      ∀ m8 : jm_M, m8 = (jm_up m4 136 (jm_wr (12 + v4)) (m4 136 (jm_wr (12 + v8)))) →
      (0 ≤ jm_wr (24 + v8) ∧ jm_wr (24 + v8) < 56) ∧
      (0 ≤ jm_wr (24 + v4) ∧ jm_wr (24 + v4) < 56) ∧
      ∀ m12 : jm_M, m12 = (jm_up m8 136 (jm_wr (24 + v4)) (jm_wr ((m8 136 (jm_wr (24 + v8))) + 1))) →
      jg E m_L_live d 465 [some (jm_R 134), some (jm_R 135), some (jm_I v2), some (jm_R 136), some (jm_I v4), none, some (jm_I v6), none, some (jm_I v8), none, none, none] [] m12 Q) ∧
     (¬ (0 ≤ v8) →
      (0 ≤ jm_wr (12 + v4) ∧ jm_wr (12 + v4) < 56) ∧
      ∀ m15 : jm_M, m15 = (jm_up m4 136 (jm_wr (12 + v4)) (m4 136 49)) →
      (0 ≤ jm_wr (24 + v4) ∧ jm_wr (24 + v4) < 56) ∧
      ∀ m18 : jm_M, m18 = (jm_up m15 136 (jm_wr (24 + v4)) 0) →
      ∀ m20 : jm_M, m20 = (jm_up m18 136 49 (jm_wr ((m18 136 49) + 1))) →
      jg E m_L_live d 465 [some (jm_R 134), some (jm_R 135), some (jm_I v2), some (jm_R 136), some (jm_I v4), none, some (jm_I v6), none, some (jm_I v8), none, none, none] [] m20 Q))) ∧
   (¬ (v9 ≤ 0) →
    Q (some (jm_I v4)) m1))) : jg E m_L_live d 381 [some (jm_R 134), some (jm_R 135), some (jm_I v2), some (jm_R 136), some (jm_I v4), none, some (jm_I v6), none, some (jm_I v8), some (jm_I v9), none, none] [] μ Q := by
  refine jm_aloadn d_L_live_381 rfl ?_
  refine jm_bipush (v := 48) d_L_live_382 rfl (jm_okI (by decide) (by decide)) ?_
  refine jm_iload d_L_live_384 rfl ?_
  refine jm_iastore d_L_live_386 (ixl_136 (by decide) (by decide)) ?_
  have h := h _ rfl
  refine jm_iload d_L_live_387 rfl ?_
  refine jm_if_le (tgt := 395) d_L_live_389 (by decide) (fun c2 => ?_) (fun c2 => ?_)
  · have h := h.1 c2
    refine jm_aloadn d_L_live_395 rfl ?_
    refine jm_iload d_L_live_396 rfl ?_
    refine jm_iload d_L_live_398 rfl ?_
    obtain ⟨f3, h⟩ := h
    refine jm_iastore d_L_live_400 (ixl_136 f3.1 f3.2) ?_
    have h := h _ rfl
    refine jm_aloadn d_L_live_401 rfl ?_
    refine jm_bipush (v := 12) d_L_live_402 rfl (jm_okI (by decide) (by decide)) ?_
    refine jm_iload d_L_live_404 rfl ?_
    refine jm_iadd d_L_live_406 ?_
    refine jm_iload d_L_live_407 rfl ?_
    refine jm_if_ge (tgt := 419) d_L_live_409 (by decide) (fun c5 => ?_) (fun c5 => ?_)
    · have h := h.1 c5
      refine jm_aloadn d_L_live_419 rfl ?_
      refine jm_bipush (v := 12) d_L_live_420 rfl (jm_okI (by decide) (by decide)) ?_
      refine jm_iload d_L_live_422 rfl ?_
      refine jm_iadd d_L_live_424 ?_
      obtain ⟨f6, h⟩ := h
      refine jm_iaload d_L_live_425 (ixl_136 f6.1 f6.2) ?_
      obtain ⟨f7, h⟩ := h
      refine jm_iastore d_L_live_426 (ixl_136 f7.1 f7.2) ?_
      have h := h _ rfl
      refine jm_aloadn d_L_live_427 rfl ?_
      refine jm_bipush (v := 24) d_L_live_428 rfl (jm_okI (by decide) (by decide)) ?_
      refine jm_iload d_L_live_430 rfl ?_
      refine jm_iadd d_L_live_432 ?_
      refine jm_iload d_L_live_433 rfl ?_
      refine jm_if_ge (tgt := 442) d_L_live_435 (by decide) (fun _ => ?_) (fun c9 => absurd c5 c9)
      refine jm_aloadn d_L_live_442 rfl ?_
      refine jm_bipush (v := 24) d_L_live_443 rfl (jm_okI (by decide) (by decide)) ?_
      refine jm_iload d_L_live_445 rfl ?_
      refine jm_iadd d_L_live_447 ?_
      obtain ⟨f10, h⟩ := h
      refine jm_iaload d_L_live_448 (ixl_136 f10.1 f10.2) ?_
      refine jm_iconst (v := 1) d_L_live_449 rfl (jm_okI (by decide) (by decide)) ?_
      refine jm_iadd d_L_live_450 ?_
      obtain ⟨f11, h⟩ := h
      refine jm_iastore d_L_live_451 (ixl_136 f11.1 f11.2) ?_
      have h := h _ rfl
      refine jm_iload d_L_live_452 rfl ?_
      refine jm_if_ge (tgt := 465) d_L_live_454 (by decide) (fun _ => ?_) (fun c13 => absurd c5 c13)
      exact jm_weak2 h (And.intro rfl (And.intro rfl (And.intro rfl (And.intro rfl (And.intro rfl (And.intro rfl (And.intro rfl trivial)))))))
    · have h := h.2 c5
      refine jm_aloadn d_L_live_412 rfl ?_
      refine jm_bipush (v := 49) d_L_live_413 rfl (jm_okI (by decide) (by decide)) ?_
      refine jm_iaload d_L_live_415 (ixl_136 (by decide) (by decide)) ?_
      refine jm_goto (tgt := 426) d_L_live_416 (by decide) ?_
      obtain ⟨f14, h⟩ := h
      refine jm_iastore d_L_live_426 (ixl_136 f14.1 f14.2) ?_
      have h := h _ rfl
      refine jm_aloadn d_L_live_427 rfl ?_
      refine jm_bipush (v := 24) d_L_live_428 rfl (jm_okI (by decide) (by decide)) ?_
      refine jm_iload d_L_live_430 rfl ?_
      refine jm_iadd d_L_live_432 ?_
      refine jm_iload d_L_live_433 rfl ?_
      refine jm_if_ge (tgt := 442) d_L_live_435 (by decide) (fun c16 => absurd c16 c5) (fun _ => ?_)
      refine jm_iconst (v := 0) d_L_live_438 rfl (jm_okI (by decide) (by decide)) ?_
      refine jm_goto (tgt := 451) d_L_live_439 (by decide) ?_
      obtain ⟨f17, h⟩ := h
      refine jm_iastore d_L_live_451 (ixl_136 f17.1 f17.2) ?_
      have h := h _ rfl
      refine jm_iload d_L_live_452 rfl ?_
      refine jm_if_ge (tgt := 465) d_L_live_454 (by decide) (fun c19 => absurd c19 c5) (fun _ => ?_)
      refine jm_aloadn d_L_live_457 rfl ?_
      refine jm_bipush (v := 49) d_L_live_458 rfl (jm_okI (by decide) (by decide)) ?_
      refine jm_dup2 rfl rfl d_L_live_460 ?_
      refine jm_iaload d_L_live_461 (ixl_136 (by decide) (by decide)) ?_
      refine jm_iconst (v := 1) d_L_live_462 rfl (jm_okI (by decide) (by decide)) ?_
      refine jm_iadd d_L_live_463 ?_
      refine jm_iastore d_L_live_464 (ixl_136 (by decide) (by decide)) ?_
      have h := h _ rfl
      exact jm_weak2 h (And.intro rfl (And.intro rfl (And.intro rfl (And.intro rfl (And.intro rfl (And.intro rfl (And.intro rfl trivial)))))))
  · have h := h.2 c2
    refine jm_iload d_L_live_392 rfl ?_
    exact jm_ret (o := some (jm_I _)) d_L_live_394 rfl ⟨Nat.le_refl _, Nat.le_refl _⟩ jm_r_I h rfl
set_option maxRecDepth 20000 in
theorem r_L_live_465 {E : jm_E} {d : Nat} {μ : jm_M} {Q : Option jm_V → jm_M → Prop} {v2 v4 v6 v8 : Int} (h :
  ((v6 ≠ 0 →
    ((v6 ≠ 1 →
      (0 ≤ jm_wr (36 + v4) ∧ jm_wr (36 + v4) < 56) ∧
      ∀ m4 : jm_M, m4 = (jm_up μ 136 (jm_wr (36 + v4)) 0) →
      ((v6 = 1 →
        (0 ≤ jm_wr (36 + v8) ∧ jm_wr (36 + v8) < 56) ∧
        ∀ m8 : jm_M, m8 = (jm_up m4 136 (jm_wr (36 + v8)) 3) →
        jg E m_L_live d 522 [some (jm_R 134), some (jm_R 135), some (jm_I v2), some (jm_R 136), some (jm_I v4), none, some (jm_I v6), none, some (jm_I v8), none, none, none] [] m8 Q) ∧
       (¬ (v6 = 1) →
        ((v6 ≠ 2 →
          jg E m_L_live d 522 [some (jm_R 134), some (jm_R 135), some (jm_I v2), some (jm_R 136), some (jm_I v4), none, some (jm_I v6), none, some (jm_I v8), none, none, none] [] m4 Q) ∧
         (¬ (v6 ≠ 2) →
          (0 ≤ jm_wr (36 + v8) ∧ jm_wr (36 + v8) < 56) ∧
          ∀ m12 : jm_M, m12 = (jm_up m4 136 (jm_wr (36 + v8)) 3) →
          jg E m_L_live d 522 [some (jm_R 134), some (jm_R 135), some (jm_I v2), some (jm_R 136), some (jm_I v4), none, some (jm_I v6), none, some (jm_I v8), none, none, none] [] m12 Q))))) ∧
     (¬ (v6 ≠ 1) →
      (0 ≤ jm_wr (36 + v4) ∧ jm_wr (36 + v4) < 56) ∧
      ∀ m14 : jm_M, m14 = (jm_up μ 136 (jm_wr (36 + v4)) 4) →
      ((v6 = 1 →
        (0 ≤ jm_wr (36 + v8) ∧ jm_wr (36 + v8) < 56) ∧
        ∀ m18 : jm_M, m18 = (jm_up m14 136 (jm_wr (36 + v8)) 2) →
        jg E m_L_live d 522 [some (jm_R 134), some (jm_R 135), some (jm_I v2), some (jm_R 136), some (jm_I v4), none, some (jm_I v6), none, some (jm_I v8), none, none, none] [] m18 Q) ∧
       (¬ (v6 = 1) →
        ((v6 ≠ 2 →
          jg E m_L_live d 522 [some (jm_R 134), some (jm_R 135), some (jm_I v2), some (jm_R 136), some (jm_I v4), none, some (jm_I v6), none, some (jm_I v8), none, none, none] [] m14 Q) ∧
         (¬ (v6 ≠ 2) →
          (0 ≤ jm_wr (36 + v8) ∧ jm_wr (36 + v8) < 56) ∧
          ∀ m22 : jm_M, m22 = (jm_up m14 136 (jm_wr (36 + v8)) 2) →
          jg E m_L_live d 522 [some (jm_R 134), some (jm_R 135), some (jm_I v2), some (jm_R 136), some (jm_I v4), none, some (jm_I v6), none, some (jm_I v8), none, none, none] [] m22 Q))))))) ∧
   (¬ (v6 ≠ 0) →
    (0 ≤ jm_wr (36 + v4) ∧ jm_wr (36 + v4) < 56) ∧
    ∀ m24 : jm_M, m24 = (jm_up μ 136 (jm_wr (36 + v4)) 1) →
    ((v6 = 1 →
      ((v6 ≠ 1 →
        (0 ≤ jm_wr (36 + v8) ∧ jm_wr (36 + v8) < 56) ∧
        ∀ m28 : jm_M, m28 = (jm_up m24 136 (jm_wr (36 + v8)) 3) →
        jg E m_L_live d 522 [some (jm_R 134), some (jm_R 135), some (jm_I v2), some (jm_R 136), some (jm_I v4), none, some (jm_I v6), none, some (jm_I v8), none, none, none] [] m28 Q) ∧
       (¬ (v6 ≠ 1) →
        (0 ≤ jm_wr (36 + v8) ∧ jm_wr (36 + v8) < 56) ∧
        ∀ m30 : jm_M, m30 = (jm_up m24 136 (jm_wr (36 + v8)) 2) →
        jg E m_L_live d 522 [some (jm_R 134), some (jm_R 135), some (jm_I v2), some (jm_R 136), some (jm_I v4), none, some (jm_I v6), none, some (jm_I v8), none, none, none] [] m30 Q))) ∧
     (¬ (v6 = 1) →
      ((v6 ≠ 2 →
        jg E m_L_live d 522 [some (jm_R 134), some (jm_R 135), some (jm_I v2), some (jm_R 136), some (jm_I v4), none, some (jm_I v6), none, some (jm_I v8), none, none, none] [] m24 Q) ∧
       (¬ (v6 ≠ 2) →
        ((v6 ≠ 1 →
          (0 ≤ jm_wr (36 + v8) ∧ jm_wr (36 + v8) < 56) ∧
          ∀ m34 : jm_M, m34 = (jm_up m24 136 (jm_wr (36 + v8)) 3) →
          jg E m_L_live d 522 [some (jm_R 134), some (jm_R 135), some (jm_I v2), some (jm_R 136), some (jm_I v4), none, some (jm_I v6), none, some (jm_I v8), none, none, none] [] m34 Q) ∧
         (¬ (v6 ≠ 1) →
          (0 ≤ jm_wr (36 + v8) ∧ jm_wr (36 + v8) < 56) ∧
          ∀ m36 : jm_M, m36 = (jm_up m24 136 (jm_wr (36 + v8)) 2) →
          jg E m_L_live d 522 [some (jm_R 134), some (jm_R 135), some (jm_I v2), some (jm_R 136), some (jm_I v4), none, some (jm_I v6), none, some (jm_I v8), none, none, none] [] m36 Q))))))))) : jg E m_L_live d 465 [some (jm_R 134), some (jm_R 135), some (jm_I v2), some (jm_R 136), some (jm_I v4), none, some (jm_I v6), none, some (jm_I v8), none, none, none] [] μ Q := by
  refine jm_aloadn d_L_live_465 rfl ?_
  refine jm_bipush (v := 36) d_L_live_466 rfl (jm_okI (by decide) (by decide)) ?_
  refine jm_iload d_L_live_468 rfl ?_
  refine jm_iadd d_L_live_470 ?_
  refine jm_iload d_L_live_471 rfl ?_
  refine jm_if_ne (tgt := 480) d_L_live_473 (by decide) (fun c1 => ?_) (fun c1 => ?_)
  · have h := h.1 c1
    refine jm_iload d_L_live_480 rfl ?_
    refine jm_iconst (v := 1) d_L_live_482 rfl (jm_okI (by decide) (by decide)) ?_
    refine jm_icmp_ne (tgt := 490) d_L_live_483 (by decide) (fun c2 => ?_) (fun c2 => ?_)
    · have h := h.1 c2
      refine jm_iconst (v := 0) d_L_live_490 rfl (jm_okI (by decide) (by decide)) ?_
      obtain ⟨f3, h⟩ := h
      refine jm_iastore d_L_live_491 (ixl_136 f3.1 f3.2) ?_
      have h := h _ rfl
      refine jm_iload d_L_live_492 rfl ?_
      refine jm_iconst (v := 1) d_L_live_494 rfl (jm_okI (by decide) (by decide)) ?_
      refine jm_icmp_eq (tgt := 504) d_L_live_495 (by decide) (fun c5 => ?_) (fun c5 => ?_)
      · have h := h.1 c5
        refine jm_aloadn d_L_live_504 rfl ?_
        refine jm_bipush (v := 36) d_L_live_505 rfl (jm_okI (by decide) (by decide)) ?_
        refine jm_iload d_L_live_507 rfl ?_
        refine jm_iadd d_L_live_509 ?_
        refine jm_iload d_L_live_510 rfl ?_
        refine jm_iconst (v := 1) d_L_live_512 rfl (jm_okI (by decide) (by decide)) ?_
        refine jm_icmp_ne (tgt := 520) d_L_live_513 (by decide) (fun _ => ?_) (fun c6 => absurd c2 c6)
        refine jm_iconst (v := 3) d_L_live_520 rfl (jm_okI (by decide) (by decide)) ?_
        obtain ⟨f7, h⟩ := h
        refine jm_iastore d_L_live_521 (ixl_136 f7.1 f7.2) ?_
        have h := h _ rfl
        exact h
      · have h := h.2 c5
        refine jm_iload d_L_live_498 rfl ?_
        refine jm_iconst (v := 2) d_L_live_500 rfl (jm_okI (by decide) (by decide)) ?_
        refine jm_icmp_ne (tgt := 522) d_L_live_501 (by decide) (fun c9 => ?_) (fun c9 => ?_)
        · have h := h.1 c9
          exact h
        · have h := h.2 c9
          refine jm_aloadn d_L_live_504 rfl ?_
          refine jm_bipush (v := 36) d_L_live_505 rfl (jm_okI (by decide) (by decide)) ?_
          refine jm_iload d_L_live_507 rfl ?_
          refine jm_iadd d_L_live_509 ?_
          refine jm_iload d_L_live_510 rfl ?_
          refine jm_iconst (v := 1) d_L_live_512 rfl (jm_okI (by decide) (by decide)) ?_
          refine jm_icmp_ne (tgt := 520) d_L_live_513 (by decide) (fun _ => ?_) (fun c10 => absurd c2 c10)
          refine jm_iconst (v := 3) d_L_live_520 rfl (jm_okI (by decide) (by decide)) ?_
          obtain ⟨f11, h⟩ := h
          refine jm_iastore d_L_live_521 (ixl_136 f11.1 f11.2) ?_
          have h := h _ rfl
          exact h
    · have h := h.2 c2
      refine jm_iconst (v := 4) d_L_live_486 rfl (jm_okI (by decide) (by decide)) ?_
      refine jm_goto (tgt := 491) d_L_live_487 (by decide) ?_
      obtain ⟨f13, h⟩ := h
      refine jm_iastore d_L_live_491 (ixl_136 f13.1 f13.2) ?_
      have h := h _ rfl
      refine jm_iload d_L_live_492 rfl ?_
      refine jm_iconst (v := 1) d_L_live_494 rfl (jm_okI (by decide) (by decide)) ?_
      refine jm_icmp_eq (tgt := 504) d_L_live_495 (by decide) (fun c15 => ?_) (fun c15 => ?_)
      · have h := h.1 c15
        refine jm_aloadn d_L_live_504 rfl ?_
        refine jm_bipush (v := 36) d_L_live_505 rfl (jm_okI (by decide) (by decide)) ?_
        refine jm_iload d_L_live_507 rfl ?_
        refine jm_iadd d_L_live_509 ?_
        refine jm_iload d_L_live_510 rfl ?_
        refine jm_iconst (v := 1) d_L_live_512 rfl (jm_okI (by decide) (by decide)) ?_
        refine jm_icmp_ne (tgt := 520) d_L_live_513 (by decide) (fun c16 => absurd c16 c2) (fun _ => ?_)
        refine jm_iconst (v := 2) d_L_live_516 rfl (jm_okI (by decide) (by decide)) ?_
        refine jm_goto (tgt := 521) d_L_live_517 (by decide) ?_
        obtain ⟨f17, h⟩ := h
        refine jm_iastore d_L_live_521 (ixl_136 f17.1 f17.2) ?_
        have h := h _ rfl
        exact h
      · have h := h.2 c15
        refine jm_iload d_L_live_498 rfl ?_
        refine jm_iconst (v := 2) d_L_live_500 rfl (jm_okI (by decide) (by decide)) ?_
        refine jm_icmp_ne (tgt := 522) d_L_live_501 (by decide) (fun c19 => ?_) (fun c19 => ?_)
        · have h := h.1 c19
          exact h
        · have h := h.2 c19
          refine jm_aloadn d_L_live_504 rfl ?_
          refine jm_bipush (v := 36) d_L_live_505 rfl (jm_okI (by decide) (by decide)) ?_
          refine jm_iload d_L_live_507 rfl ?_
          refine jm_iadd d_L_live_509 ?_
          refine jm_iload d_L_live_510 rfl ?_
          refine jm_iconst (v := 1) d_L_live_512 rfl (jm_okI (by decide) (by decide)) ?_
          refine jm_icmp_ne (tgt := 520) d_L_live_513 (by decide) (fun c20 => absurd c20 c2) (fun _ => ?_)
          refine jm_iconst (v := 2) d_L_live_516 rfl (jm_okI (by decide) (by decide)) ?_
          refine jm_goto (tgt := 521) d_L_live_517 (by decide) ?_
          obtain ⟨f21, h⟩ := h
          refine jm_iastore d_L_live_521 (ixl_136 f21.1 f21.2) ?_
          have h := h _ rfl
          exact h
  · have h := h.2 c1
    refine jm_iconst (v := 1) d_L_live_476 rfl (jm_okI (by decide) (by decide)) ?_
    refine jm_goto (tgt := 491) d_L_live_477 (by decide) ?_
    obtain ⟨f23, h⟩ := h
    refine jm_iastore d_L_live_491 (ixl_136 f23.1 f23.2) ?_
    have h := h _ rfl
    refine jm_iload d_L_live_492 rfl ?_
    refine jm_iconst (v := 1) d_L_live_494 rfl (jm_okI (by decide) (by decide)) ?_
    refine jm_icmp_eq (tgt := 504) d_L_live_495 (by decide) (fun c25 => ?_) (fun c25 => ?_)
    · have h := h.1 c25
      refine jm_aloadn d_L_live_504 rfl ?_
      refine jm_bipush (v := 36) d_L_live_505 rfl (jm_okI (by decide) (by decide)) ?_
      refine jm_iload d_L_live_507 rfl ?_
      refine jm_iadd d_L_live_509 ?_
      refine jm_iload d_L_live_510 rfl ?_
      refine jm_iconst (v := 1) d_L_live_512 rfl (jm_okI (by decide) (by decide)) ?_
      refine jm_icmp_ne (tgt := 520) d_L_live_513 (by decide) (fun c26 => ?_) (fun c26 => ?_)
      · have h := h.1 c26
        refine jm_iconst (v := 3) d_L_live_520 rfl (jm_okI (by decide) (by decide)) ?_
        obtain ⟨f27, h⟩ := h
        refine jm_iastore d_L_live_521 (ixl_136 f27.1 f27.2) ?_
        have h := h _ rfl
        exact h
      · have h := h.2 c26
        refine jm_iconst (v := 2) d_L_live_516 rfl (jm_okI (by decide) (by decide)) ?_
        refine jm_goto (tgt := 521) d_L_live_517 (by decide) ?_
        obtain ⟨f29, h⟩ := h
        refine jm_iastore d_L_live_521 (ixl_136 f29.1 f29.2) ?_
        have h := h _ rfl
        exact h
    · have h := h.2 c25
      refine jm_iload d_L_live_498 rfl ?_
      refine jm_iconst (v := 2) d_L_live_500 rfl (jm_okI (by decide) (by decide)) ?_
      refine jm_icmp_ne (tgt := 522) d_L_live_501 (by decide) (fun c31 => ?_) (fun c31 => ?_)
      · have h := h.1 c31
        exact h
      · have h := h.2 c31
        refine jm_aloadn d_L_live_504 rfl ?_
        refine jm_bipush (v := 36) d_L_live_505 rfl (jm_okI (by decide) (by decide)) ?_
        refine jm_iload d_L_live_507 rfl ?_
        refine jm_iadd d_L_live_509 ?_
        refine jm_iload d_L_live_510 rfl ?_
        refine jm_iconst (v := 1) d_L_live_512 rfl (jm_okI (by decide) (by decide)) ?_
        refine jm_icmp_ne (tgt := 520) d_L_live_513 (by decide) (fun c32 => ?_) (fun c32 => ?_)
        · have h := h.1 c32
          refine jm_iconst (v := 3) d_L_live_520 rfl (jm_okI (by decide) (by decide)) ?_
          obtain ⟨f33, h⟩ := h
          refine jm_iastore d_L_live_521 (ixl_136 f33.1 f33.2) ?_
          have h := h _ rfl
          exact h
        · have h := h.2 c32
          refine jm_iconst (v := 2) d_L_live_516 rfl (jm_okI (by decide) (by decide)) ?_
          refine jm_goto (tgt := 521) d_L_live_517 (by decide) ?_
          obtain ⟨f35, h⟩ := h
          refine jm_iastore d_L_live_521 (ixl_136 f35.1 f35.2) ?_
          have h := h _ rfl
          exact h
set_option maxRecDepth 20000 in
theorem r_L_live_522 {E : jm_E} {d : Nat} {μ : jm_M} {Q : Option jm_V → jm_M → Prop} {v2 v4 v6 v8 : Int} (h :
  ((v6 ≤ 2 →
    jg E m_L_live d 8 [some (jm_R 134), some (jm_R 135), some (jm_I v2), some (jm_R 136), some (jm_I (jm_wr (v4 + 1))), none, none, none, none, none, none, none] [] μ Q) ∧
   (¬ (v6 ≤ 2) →
    ((6 ≤ v6 →
      jg E m_L_live d 8 [some (jm_R 134), some (jm_R 135), some (jm_I v2), some (jm_R 136), some (jm_I (jm_wr (v4 + 1))), none, none, none, none, none, none, none] [] μ Q) ∧
     (¬ (6 ≤ v6) →
      (0 ≤ jm_wr (36 + v8) ∧ jm_wr (36 + v8) < 56) ∧
      ∀ m4 : jm_M, m4 = (jm_up μ 136 (jm_wr (36 + v8)) (jm_wr (v6 + 2))) →
      jg E m_L_live d 8 [some (jm_R 134), some (jm_R 135), some (jm_I v2), some (jm_R 136), some (jm_I (jm_wr (v4 + 1))), none, none, none, none, none, none, none] [] m4 Q))))) : jg E m_L_live d 522 [some (jm_R 134), some (jm_R 135), some (jm_I v2), some (jm_R 136), some (jm_I v4), none, some (jm_I v6), none, some (jm_I v8), none, none, none] [] μ Q := by
  refine jm_iload d_L_live_522 rfl ?_
  refine jm_iconst (v := 2) d_L_live_524 rfl (jm_okI (by decide) (by decide)) ?_
  refine jm_icmp_le (tgt := 546) d_L_live_525 (by decide) (fun c1 => ?_) (fun c1 => ?_)
  · have h := h.1 c1
    refine jm_iinc (L' := [some (jm_R _), some (jm_R _), some (jm_I _), some (jm_R _), some (jm_I _), none, some (jm_I _), none, some (jm_I _), none, none, none]) d_L_live_546 rfl rfl (Nat.le_of_ble_eq_true rfl) rfl ?_
    refine jm_goto (tgt := 8) d_L_live_549 (by decide) ?_
    exact jm_weak2 h (And.intro rfl (And.intro rfl (And.intro rfl (And.intro rfl (And.intro rfl trivial)))))
  · have h := h.2 c1
    refine jm_iload d_L_live_528 rfl ?_
    refine jm_bipush (v := 6) d_L_live_530 rfl (jm_okI (by decide) (by decide)) ?_
    refine jm_icmp_ge (tgt := 546) d_L_live_532 (by decide) (fun c2 => ?_) (fun c2 => ?_)
    · have h := h.1 c2
      refine jm_iinc (L' := [some (jm_R _), some (jm_R _), some (jm_I _), some (jm_R _), some (jm_I _), none, some (jm_I _), none, some (jm_I _), none, none, none]) d_L_live_546 rfl rfl (Nat.le_of_ble_eq_true rfl) rfl ?_
      refine jm_goto (tgt := 8) d_L_live_549 (by decide) ?_
      exact jm_weak2 h (And.intro rfl (And.intro rfl (And.intro rfl (And.intro rfl (And.intro rfl trivial)))))
    · have h := h.2 c2
      refine jm_aloadn d_L_live_535 rfl ?_
      refine jm_bipush (v := 36) d_L_live_536 rfl (jm_okI (by decide) (by decide)) ?_
      refine jm_iload d_L_live_538 rfl ?_
      refine jm_iadd d_L_live_540 ?_
      refine jm_iload d_L_live_541 rfl ?_
      refine jm_iconst (v := 2) d_L_live_543 rfl (jm_okI (by decide) (by decide)) ?_
      refine jm_iadd d_L_live_544 ?_
      obtain ⟨f3, h⟩ := h
      refine jm_iastore d_L_live_545 (ixl_136 f3.1 f3.2) ?_
      have h := h _ rfl
      refine jm_iinc (L' := [some (jm_R _), some (jm_R _), some (jm_I _), some (jm_R _), some (jm_I _), none, some (jm_I _), none, some (jm_I _), none, none, none]) d_L_live_546 rfl rfl (Nat.le_of_ble_eq_true rfl) rfl ?_
      refine jm_goto (tgt := 8) d_L_live_549 (by decide) ?_
      exact jm_weak2 h (And.intro rfl (And.intro rfl (And.intro rfl (And.intro rfl (And.intro rfl trivial)))))
/-! ('CombTableLaw', 'state', '([I[III)I') -/
theorem d_L_state_0 : decode m_L_state.2.1 0 = .ok (.aload_n 1, 1) := by decide +kernel
theorem d_L_state_1 : decode m_L_state.2.1 1 = .ok (.bipush 36, 2) := by decide +kernel
theorem d_L_state_3 : decode m_L_state.2.1 3 = .ok (.iload_n 2, 1) := by decide +kernel
theorem d_L_state_4 : decode m_L_state.2.1 4 = .ok (.iadd, 1) := by decide +kernel
theorem d_L_state_5 : decode m_L_state.2.1 5 = .ok (.iaload, 1) := by decide +kernel
theorem d_L_state_6 : decode m_L_state.2.1 6 = .ok (.iconst 4, 1) := by decide +kernel
theorem d_L_state_7 : decode m_L_state.2.1 7 = .ok (.if_icmp .ne 20, 3) := by decide +kernel
theorem d_L_state_10 : decode m_L_state.2.1 10 = .ok (.iload_n 3, 1) := by decide +kernel
theorem d_L_state_11 : decode m_L_state.2.1 11 = .ok (.iconst 1, 1) := by decide +kernel
theorem d_L_state_12 : decode m_L_state.2.1 12 = .ok (.isub, 1) := by decide +kernel
theorem d_L_state_13 : decode m_L_state.2.1 13 = .ok (.iload_n 2, 1) := by decide +kernel
theorem d_L_state_14 : decode m_L_state.2.1 14 = .ok (.aload_n 0, 1) := by decide +kernel
theorem d_L_state_15 : decode m_L_state.2.1 15 = .ok (.bipush 11, 2) := by decide +kernel
theorem d_L_state_17 : decode m_L_state.2.1 17 = .ok (.iaload, 1) := by decide +kernel
theorem d_L_state_18 : decode m_L_state.2.1 18 = .ok (.iadd, 1) := by decide +kernel
theorem d_L_state_19 : decode m_L_state.2.1 19 = .ok (.if_icmp .le 8, 3) := by decide +kernel
theorem d_L_state_22 : decode m_L_state.2.1 22 = .ok (.bipush 8, 2) := by decide +kernel
theorem d_L_state_24 : decode m_L_state.2.1 24 = .ok (.goto 9, 3) := by decide +kernel
theorem d_L_state_27 : decode m_L_state.2.1 27 = .ok (.aload_n 1, 1) := by decide +kernel
theorem d_L_state_28 : decode m_L_state.2.1 28 = .ok (.bipush 36, 2) := by decide +kernel
theorem d_L_state_30 : decode m_L_state.2.1 30 = .ok (.iload_n 2, 1) := by decide +kernel
theorem d_L_state_31 : decode m_L_state.2.1 31 = .ok (.iadd, 1) := by decide +kernel
theorem d_L_state_32 : decode m_L_state.2.1 32 = .ok (.iaload, 1) := by decide +kernel
theorem d_L_state_33 : decode m_L_state.2.1 33 = .ok (.ireturn, 1) := by decide +kernel
set_option maxRecDepth 20000 in
theorem e_L_state {E : jm_E} {d : Nat} {μ : jm_M} {Q : Option jm_V → jm_M → Prop} {v2 v3 : Int} (h : (∀ v ∈ ([jm_R 134, jm_R 136, jm_I v2, jm_I v3] : List jm_V), jm_ok v) →
  (0 ≤ jm_wr (36 + v2) ∧ jm_wr (36 + v2) < 56) ∧
  (((μ 136 (jm_wr (36 + v2))) ≠ 4 →
    Q (some (jm_I (μ 136 (jm_wr (36 + v2))))) μ) ∧
   (¬ ((μ 136 (jm_wr (36 + v2))) ≠ 4) →
    (((jm_wr (v3 - 1)) ≤ (jm_wr (v2 + (μ 134 11))) →
      Q (some (jm_I (μ 136 (jm_wr (36 + v2))))) μ) ∧
     (¬ ((jm_wr (v3 - 1)) ≤ (jm_wr (v2 + (μ 134 11)))) →
      Q (some (jm_I 8)) μ))))) : jc E m_L_state (d + 1) [jm_R 134, jm_R 136, jm_I v2, jm_I v3] μ Q := by
  refine jm_Cl.of2 (by decide +kernel) (L0 := [some (jm_R 134), some (jm_R 136), some (jm_I v2), some (jm_I v3)]) rfl (Nat.le_of_ble_eq_true rfl) (fun hok => ?_)
  have h := h hok
  refine jm_aloadn d_L_state_0 rfl ?_
  refine jm_bipush (v := 36) d_L_state_1 rfl (jm_okI (by decide) (by decide)) ?_
  refine jm_iloadn d_L_state_3 rfl ?_
  refine jm_iadd d_L_state_4 ?_
  obtain ⟨f1, h⟩ := h
  refine jm_iaload d_L_state_5 (ixl_136 f1.1 f1.2) ?_
  refine jm_iconst (v := 4) d_L_state_6 rfl (jm_okI (by decide) (by decide)) ?_
  refine jm_icmp_ne (tgt := 27) d_L_state_7 (by decide) (fun c2 => ?_) (fun c2 => ?_)
  · have h := h.1 c2
    refine jm_aloadn d_L_state_27 rfl ?_
    refine jm_bipush (v := 36) d_L_state_28 rfl (jm_okI (by decide) (by decide)) ?_
    refine jm_iloadn d_L_state_30 rfl ?_
    refine jm_iadd d_L_state_31 ?_
    refine jm_iaload d_L_state_32 (ixl_136 f1.1 f1.2) ?_
    exact jm_ret (o := some (jm_I _)) d_L_state_33 rfl ⟨Nat.le_refl _, Nat.le_refl _⟩ jm_r_I h rfl
  · have h := h.2 c2
    refine jm_iloadn d_L_state_10 rfl ?_
    refine jm_iconst (v := 1) d_L_state_11 rfl (jm_okI (by decide) (by decide)) ?_
    refine jm_isub d_L_state_12 ?_
    refine jm_iloadn d_L_state_13 rfl ?_
    refine jm_aloadn d_L_state_14 rfl ?_
    refine jm_bipush (v := 11) d_L_state_15 rfl (jm_okI (by decide) (by decide)) ?_
    refine jm_iaload d_L_state_17 (ixl_134 (by decide) (by decide)) ?_
    refine jm_iadd d_L_state_18 ?_
    refine jm_icmp_le (tgt := 27) d_L_state_19 (by decide) (fun c3 => ?_) (fun c3 => ?_)
    · have h := h.1 c3
      refine jm_aloadn d_L_state_27 rfl ?_
      refine jm_bipush (v := 36) d_L_state_28 rfl (jm_okI (by decide) (by decide)) ?_
      refine jm_iloadn d_L_state_30 rfl ?_
      refine jm_iadd d_L_state_31 ?_
      refine jm_iaload d_L_state_32 (ixl_136 f1.1 f1.2) ?_
      exact jm_ret (o := some (jm_I _)) d_L_state_33 rfl ⟨Nat.le_refl _, Nat.le_refl _⟩ jm_r_I h rfl
    · have h := h.2 c3
      refine jm_bipush (v := 8) d_L_state_22 rfl (jm_okI (by decide) (by decide)) ?_
      refine jm_goto (tgt := 33) d_L_state_24 (by decide) ?_
      exact jm_ret (o := some (jm_I _)) d_L_state_33 rfl ⟨Nat.le_refl _, Nat.le_refl _⟩ jm_r_I h rfl
/-! ('CombTableLaw', 'speak', '(LCombTable;[I[I[I[II)I') -/
theorem d_L_speak_0 : decode m_L_speak.2.1 0 = .ok (.iconst 0, 1) := by decide +kernel
theorem d_L_speak_1 : decode m_L_speak.2.1 1 = .ok (.istore 6, 2) := by decide +kernel
theorem d_L_speak_3 : decode m_L_speak.2.1 3 = .ok (.iconst 0, 1) := by decide +kernel
theorem d_L_speak_4 : decode m_L_speak.2.1 4 = .ok (.istore 7, 2) := by decide +kernel
theorem d_L_speak_6 : decode m_L_speak.2.1 6 = .ok (.iload 7, 2) := by decide +kernel
theorem d_L_speak_8 : decode m_L_speak.2.1 8 = .ok (.aload 4, 2) := by decide +kernel
theorem d_L_speak_10 : decode m_L_speak.2.1 10 = .ok (.arraylength, 1) := by decide +kernel
theorem d_L_speak_11 : decode m_L_speak.2.1 11 = .ok (.if_icmp .ge 170, 3) := by decide +kernel
theorem d_L_speak_14 : decode m_L_speak.2.1 14 = .ok (.iload 7, 2) := by decide +kernel
theorem d_L_speak_16 : decode m_L_speak.2.1 16 = .ok (.bipush 60, 2) := by decide +kernel
theorem d_L_speak_18 : decode m_L_speak.2.1 18 = .ok (.if_icmp .ge 163, 3) := by decide +kernel
theorem d_L_speak_21 : decode m_L_speak.2.1 21 = .ok (.iload 6, 2) := by decide +kernel
theorem d_L_speak_23 : decode m_L_speak.2.1 23 = .ok (.iload 5, 2) := by decide +kernel
theorem d_L_speak_25 : decode m_L_speak.2.1 25 = .ok (.if_icmp .ge 156, 3) := by decide +kernel
theorem d_L_speak_28 : decode m_L_speak.2.1 28 = .ok (.aload_n 2, 1) := by decide +kernel
theorem d_L_speak_29 : decode m_L_speak.2.1 29 = .ok (.iload 6, 2) := by decide +kernel
theorem d_L_speak_31 : decode m_L_speak.2.1 31 = .ok (.bipush 16, 2) := by decide +kernel
theorem d_L_speak_33 : decode m_L_speak.2.1 33 = .ok (.aload 4, 2) := by decide +kernel
theorem d_L_speak_35 : decode m_L_speak.2.1 35 = .ok (.iload 7, 2) := by decide +kernel
theorem d_L_speak_37 : decode m_L_speak.2.1 37 = .ok (.iaload, 1) := by decide +kernel
theorem d_L_speak_38 : decode m_L_speak.2.1 38 = .ok (.sipush 255, 3) := by decide +kernel
theorem d_L_speak_41 : decode m_L_speak.2.1 41 = .ok (.iand, 1) := by decide +kernel
theorem d_L_speak_42 : decode m_L_speak.2.1 42 = .ok (.aload_n 1, 1) := by decide +kernel
theorem d_L_speak_43 : decode m_L_speak.2.1 43 = .ok (.iconst 0, 1) := by decide +kernel
theorem d_L_speak_44 : decode m_L_speak.2.1 44 = .ok (.iaload, 1) := by decide +kernel
theorem d_L_speak_45 : decode m_L_speak.2.1 45 = .ok (.irem, 1) := by decide +kernel
theorem d_L_speak_46 : decode m_L_speak.2.1 46 = .ok (.imul, 1) := by decide +kernel
theorem d_L_speak_47 : decode m_L_speak.2.1 47 = .ok (.aload 4, 2) := by decide +kernel
theorem d_L_speak_49 : decode m_L_speak.2.1 49 = .ok (.iload 7, 2) := by decide +kernel
theorem d_L_speak_51 : decode m_L_speak.2.1 51 = .ok (.iaload, 1) := by decide +kernel
theorem d_L_speak_52 : decode m_L_speak.2.1 52 = .ok (.bipush 8, 2) := by decide +kernel
theorem d_L_speak_54 : decode m_L_speak.2.1 54 = .ok (.ishr, 1) := by decide +kernel
theorem d_L_speak_55 : decode m_L_speak.2.1 55 = .ok (.sipush 255, 3) := by decide +kernel
theorem d_L_speak_58 : decode m_L_speak.2.1 58 = .ok (.iand, 1) := by decide +kernel
theorem d_L_speak_59 : decode m_L_speak.2.1 59 = .ok (.bipush 7, 2) := by decide +kernel
theorem d_L_speak_61 : decode m_L_speak.2.1 61 = .ok (.irem, 1) := by decide +kernel
theorem d_L_speak_62 : decode m_L_speak.2.1 62 = .ok (.iadd, 1) := by decide +kernel
theorem d_L_speak_63 : decode m_L_speak.2.1 63 = .ok (.iastore, 1) := by decide +kernel
theorem d_L_speak_64 : decode m_L_speak.2.1 64 = .ok (.aload_n 1, 1) := by decide +kernel
theorem d_L_speak_65 : decode m_L_speak.2.1 65 = .ok (.aload_n 2, 1) := by decide +kernel
theorem d_L_speak_66 : decode m_L_speak.2.1 66 = .ok (.iload 6, 2) := by decide +kernel
theorem d_L_speak_68 : decode m_L_speak.2.1 68 = .ok (.iconst 1, 1) := by decide +kernel
theorem d_L_speak_69 : decode m_L_speak.2.1 69 = .ok (.iadd, 1) := by decide +kernel
theorem d_L_speak_70 : decode m_L_speak.2.1 70 = .ok (.aload_n 3, 1) := by decide +kernel
theorem d_L_speak_71 : decode m_L_speak.2.1 71 = .ok (.invokestatic 93, 3) := by decide +kernel
theorem d_L_speak_74 : decode m_L_speak.2.1 74 = .ok (.ifCond .ge 7, 3) := by decide +kernel
theorem d_L_speak_77 : decode m_L_speak.2.1 77 = .ok (.iconst 1, 1) := by decide +kernel
theorem d_L_speak_78 : decode m_L_speak.2.1 78 = .ok (.goto 4, 3) := by decide +kernel
theorem d_L_speak_81 : decode m_L_speak.2.1 81 = .ok (.iconst 0, 1) := by decide +kernel
theorem d_L_speak_82 : decode m_L_speak.2.1 82 = .ok (.istore 8, 2) := by decide +kernel
theorem d_L_speak_84 : decode m_L_speak.2.1 84 = .ok (.iload 8, 2) := by decide +kernel
theorem d_L_speak_86 : decode m_L_speak.2.1 86 = .ok (.ifCond .ne 20, 3) := by decide +kernel
theorem d_L_speak_89 : decode m_L_speak.2.1 89 = .ok (.aload 4, 2) := by decide +kernel
theorem d_L_speak_91 : decode m_L_speak.2.1 91 = .ok (.iload 7, 2) := by decide +kernel
theorem d_L_speak_93 : decode m_L_speak.2.1 93 = .ok (.iaload, 1) := by decide +kernel
theorem d_L_speak_94 : decode m_L_speak.2.1 94 = .ok (.bipush 16, 2) := by decide +kernel
theorem d_L_speak_96 : decode m_L_speak.2.1 96 = .ok (.ishr, 1) := by decide +kernel
theorem d_L_speak_97 : decode m_L_speak.2.1 97 = .ok (.iconst 1, 1) := by decide +kernel
theorem d_L_speak_98 : decode m_L_speak.2.1 98 = .ok (.iand, 1) := by decide +kernel
theorem d_L_speak_99 : decode m_L_speak.2.1 99 = .ok (.iconst 1, 1) := by decide +kernel
theorem d_L_speak_100 : decode m_L_speak.2.1 100 = .ok (.if_icmp .ne 6, 3) := by decide +kernel
theorem d_L_speak_103 : decode m_L_speak.2.1 103 = .ok (.goto 72, 3) := by decide +kernel
theorem d_L_speak_106 : decode m_L_speak.2.1 106 = .ok (.iload 8, 2) := by decide +kernel
theorem d_L_speak_108 : decode m_L_speak.2.1 108 = .ok (.ifCond .eq 7, 3) := by decide +kernel
theorem d_L_speak_111 : decode m_L_speak.2.1 111 = .ok (.iconst 0, 1) := by decide +kernel
theorem d_L_speak_112 : decode m_L_speak.2.1 112 = .ok (.goto 7, 3) := by decide +kernel
theorem d_L_speak_115 : decode m_L_speak.2.1 115 = .ok (.aload_n 3, 1) := by decide +kernel
theorem d_L_speak_116 : decode m_L_speak.2.1 116 = .ok (.bipush 48, 2) := by decide +kernel
theorem d_L_speak_118 : decode m_L_speak.2.1 118 = .ok (.iaload, 1) := by decide +kernel
theorem d_L_speak_119 : decode m_L_speak.2.1 119 = .ok (.istore 9, 2) := by decide +kernel
theorem d_L_speak_121 : decode m_L_speak.2.1 121 = .ok (.aload_n 0, 1) := by decide +kernel
theorem d_L_speak_122 : decode m_L_speak.2.1 122 = .ok (.aload_n 2, 1) := by decide +kernel
theorem d_L_speak_123 : decode m_L_speak.2.1 123 = .ok (.iload 6, 2) := by decide +kernel
theorem d_L_speak_125 : decode m_L_speak.2.1 125 = .ok (.iaload, 1) := by decide +kernel
theorem d_L_speak_126 : decode m_L_speak.2.1 126 = .ok (.iconst 4, 1) := by decide +kernel
theorem d_L_speak_127 : decode m_L_speak.2.1 127 = .ok (.ishr, 1) := by decide +kernel
theorem d_L_speak_128 : decode m_L_speak.2.1 128 = .ok (.aload_n 2, 1) := by decide +kernel
theorem d_L_speak_129 : decode m_L_speak.2.1 129 = .ok (.iload 6, 2) := by decide +kernel
theorem d_L_speak_131 : decode m_L_speak.2.1 131 = .ok (.iaload, 1) := by decide +kernel
theorem d_L_speak_132 : decode m_L_speak.2.1 132 = .ok (.bipush 15, 2) := by decide +kernel
theorem d_L_speak_134 : decode m_L_speak.2.1 134 = .ok (.iand, 1) := by decide +kernel
theorem d_L_speak_135 : decode m_L_speak.2.1 135 = .ok (.invokevirtual 97, 3) := by decide +kernel
theorem d_L_speak_138 : decode m_L_speak.2.1 138 = .ok (.iload 9, 2) := by decide +kernel
theorem d_L_speak_140 : decode m_L_speak.2.1 140 = .ok (.if_icmp .ne 25, 3) := by decide +kernel
theorem d_L_speak_143 : decode m_L_speak.2.1 143 = .ok (.aload_n 0, 1) := by decide +kernel
theorem d_L_speak_144 : decode m_L_speak.2.1 144 = .ok (.aload_n 2, 1) := by decide +kernel
theorem d_L_speak_145 : decode m_L_speak.2.1 145 = .ok (.iload 6, 2) := by decide +kernel
theorem d_L_speak_147 : decode m_L_speak.2.1 147 = .ok (.iaload, 1) := by decide +kernel
theorem d_L_speak_148 : decode m_L_speak.2.1 148 = .ok (.iconst 4, 1) := by decide +kernel
theorem d_L_speak_149 : decode m_L_speak.2.1 149 = .ok (.ishr, 1) := by decide +kernel
theorem d_L_speak_150 : decode m_L_speak.2.1 150 = .ok (.aload_n 2, 1) := by decide +kernel
theorem d_L_speak_151 : decode m_L_speak.2.1 151 = .ok (.iload 6, 2) := by decide +kernel
theorem d_L_speak_153 : decode m_L_speak.2.1 153 = .ok (.iaload, 1) := by decide +kernel
theorem d_L_speak_154 : decode m_L_speak.2.1 154 = .ok (.bipush 15, 2) := by decide +kernel
theorem d_L_speak_156 : decode m_L_speak.2.1 156 = .ok (.iand, 1) := by decide +kernel
theorem d_L_speak_157 : decode m_L_speak.2.1 157 = .ok (.invokevirtual 101, 3) := by decide +kernel
theorem d_L_speak_160 : decode m_L_speak.2.1 160 = .ok (.iload 9, 2) := by decide +kernel
theorem d_L_speak_162 : decode m_L_speak.2.1 162 = .ok (.if_icmp .eq 5, 3) := by decide +kernel
theorem d_L_speak_165 : decode m_L_speak.2.1 165 = .ok (.iconst (-1), 1) := by decide +kernel
theorem d_L_speak_166 : decode m_L_speak.2.1 166 = .ok (.ireturn, 1) := by decide +kernel
theorem d_L_speak_167 : decode m_L_speak.2.1 167 = .ok (.iload 8, 2) := by decide +kernel
theorem d_L_speak_169 : decode m_L_speak.2.1 169 = .ok (.ifCond .eq 6, 3) := by decide +kernel
theorem d_L_speak_172 : decode m_L_speak.2.1 172 = .ok (.iinc 6 1, 3) := by decide +kernel
theorem d_L_speak_175 : decode m_L_speak.2.1 175 = .ok (.iinc 7 1, 3) := by decide +kernel
theorem d_L_speak_178 : decode m_L_speak.2.1 178 = .ok (.goto (-172), 3) := by decide +kernel
theorem d_L_speak_181 : decode m_L_speak.2.1 181 = .ok (.aload_n 1, 1) := by decide +kernel
theorem d_L_speak_182 : decode m_L_speak.2.1 182 = .ok (.aload_n 2, 1) := by decide +kernel
theorem d_L_speak_183 : decode m_L_speak.2.1 183 = .ok (.iload 6, 2) := by decide +kernel
theorem d_L_speak_185 : decode m_L_speak.2.1 185 = .ok (.aload_n 3, 1) := by decide +kernel
theorem d_L_speak_186 : decode m_L_speak.2.1 186 = .ok (.invokestatic 93, 3) := by decide +kernel
theorem d_L_speak_189 : decode m_L_speak.2.1 189 = .ok (.ifCond .ge 19, 3) := by decide +kernel
theorem d_L_speak_192 : decode m_L_speak.2.1 192 = .ok (.aload_n 0, 1) := by decide +kernel
theorem d_L_speak_193 : decode m_L_speak.2.1 193 = .ok (.bipush 6, 2) := by decide +kernel
theorem d_L_speak_195 : decode m_L_speak.2.1 195 = .ok (.invokevirtual 90, 3) := by decide +kernel
theorem d_L_speak_198 : decode m_L_speak.2.1 198 = .ok (.iload 6, 2) := by decide +kernel
theorem d_L_speak_200 : decode m_L_speak.2.1 200 = .ok (.if_icmp .ne 8, 3) := by decide +kernel
theorem d_L_speak_203 : decode m_L_speak.2.1 203 = .ok (.iload 6, 2) := by decide +kernel
theorem d_L_speak_205 : decode m_L_speak.2.1 205 = .ok (.goto 4, 3) := by decide +kernel
theorem d_L_speak_208 : decode m_L_speak.2.1 208 = .ok (.iconst (-1), 1) := by decide +kernel
theorem d_L_speak_209 : decode m_L_speak.2.1 209 = .ok (.ireturn, 1) := by decide +kernel
set_option maxRecDepth 20000 in
theorem e_L_speak {E : jm_E} {d : Nat} {μ : jm_M} {Q : Option jm_V → jm_M → Prop} {v5 : Int} (h : (∀ v ∈ ([jm_R 0, jm_R 134, jm_R 135, jm_R 136, jm_R ((jm_xp E : Int)), jm_I v5] : List jm_V), jm_ok v) →
  jg E m_L_speak d 6 [some (jm_R 0), some (jm_R 134), some (jm_R 135), some (jm_R 136), some (jm_R ((jm_xp E : Int))), some (jm_I v5), some (jm_I 0), some (jm_I 0), none, none] [] μ Q) : jc E m_L_speak (d + 1) [jm_R 0, jm_R 134, jm_R 135, jm_R 136, jm_R ((jm_xp E : Int)), jm_I v5] μ Q := by
  refine jm_Cl.of2 (by decide +kernel) (L0 := [some (jm_R 0), some (jm_R 134), some (jm_R 135), some (jm_R 136), some (jm_R ((jm_xp E : Int))), some (jm_I v5), none, none, none, none]) rfl (Nat.le_of_ble_eq_true rfl) (fun hok => ?_)
  have h := h hok
  refine jm_iconst (v := 0) d_L_speak_0 rfl (jm_okI (by decide) (by decide)) ?_
  refine jm_istore (L' := [some (jm_R _), some (jm_R _), some (jm_R _), some (jm_R _), some (jm_R _), some (jm_I _), some (jm_I _), none, none, none]) d_L_speak_1 (Nat.le_of_ble_eq_true rfl) rfl ?_
  refine jm_iconst (v := 0) d_L_speak_3 rfl (jm_okI (by decide) (by decide)) ?_
  refine jm_istore (L' := [some (jm_R _), some (jm_R _), some (jm_R _), some (jm_R _), some (jm_R _), some (jm_I _), some (jm_I _), some (jm_I _), none, none]) d_L_speak_4 (Nat.le_of_ble_eq_true rfl) rfl ?_
  exact h
set_option maxRecDepth 20000 in
theorem r_L_speak_6 {E : jm_E} {d : Nat} {μ : jm_M} {Q : Option jm_V → jm_M → Prop} {v5 v6 v7 : Int} (h :
  (jm_xp E ≠ 0) ∧
  ((60 ≤ v7 →
    jg E m_L_speak d 181 [some (jm_R 0), some (jm_R 134), some (jm_R 135), some (jm_R 136), none, none, some (jm_I v6), none, none, none] [] μ Q) ∧
   (¬ (60 ≤ v7) →
    ((v5 ≤ v6 →
      jg E m_L_speak d 181 [some (jm_R 0), some (jm_R 134), some (jm_R 135), some (jm_R 136), none, none, some (jm_I v6), none, none, none] [] μ Q) ∧
     (¬ (v5 ≤ v6) →
      (0 ≤ v7 ∧ v7 < 60) ∧
      ∀ x6 : Int, jm_ok (jm_I x6) →
      ((μ 134 0) ≠ 0) ∧
      ∀ x8 : Int, jm_ok (jm_I x8) →
      (0 ≤ v6 ∧ v6 < 16) ∧
      ∀ m10 : jm_M, m10 = (jm_up μ 135 v6 (jm_wr ((jm_wr (16 * (jm_rem (jm_and x6 255) (μ 134 0)))) + (jm_rem (jm_and (jm_shr x8 8) 255) 7)))) →
      jc E m_L_live d [jm_R 134, jm_R 135, jm_I (jm_wr (v6 + 1)), jm_R 136] m10 (fun (o : Option jm_V) (m11 : jm_M) => ∀ r12 : Int, o = some (jm_I r12) →
      ((0 ≤ r12 →
        ∀ x15 : Int, jm_ok (jm_I x15) →
        (((jm_and (jm_shr x15 16) 1) ≠ 1 →
          jg E m_L_speak d 106 [some (jm_R 0), some (jm_R 134), some (jm_R 135), some (jm_R 136), some (jm_R ((jm_xp E : Int))), some (jm_I v5), some (jm_I v6), some (jm_I v7), some (jm_I 0), none] [] m11 Q) ∧
         (¬ ((jm_and (jm_shr x15 16) 1) ≠ 1) →
          jg E m_L_speak d 6 [some (jm_R 0), some (jm_R 134), some (jm_R 135), some (jm_R 136), some (jm_R ((jm_xp E : Int))), some (jm_I v5), some (jm_I v6), some (jm_I (jm_wr (v7 + 1))), none, none] [] m11 Q))) ∧
       (¬ (0 ≤ r12) →
        jg E m_L_speak d 106 [some (jm_R 0), some (jm_R 134), some (jm_R 135), some (jm_R 136), some (jm_R ((jm_xp E : Int))), some (jm_I v5), some (jm_I v6), some (jm_I v7), some (jm_I 1), none] [] m11 Q)))))))) : jg E m_L_speak d 6 [some (jm_R 0), some (jm_R 134), some (jm_R 135), some (jm_R 136), some (jm_R ((jm_xp E : Int))), some (jm_I v5), some (jm_I v6), some (jm_I v7), none, none] [] μ Q := by
  refine jm_iload d_L_speak_6 rfl ?_
  refine jm_aload d_L_speak_8 rfl ?_
  obtain ⟨f1, h⟩ := h
  refine jm_xlen d_L_speak_10 f1 ?_
  refine jm_icmp_ge (tgt := 181) d_L_speak_11 (by decide) (fun c2 => ?_) (fun c2 => ?_)
  · have h := h.1 c2
    exact jm_weak2 h (And.intro rfl (And.intro rfl (And.intro rfl (And.intro rfl (And.intro rfl trivial)))))
  · have h := h.2 c2
    refine jm_iload d_L_speak_14 rfl ?_
    refine jm_bipush (v := 60) d_L_speak_16 rfl (jm_okI (by decide) (by decide)) ?_
    refine jm_icmp_ge (tgt := 181) d_L_speak_18 (by decide) (fun c3 => absurd c3 c2) (fun _ => ?_)
    refine jm_iload d_L_speak_21 rfl ?_
    refine jm_iload d_L_speak_23 rfl ?_
    refine jm_icmp_ge (tgt := 181) d_L_speak_25 (by decide) (fun c4 => ?_) (fun c4 => ?_)
    · have h := h.1 c4
      exact jm_weak2 h (And.intro rfl (And.intro rfl (And.intro rfl (And.intro rfl (And.intro rfl trivial)))))
    · have h := h.2 c4
      refine jm_aloadn d_L_speak_28 rfl ?_
      refine jm_iload d_L_speak_29 rfl ?_
      refine jm_bipush (v := 16) d_L_speak_31 rfl (jm_okI (by decide) (by decide)) ?_
      refine jm_aload d_L_speak_33 rfl ?_
      refine jm_iload d_L_speak_35 rfl ?_
      obtain ⟨f5, h⟩ := h
      refine jm_xload d_L_speak_37 f1 f5 (fun x6 hxx6 => ?_)
      have h := h x6 hxx6
      refine jm_sipush (v := 255) d_L_speak_38 rfl (jm_okI (by decide) (by decide)) ?_
      refine jm_iand d_L_speak_41 ?_
      refine jm_aloadn d_L_speak_42 rfl ?_
      refine jm_iconst (v := 0) d_L_speak_43 rfl (jm_okI (by decide) (by decide)) ?_
      refine jm_iaload d_L_speak_44 (ixl_134 (by decide) (by decide)) ?_
      obtain ⟨f7, h⟩ := h
      refine jm_irem d_L_speak_45 f7 ?_
      refine jm_imul d_L_speak_46 ?_
      refine jm_aload d_L_speak_47 rfl ?_
      refine jm_iload d_L_speak_49 rfl ?_
      refine jm_xload d_L_speak_51 f1 f5 (fun x8 hxx8 => ?_)
      have h := h x8 hxx8
      refine jm_bipush (v := 8) d_L_speak_52 rfl (jm_okI (by decide) (by decide)) ?_
      refine jm_ishr d_L_speak_54 ?_
      refine jm_sipush (v := 255) d_L_speak_55 rfl (jm_okI (by decide) (by decide)) ?_
      refine jm_iand d_L_speak_58 ?_
      refine jm_bipush (v := 7) d_L_speak_59 rfl (jm_okI (by decide) (by decide)) ?_
      refine jm_irem d_L_speak_61 (by decide) ?_
      refine jm_iadd d_L_speak_62 ?_
      obtain ⟨f9, h⟩ := h
      refine jm_iastore d_L_speak_63 (ixl_135 f9.1 f9.2) ?_
      have h := h _ rfl
      refine jm_aloadn d_L_speak_64 rfl ?_
      refine jm_aloadn d_L_speak_65 rfl ?_
      refine jm_iload d_L_speak_66 rfl ?_
      refine jm_iconst (v := 1) d_L_speak_68 rfl (jm_okI (by decide) (by decide)) ?_
      refine jm_iadd d_L_speak_69 ?_
      refine jm_aloadn d_L_speak_70 rfl ?_
      refine jm_invS (n1 := jm_N) (mc := 0) (ms := 0) (av := [jm_R _, jm_R _, jm_I _, jm_R _]) w_L_live l_L_93 d_L_speak_71 rfl ⟨Nat.le_refl _, Nat.le_refl _⟩ (Nat.le_of_ble_eq_true rfl) rfl ?_
      refine jm_Cl.mono h (fun o m11 h hr _ => ?_)
      obtain ⟨r12, rfl⟩ := jm_rokI hr
      have h := h _ rfl
      refine jm_if_ge (tgt := 81) d_L_speak_74 (by decide) (fun c13 => ?_) (fun c13 => ?_)
      · have h := h.1 c13
        refine jm_iconst (v := 0) d_L_speak_81 rfl (jm_okI (by decide) (by decide)) ?_
        refine jm_istore (L' := [some (jm_R _), some (jm_R _), some (jm_R _), some (jm_R _), some (jm_R _), some (jm_I _), some (jm_I _), some (jm_I _), some (jm_I _), none]) d_L_speak_82 (Nat.le_of_ble_eq_true rfl) rfl ?_
        refine jm_iload d_L_speak_84 rfl ?_
        refine jm_if_ne (tgt := 106) d_L_speak_86 (by decide) (fun c14 => absurd c14 (by decide)) (fun _ => ?_)
        refine jm_aload d_L_speak_89 rfl ?_
        refine jm_iload d_L_speak_91 rfl ?_
        refine jm_xload d_L_speak_93 f1 f5 (fun x15 hxx15 => ?_)
        have h := h x15 hxx15
        refine jm_bipush (v := 16) d_L_speak_94 rfl (jm_okI (by decide) (by decide)) ?_
        refine jm_ishr d_L_speak_96 ?_
        refine jm_iconst (v := 1) d_L_speak_97 rfl (jm_okI (by decide) (by decide)) ?_
        refine jm_iand d_L_speak_98 ?_
        refine jm_iconst (v := 1) d_L_speak_99 rfl (jm_okI (by decide) (by decide)) ?_
        refine jm_icmp_ne (tgt := 106) d_L_speak_100 (by decide) (fun c16 => ?_) (fun c16 => ?_)
        · have h := h.1 c16
          exact h
        · have h := h.2 c16
          refine jm_goto (tgt := 175) d_L_speak_103 (by decide) ?_
          refine jm_iinc (L' := [some (jm_R _), some (jm_R _), some (jm_R _), some (jm_R _), some (jm_R _), some (jm_I _), some (jm_I _), some (jm_I _), some (jm_I _), none]) d_L_speak_175 rfl rfl (Nat.le_of_ble_eq_true rfl) rfl ?_
          refine jm_goto (tgt := 6) d_L_speak_178 (by decide) ?_
          exact jm_weak2 h (And.intro rfl (And.intro rfl (And.intro rfl (And.intro rfl (And.intro rfl (And.intro rfl (And.intro rfl (And.intro rfl trivial))))))))
      · have h := h.2 c13
        refine jm_iconst (v := 1) d_L_speak_77 rfl (jm_okI (by decide) (by decide)) ?_
        refine jm_goto (tgt := 82) d_L_speak_78 (by decide) ?_
        refine jm_istore (L' := [some (jm_R _), some (jm_R _), some (jm_R _), some (jm_R _), some (jm_R _), some (jm_I _), some (jm_I _), some (jm_I _), some (jm_I _), none]) d_L_speak_82 (Nat.le_of_ble_eq_true rfl) rfl ?_
        refine jm_iload d_L_speak_84 rfl ?_
        refine jm_if_ne (tgt := 106) d_L_speak_86 (by decide) (fun _ => ?_) (fun c17 => absurd (by decide) c17)
        exact h
set_option maxRecDepth 20000 in
theorem r_L_speak_106 {E : jm_E} {d : Nat} {μ : jm_M} {Q : Option jm_V → jm_M → Prop} {v5 v6 v7 v8 : Int} (h :
  ((v8 = 0 →
    ∀ x2 : Int, x2 = μ 136 48 →
    (0 ≤ v6 ∧ v6 < 16) ∧
    jc E m_X10_wrong d [jm_R 0, jm_I (jm_shr (μ 135 v6) 4), jm_I (jm_and (μ 135 v6) 15)] μ (fun (o : Option jm_V) (m4 : jm_M) => ∀ r5 : Int, o = some (jm_I r5) →
    ((r5 ≠ x2 →
      Q (some (jm_I ((-1)))) m4) ∧
     (¬ (r5 ≠ x2) →
      jc E m_X10_say d [jm_R 0, jm_I (jm_shr (m4 135 v6) 4), jm_I (jm_and (m4 135 v6) 15)] m4 (fun (o : Option jm_V) (m7 : jm_M) => ∀ r8 : Int, o = some (jm_I r8) →
      ((r8 = x2 →
        jg E m_L_speak d 6 [some (jm_R 0), some (jm_R 134), some (jm_R 135), some (jm_R 136), some (jm_R ((jm_xp E : Int))), some (jm_I v5), some (jm_I v6), some (jm_I (jm_wr (v7 + 1))), none, none] [] m7 Q) ∧
       (¬ (r8 = x2) →
        Q (some (jm_I ((-1)))) m7))))))) ∧
   (¬ (v8 = 0) →
    (0 ≤ v6 ∧ v6 < 16) ∧
    jc E m_X10_wrong d [jm_R 0, jm_I (jm_shr (μ 135 v6) 4), jm_I (jm_and (μ 135 v6) 15)] μ (fun (o : Option jm_V) (m12 : jm_M) => ∀ r13 : Int, o = some (jm_I r13) →
    ((r13 ≠ 0 →
      Q (some (jm_I ((-1)))) m12) ∧
     (¬ (r13 ≠ 0) →
      jc E m_X10_say d [jm_R 0, jm_I (jm_shr (m12 135 v6) 4), jm_I (jm_and (m12 135 v6) 15)] m12 (fun (o : Option jm_V) (m15 : jm_M) => ∀ r16 : Int, o = some (jm_I r16) →
      ((r16 = 0 →
        jg E m_L_speak d 6 [some (jm_R 0), some (jm_R 134), some (jm_R 135), some (jm_R 136), some (jm_R ((jm_xp E : Int))), some (jm_I v5), some (jm_I (jm_wr (v6 + 1))), some (jm_I (jm_wr (v7 + 1))), none, none] [] m15 Q) ∧
       (¬ (r16 = 0) →
        Q (some (jm_I ((-1)))) m15))))))))) : jg E m_L_speak d 106 [some (jm_R 0), some (jm_R 134), some (jm_R 135), some (jm_R 136), some (jm_R ((jm_xp E : Int))), some (jm_I v5), some (jm_I v6), some (jm_I v7), some (jm_I v8), none] [] μ Q := by
  refine jm_iload d_L_speak_106 rfl ?_
  refine jm_if_eq (tgt := 115) d_L_speak_108 (by decide) (fun c1 => ?_) (fun c1 => ?_)
  · have h := h.1 c1
    refine jm_aloadn d_L_speak_115 rfl ?_
    refine jm_bipush (v := 48) d_L_speak_116 rfl (jm_okI (by decide) (by decide)) ?_
    refine jm_iaload d_L_speak_118 (ixl_136 (by decide) (by decide)) ?_
    have h := h _ rfl
    refine jm_istore (L' := [some (jm_R _), some (jm_R _), some (jm_R _), some (jm_R _), some (jm_R _), some (jm_I _), some (jm_I _), some (jm_I _), some (jm_I _), some (jm_I _)]) d_L_speak_119 (Nat.le_of_ble_eq_true rfl) rfl ?_
    refine jm_aloadn d_L_speak_121 rfl ?_
    refine jm_aloadn d_L_speak_122 rfl ?_
    refine jm_iload d_L_speak_123 rfl ?_
    obtain ⟨f3, h⟩ := h
    refine jm_iaload d_L_speak_125 (ixl_135 f3.1 f3.2) ?_
    refine jm_iconst (v := 4) d_L_speak_126 rfl (jm_okI (by decide) (by decide)) ?_
    refine jm_ishr d_L_speak_127 ?_
    refine jm_aloadn d_L_speak_128 rfl ?_
    refine jm_iload d_L_speak_129 rfl ?_
    refine jm_iaload d_L_speak_131 (ixl_135 f3.1 f3.2) ?_
    refine jm_bipush (v := 15) d_L_speak_132 rfl (jm_okI (by decide) (by decide)) ?_
    refine jm_iand d_L_speak_134 ?_
    refine jm_invV (n1 := jm_N) (mc := 0) (ms := 0) (av := [jm_I _, jm_I _]) w_X10_wrong l_L_97 d_L_speak_135 rfl is_0 ⟨_, _, rfl⟩ ⟨Nat.le_refl _, Nat.le_refl _⟩ (Nat.le_of_ble_eq_true rfl) rfl ?_
    refine jm_Cl.mono h (fun o m4 h hr _ => ?_)
    obtain ⟨r5, rfl⟩ := jm_rokI hr
    have h := h _ rfl
    refine jm_iload d_L_speak_138 rfl ?_
    refine jm_icmp_ne (tgt := 165) d_L_speak_140 (by decide) (fun c6 => ?_) (fun c6 => ?_)
    · have h := h.1 c6
      refine jm_iconst (v := (-1)) d_L_speak_165 rfl (jm_okI (by decide) (by decide)) ?_
      exact jm_ret (o := some (jm_I _)) d_L_speak_166 rfl ⟨Nat.le_refl _, Nat.le_refl _⟩ jm_r_I h rfl
    · have h := h.2 c6
      refine jm_aloadn d_L_speak_143 rfl ?_
      refine jm_aloadn d_L_speak_144 rfl ?_
      refine jm_iload d_L_speak_145 rfl ?_
      refine jm_iaload d_L_speak_147 (ixl_135 f3.1 f3.2) ?_
      refine jm_iconst (v := 4) d_L_speak_148 rfl (jm_okI (by decide) (by decide)) ?_
      refine jm_ishr d_L_speak_149 ?_
      refine jm_aloadn d_L_speak_150 rfl ?_
      refine jm_iload d_L_speak_151 rfl ?_
      refine jm_iaload d_L_speak_153 (ixl_135 f3.1 f3.2) ?_
      refine jm_bipush (v := 15) d_L_speak_154 rfl (jm_okI (by decide) (by decide)) ?_
      refine jm_iand d_L_speak_156 ?_
      refine jm_invV (n1 := jm_N) (mc := 0) (ms := 0) (av := [jm_I _, jm_I _]) w_X10_say l_L_101 d_L_speak_157 rfl is_0 ⟨_, _, rfl⟩ ⟨Nat.le_refl _, Nat.le_refl _⟩ (Nat.le_of_ble_eq_true rfl) rfl ?_
      refine jm_Cl.mono h (fun o m7 h hr _ => ?_)
      obtain ⟨r8, rfl⟩ := jm_rokI hr
      have h := h _ rfl
      refine jm_iload d_L_speak_160 rfl ?_
      refine jm_icmp_eq (tgt := 167) d_L_speak_162 (by decide) (fun c9 => ?_) (fun c9 => ?_)
      · have h := h.1 c9
        refine jm_iload d_L_speak_167 rfl ?_
        refine jm_if_eq (tgt := 175) d_L_speak_169 (by decide) (fun _ => ?_) (fun c10 => absurd c1 c10)
        refine jm_iinc (L' := [some (jm_R _), some (jm_R _), some (jm_R _), some (jm_R _), some (jm_R _), some (jm_I _), some (jm_I _), some (jm_I _), some (jm_I _), some (jm_I _)]) d_L_speak_175 rfl rfl (Nat.le_of_ble_eq_true rfl) rfl ?_
        refine jm_goto (tgt := 6) d_L_speak_178 (by decide) ?_
        exact jm_weak2 h (And.intro rfl (And.intro rfl (And.intro rfl (And.intro rfl (And.intro rfl (And.intro rfl (And.intro rfl (And.intro rfl trivial))))))))
      · have h := h.2 c9
        refine jm_iconst (v := (-1)) d_L_speak_165 rfl (jm_okI (by decide) (by decide)) ?_
        exact jm_ret (o := some (jm_I _)) d_L_speak_166 rfl ⟨Nat.le_refl _, Nat.le_refl _⟩ jm_r_I h rfl
  · have h := h.2 c1
    refine jm_iconst (v := 0) d_L_speak_111 rfl (jm_okI (by decide) (by decide)) ?_
    refine jm_goto (tgt := 119) d_L_speak_112 (by decide) ?_
    refine jm_istore (L' := [some (jm_R _), some (jm_R _), some (jm_R _), some (jm_R _), some (jm_R _), some (jm_I _), some (jm_I _), some (jm_I _), some (jm_I _), some (jm_I _)]) d_L_speak_119 (Nat.le_of_ble_eq_true rfl) rfl ?_
    refine jm_aloadn d_L_speak_121 rfl ?_
    refine jm_aloadn d_L_speak_122 rfl ?_
    refine jm_iload d_L_speak_123 rfl ?_
    obtain ⟨f11, h⟩ := h
    refine jm_iaload d_L_speak_125 (ixl_135 f11.1 f11.2) ?_
    refine jm_iconst (v := 4) d_L_speak_126 rfl (jm_okI (by decide) (by decide)) ?_
    refine jm_ishr d_L_speak_127 ?_
    refine jm_aloadn d_L_speak_128 rfl ?_
    refine jm_iload d_L_speak_129 rfl ?_
    refine jm_iaload d_L_speak_131 (ixl_135 f11.1 f11.2) ?_
    refine jm_bipush (v := 15) d_L_speak_132 rfl (jm_okI (by decide) (by decide)) ?_
    refine jm_iand d_L_speak_134 ?_
    refine jm_invV (n1 := jm_N) (mc := 0) (ms := 0) (av := [jm_I _, jm_I _]) w_X10_wrong l_L_97 d_L_speak_135 rfl is_0 ⟨_, _, rfl⟩ ⟨Nat.le_refl _, Nat.le_refl _⟩ (Nat.le_of_ble_eq_true rfl) rfl ?_
    refine jm_Cl.mono h (fun o m12 h hr _ => ?_)
    obtain ⟨r13, rfl⟩ := jm_rokI hr
    have h := h _ rfl
    refine jm_iload d_L_speak_138 rfl ?_
    refine jm_icmp_ne (tgt := 165) d_L_speak_140 (by decide) (fun c14 => ?_) (fun c14 => ?_)
    · have h := h.1 c14
      refine jm_iconst (v := (-1)) d_L_speak_165 rfl (jm_okI (by decide) (by decide)) ?_
      exact jm_ret (o := some (jm_I _)) d_L_speak_166 rfl ⟨Nat.le_refl _, Nat.le_refl _⟩ jm_r_I h rfl
    · have h := h.2 c14
      refine jm_aloadn d_L_speak_143 rfl ?_
      refine jm_aloadn d_L_speak_144 rfl ?_
      refine jm_iload d_L_speak_145 rfl ?_
      refine jm_iaload d_L_speak_147 (ixl_135 f11.1 f11.2) ?_
      refine jm_iconst (v := 4) d_L_speak_148 rfl (jm_okI (by decide) (by decide)) ?_
      refine jm_ishr d_L_speak_149 ?_
      refine jm_aloadn d_L_speak_150 rfl ?_
      refine jm_iload d_L_speak_151 rfl ?_
      refine jm_iaload d_L_speak_153 (ixl_135 f11.1 f11.2) ?_
      refine jm_bipush (v := 15) d_L_speak_154 rfl (jm_okI (by decide) (by decide)) ?_
      refine jm_iand d_L_speak_156 ?_
      refine jm_invV (n1 := jm_N) (mc := 0) (ms := 0) (av := [jm_I _, jm_I _]) w_X10_say l_L_101 d_L_speak_157 rfl is_0 ⟨_, _, rfl⟩ ⟨Nat.le_refl _, Nat.le_refl _⟩ (Nat.le_of_ble_eq_true rfl) rfl ?_
      refine jm_Cl.mono h (fun o m15 h hr _ => ?_)
      obtain ⟨r16, rfl⟩ := jm_rokI hr
      have h := h _ rfl
      refine jm_iload d_L_speak_160 rfl ?_
      refine jm_icmp_eq (tgt := 167) d_L_speak_162 (by decide) (fun c17 => ?_) (fun c17 => ?_)
      · have h := h.1 c17
        refine jm_iload d_L_speak_167 rfl ?_
        refine jm_if_eq (tgt := 175) d_L_speak_169 (by decide) (fun c18 => absurd c18 c1) (fun _ => ?_)
        refine jm_iinc (L' := [some (jm_R _), some (jm_R _), some (jm_R _), some (jm_R _), some (jm_R _), some (jm_I _), some (jm_I _), some (jm_I _), some (jm_I _), some (jm_I _)]) d_L_speak_172 rfl rfl (Nat.le_of_ble_eq_true rfl) rfl ?_
        refine jm_iinc (L' := [some (jm_R _), some (jm_R _), some (jm_R _), some (jm_R _), some (jm_R _), some (jm_I _), some (jm_I _), some (jm_I _), some (jm_I _), some (jm_I _)]) d_L_speak_175 rfl rfl (Nat.le_of_ble_eq_true rfl) rfl ?_
        refine jm_goto (tgt := 6) d_L_speak_178 (by decide) ?_
        exact jm_weak2 h (And.intro rfl (And.intro rfl (And.intro rfl (And.intro rfl (And.intro rfl (And.intro rfl (And.intro rfl (And.intro rfl trivial))))))))
      · have h := h.2 c17
        refine jm_iconst (v := (-1)) d_L_speak_165 rfl (jm_okI (by decide) (by decide)) ?_
        exact jm_ret (o := some (jm_I _)) d_L_speak_166 rfl ⟨Nat.le_refl _, Nat.le_refl _⟩ jm_r_I h rfl
set_option maxRecDepth 20000 in
theorem r_L_speak_181 {E : jm_E} {d : Nat} {μ : jm_M} {Q : Option jm_V → jm_M → Prop} {v6 : Int} (h :
  jc E m_L_live d [jm_R 134, jm_R 135, jm_I v6, jm_R 136] μ (fun (o : Option jm_V) (m1 : jm_M) => ∀ r2 : Int, o = some (jm_I r2) →
  ((0 ≤ r2 →
    Q (some (jm_I ((-1)))) m1) ∧
   (¬ (0 ≤ r2) →
    jc E m_X10_count d [jm_R 0, jm_I 6] m1 (fun (o : Option jm_V) (m4 : jm_M) => ∀ r5 : Int, o = some (jm_I r5) →
    ((r5 ≠ v6 →
      Q (some (jm_I ((-1)))) m4) ∧
     (¬ (r5 ≠ v6) →
      Q (some (jm_I v6)) m4))))))) : jg E m_L_speak d 181 [some (jm_R 0), some (jm_R 134), some (jm_R 135), some (jm_R 136), none, none, some (jm_I v6), none, none, none] [] μ Q := by
  refine jm_aloadn d_L_speak_181 rfl ?_
  refine jm_aloadn d_L_speak_182 rfl ?_
  refine jm_iload d_L_speak_183 rfl ?_
  refine jm_aloadn d_L_speak_185 rfl ?_
  refine jm_invS (n1 := jm_N) (mc := 0) (ms := 0) (av := [jm_R _, jm_R _, jm_I _, jm_R _]) w_L_live l_L_93 d_L_speak_186 rfl ⟨Nat.le_refl _, Nat.le_refl _⟩ (Nat.le_of_ble_eq_true rfl) rfl ?_
  refine jm_Cl.mono h (fun o m1 h hr _ => ?_)
  obtain ⟨r2, rfl⟩ := jm_rokI hr
  have h := h _ rfl
  refine jm_if_ge (tgt := 208) d_L_speak_189 (by decide) (fun c3 => ?_) (fun c3 => ?_)
  · have h := h.1 c3
    refine jm_iconst (v := (-1)) d_L_speak_208 rfl (jm_okI (by decide) (by decide)) ?_
    exact jm_ret (o := some (jm_I _)) d_L_speak_209 rfl ⟨Nat.le_refl _, Nat.le_refl _⟩ jm_r_I h rfl
  · have h := h.2 c3
    refine jm_aloadn d_L_speak_192 rfl ?_
    refine jm_bipush (v := 6) d_L_speak_193 rfl (jm_okI (by decide) (by decide)) ?_
    refine jm_invV (n1 := jm_N) (mc := 0) (ms := 0) (av := [jm_I _]) w_X10_count l_L_90 d_L_speak_195 rfl is_0 ⟨_, _, rfl⟩ ⟨Nat.le_refl _, Nat.le_refl _⟩ (Nat.le_of_ble_eq_true rfl) rfl ?_
    refine jm_Cl.mono h (fun o m4 h hr _ => ?_)
    obtain ⟨r5, rfl⟩ := jm_rokI hr
    have h := h _ rfl
    refine jm_iload d_L_speak_198 rfl ?_
    refine jm_icmp_ne (tgt := 208) d_L_speak_200 (by decide) (fun c6 => ?_) (fun c6 => ?_)
    · have h := h.1 c6
      refine jm_iconst (v := (-1)) d_L_speak_208 rfl (jm_okI (by decide) (by decide)) ?_
      exact jm_ret (o := some (jm_I _)) d_L_speak_209 rfl ⟨Nat.le_refl _, Nat.le_refl _⟩ jm_r_I h rfl
    · have h := h.2 c6
      refine jm_iload d_L_speak_203 rfl ?_
      refine jm_goto (tgt := 209) d_L_speak_205 (by decide) ?_
      exact jm_ret (o := some (jm_I _)) d_L_speak_209 rfl ⟨Nat.le_refl _, Nat.le_refl _⟩ jm_r_I h rfl
