-- X10_init: by hand (objinit)
/-! ('CombTable', 'feed', '(IIIII)I') -/
theorem d_X10_feed_0 : decode m_X10_feed.2.1 0 = .ok (.aload_n 0, 1) := by decide +kernel
theorem d_X10_feed_1 : decode m_X10_feed.2.1 1 = .ok (.getfield 10, 3) := by decide +kernel
theorem d_X10_feed_4 : decode m_X10_feed.2.1 4 = .ok (.getfield 92, 3) := by decide +kernel
theorem d_X10_feed_7 : decode m_X10_feed.2.1 7 = .ok (.bipush 20, 2) := by decide +kernel
theorem d_X10_feed_9 : decode m_X10_feed.2.1 9 = .ok (.iadd, 1) := by decide +kernel
theorem d_X10_feed_10 : decode m_X10_feed.2.1 10 = .ok (.sipush 940, 3) := by decide +kernel
theorem d_X10_feed_13 : decode m_X10_feed.2.1 13 = .ok (.if_icmp .le 5, 3) := by decide +kernel
theorem d_X10_feed_16 : decode m_X10_feed.2.1 16 = .ok (.iconst (-1), 1) := by decide +kernel
theorem d_X10_feed_17 : decode m_X10_feed.2.1 17 = .ok (.ireturn, 1) := by decide +kernel
theorem d_X10_feed_18 : decode m_X10_feed.2.1 18 = .ok (.aload_n 0, 1) := by decide +kernel
theorem d_X10_feed_19 : decode m_X10_feed.2.1 19 = .ok (.getfield 10, 3) := by decide +kernel
theorem d_X10_feed_22 : decode m_X10_feed.2.1 22 = .ok (.iload_n 1, 1) := by decide +kernel
theorem d_X10_feed_23 : decode m_X10_feed.2.1 23 = .ok (.invokevirtual 96, 3) := by decide +kernel
theorem d_X10_feed_26 : decode m_X10_feed.2.1 26 = .ok (.aload_n 0, 1) := by decide +kernel
theorem d_X10_feed_27 : decode m_X10_feed.2.1 27 = .ok (.getfield 10, 3) := by decide +kernel
theorem d_X10_feed_30 : decode m_X10_feed.2.1 30 = .ok (.iload_n 2, 1) := by decide +kernel
theorem d_X10_feed_31 : decode m_X10_feed.2.1 31 = .ok (.invokevirtual 96, 3) := by decide +kernel
theorem d_X10_feed_34 : decode m_X10_feed.2.1 34 = .ok (.aload_n 0, 1) := by decide +kernel
theorem d_X10_feed_35 : decode m_X10_feed.2.1 35 = .ok (.getfield 10, 3) := by decide +kernel
theorem d_X10_feed_38 : decode m_X10_feed.2.1 38 = .ok (.iload_n 3, 1) := by decide +kernel
theorem d_X10_feed_39 : decode m_X10_feed.2.1 39 = .ok (.invokevirtual 96, 3) := by decide +kernel
theorem d_X10_feed_42 : decode m_X10_feed.2.1 42 = .ok (.aload_n 0, 1) := by decide +kernel
theorem d_X10_feed_43 : decode m_X10_feed.2.1 43 = .ok (.getfield 10, 3) := by decide +kernel
theorem d_X10_feed_46 : decode m_X10_feed.2.1 46 = .ok (.iload 4, 2) := by decide +kernel
theorem d_X10_feed_48 : decode m_X10_feed.2.1 48 = .ok (.invokevirtual 96, 3) := by decide +kernel
theorem d_X10_feed_51 : decode m_X10_feed.2.1 51 = .ok (.aload_n 0, 1) := by decide +kernel
theorem d_X10_feed_52 : decode m_X10_feed.2.1 52 = .ok (.getfield 10, 3) := by decide +kernel
theorem d_X10_feed_55 : decode m_X10_feed.2.1 55 = .ok (.iload 5, 2) := by decide +kernel
theorem d_X10_feed_57 : decode m_X10_feed.2.1 57 = .ok (.invokevirtual 96, 3) := by decide +kernel
theorem d_X10_feed_60 : decode m_X10_feed.2.1 60 = .ok (.aload_n 0, 1) := by decide +kernel
theorem d_X10_feed_61 : decode m_X10_feed.2.1 61 = .ok (.getfield 10, 3) := by decide +kernel
theorem d_X10_feed_64 : decode m_X10_feed.2.1 64 = .ok (.getfield 92, 3) := by decide +kernel
theorem d_X10_feed_67 : decode m_X10_feed.2.1 67 = .ok (.ireturn, 1) := by decide +kernel
set_option maxRecDepth 20000 in
theorem e_X10_feed {E : jm_E} {d : Nat} {μ : jm_M} {Q : Option jm_V → jm_M → Prop} {v1 v2 v3 v4 v5 : Int} (h : (∀ v ∈ ([jm_R 0, jm_I v1, jm_I v2, jm_I v3, jm_I v4, jm_I v5] : List jm_V), jm_ok v) →
  (((jm_wr ((μ 1 1) + 20)) ≤ 940 →
    jc E m_X7_put d [jm_R 1, jm_I v1] μ (fun (o : Option jm_V) (m2 : jm_M) => o = none →
    jc E m_X7_put d [jm_R 1, jm_I v2] m2 (fun (o : Option jm_V) (m3 : jm_M) => o = none →
    jc E m_X7_put d [jm_R 1, jm_I v3] m3 (fun (o : Option jm_V) (m4 : jm_M) => o = none →
    jc E m_X7_put d [jm_R 1, jm_I v4] m4 (fun (o : Option jm_V) (m5 : jm_M) => o = none →
    jc E m_X7_put d [jm_R 1, jm_I v5] m5 (fun (o : Option jm_V) (m6 : jm_M) => o = none →
    Q (some (jm_I (m6 1 1))) m6)))))) ∧
   (¬ ((jm_wr ((μ 1 1) + 20)) ≤ 940) →
    Q (some (jm_I ((-1)))) μ))) : jc E m_X10_feed (d + 1) [jm_R 0, jm_I v1, jm_I v2, jm_I v3, jm_I v4, jm_I v5] μ Q := by
  refine jm_Cl.of2 (by decide +kernel) (L0 := [some (jm_R 0), some (jm_I v1), some (jm_I v2), some (jm_I v3), some (jm_I v4), some (jm_I v5)]) rfl (Nat.le_of_ble_eq_true rfl) (fun hok => ?_)
  have h := h hok
  refine jm_aloadn d_X10_feed_0 rfl ?_
  refine jm_getF (k := 0) (ki := 0) rfl cf_X10 (Nat.le_of_ble_eq_true rfl) f_X10_10 d_X10_feed_1 rfl rfl is_0 fr_0_0 ?_
  refine jm_getI (k := 1) (ki := 1) cf_X7 (Nat.le_of_ble_eq_true rfl) f_X10_92 d_X10_feed_4 rfl rfl is_1 rfl ?_
  refine jm_bipush (v := 20) d_X10_feed_7 rfl (jm_okI (by decide) (by decide)) ?_
  refine jm_iadd d_X10_feed_9 ?_
  refine jm_sipush (v := 940) d_X10_feed_10 rfl (jm_okI (by decide) (by decide)) ?_
  refine jm_icmp_le (tgt := 18) d_X10_feed_13 (by decide) (fun c1 => ?_) (fun c1 => ?_)
  · have h := h.1 c1
    refine jm_aloadn d_X10_feed_18 rfl ?_
    refine jm_getF (k := 0) (ki := 0) rfl cf_X10 (Nat.le_of_ble_eq_true rfl) f_X10_10 d_X10_feed_19 rfl rfl is_0 fr_0_0 ?_
    refine jm_iloadn d_X10_feed_22 rfl ?_
    refine jm_invV (n1 := jm_N) (mc := 0) (ms := 0) (av := [jm_I _]) w_X7_put l_X10_96 d_X10_feed_23 rfl is_1 ⟨_, _, rfl⟩ ⟨Nat.le_refl _, Nat.le_refl _⟩ (Nat.le_of_ble_eq_true rfl) rfl ?_
    refine jm_Cl.mono h (fun o m2 h hr _ => ?_)
    obtain rfl := jm_rokV hr
    have h := h rfl
    refine jm_aloadn d_X10_feed_26 rfl ?_
    refine jm_getF (k := 0) (ki := 0) rfl cf_X10 (Nat.le_of_ble_eq_true rfl) f_X10_10 d_X10_feed_27 rfl rfl is_0 fr_0_0 ?_
    refine jm_iloadn d_X10_feed_30 rfl ?_
    refine jm_invV (n1 := jm_N) (mc := 0) (ms := 0) (av := [jm_I _]) w_X7_put l_X10_96 d_X10_feed_31 rfl is_1 ⟨_, _, rfl⟩ ⟨Nat.le_refl _, Nat.le_refl _⟩ (Nat.le_of_ble_eq_true rfl) rfl ?_
    refine jm_Cl.mono h (fun o m3 h hr _ => ?_)
    obtain rfl := jm_rokV hr
    have h := h rfl
    refine jm_aloadn d_X10_feed_34 rfl ?_
    refine jm_getF (k := 0) (ki := 0) rfl cf_X10 (Nat.le_of_ble_eq_true rfl) f_X10_10 d_X10_feed_35 rfl rfl is_0 fr_0_0 ?_
    refine jm_iloadn d_X10_feed_38 rfl ?_
    refine jm_invV (n1 := jm_N) (mc := 0) (ms := 0) (av := [jm_I _]) w_X7_put l_X10_96 d_X10_feed_39 rfl is_1 ⟨_, _, rfl⟩ ⟨Nat.le_refl _, Nat.le_refl _⟩ (Nat.le_of_ble_eq_true rfl) rfl ?_
    refine jm_Cl.mono h (fun o m4 h hr _ => ?_)
    obtain rfl := jm_rokV hr
    have h := h rfl
    refine jm_aloadn d_X10_feed_42 rfl ?_
    refine jm_getF (k := 0) (ki := 0) rfl cf_X10 (Nat.le_of_ble_eq_true rfl) f_X10_10 d_X10_feed_43 rfl rfl is_0 fr_0_0 ?_
    refine jm_iload d_X10_feed_46 rfl ?_
    refine jm_invV (n1 := jm_N) (mc := 0) (ms := 0) (av := [jm_I _]) w_X7_put l_X10_96 d_X10_feed_48 rfl is_1 ⟨_, _, rfl⟩ ⟨Nat.le_refl _, Nat.le_refl _⟩ (Nat.le_of_ble_eq_true rfl) rfl ?_
    refine jm_Cl.mono h (fun o m5 h hr _ => ?_)
    obtain rfl := jm_rokV hr
    have h := h rfl
    refine jm_aloadn d_X10_feed_51 rfl ?_
    refine jm_getF (k := 0) (ki := 0) rfl cf_X10 (Nat.le_of_ble_eq_true rfl) f_X10_10 d_X10_feed_52 rfl rfl is_0 fr_0_0 ?_
    refine jm_iload d_X10_feed_55 rfl ?_
    refine jm_invV (n1 := jm_N) (mc := 0) (ms := 0) (av := [jm_I _]) w_X7_put l_X10_96 d_X10_feed_57 rfl is_1 ⟨_, _, rfl⟩ ⟨Nat.le_refl _, Nat.le_refl _⟩ (Nat.le_of_ble_eq_true rfl) rfl ?_
    refine jm_Cl.mono h (fun o m6 h hr _ => ?_)
    obtain rfl := jm_rokV hr
    have h := h rfl
    refine jm_aloadn d_X10_feed_60 rfl ?_
    refine jm_getF (k := 0) (ki := 0) rfl cf_X10 (Nat.le_of_ble_eq_true rfl) f_X10_10 d_X10_feed_61 rfl rfl is_0 fr_0_0 ?_
    refine jm_getI (k := 1) (ki := 1) cf_X7 (Nat.le_of_ble_eq_true rfl) f_X10_92 d_X10_feed_64 rfl rfl is_1 rfl ?_
    exact jm_ret (o := some (jm_I _)) d_X10_feed_67 rfl ⟨Nat.le_refl _, Nat.le_refl _⟩ jm_r_I h rfl
  · have h := h.2 c1
    refine jm_iconst (v := (-1)) d_X10_feed_16 rfl (jm_okI (by decide) (by decide)) ?_
    exact jm_ret (o := some (jm_I _)) d_X10_feed_17 rfl ⟨Nat.le_refl _, Nat.le_refl _⟩ jm_r_I h rfl
/-! ('CombTable', 'end', '(I)Z') -/
theorem d_X10_end_0 : decode m_X10_end.2.1 0 = .ok (.iload_n 1, 1) := by decide +kernel
theorem d_X10_end_1 : decode m_X10_end.2.1 1 = .ok (.ifCond .lt 14, 3) := by decide +kernel
theorem d_X10_end_4 : decode m_X10_end.2.1 4 = .ok (.iload_n 1, 1) := by decide +kernel
theorem d_X10_end_5 : decode m_X10_end.2.1 5 = .ok (.aload_n 0, 1) := by decide +kernel
theorem d_X10_end_6 : decode m_X10_end.2.1 6 = .ok (.getfield 10, 3) := by decide +kernel
theorem d_X10_end_9 : decode m_X10_end.2.1 9 = .ok (.getfield 92, 3) := by decide +kernel
theorem d_X10_end_12 : decode m_X10_end.2.1 12 = .ok (.if_icmp .le 5, 3) := by decide +kernel
theorem d_X10_end_15 : decode m_X10_end.2.1 15 = .ok (.iconst 0, 1) := by decide +kernel
theorem d_X10_end_16 : decode m_X10_end.2.1 16 = .ok (.ireturn, 1) := by decide +kernel
theorem d_X10_end_17 : decode m_X10_end.2.1 17 = .ok (.aload_n 0, 1) := by decide +kernel
theorem d_X10_end_18 : decode m_X10_end.2.1 18 = .ok (.getfield 10, 3) := by decide +kernel
theorem d_X10_end_21 : decode m_X10_end.2.1 21 = .ok (.iload_n 1, 1) := by decide +kernel
theorem d_X10_end_22 : decode m_X10_end.2.1 22 = .ok (.putfield 92, 3) := by decide +kernel
theorem d_X10_end_25 : decode m_X10_end.2.1 25 = .ok (.iconst 1, 1) := by decide +kernel
theorem d_X10_end_26 : decode m_X10_end.2.1 26 = .ok (.ireturn, 1) := by decide +kernel
set_option maxRecDepth 20000 in
theorem e_X10_end {E : jm_E} {d : Nat} {μ : jm_M} {Q : Option jm_V → jm_M → Prop} {v1 : Int} (h : (∀ v ∈ ([jm_R 0, jm_I v1] : List jm_V), jm_ok v) →
  ((v1 < 0 →
    Q (some (jm_I 0)) μ) ∧
   (¬ (v1 < 0) →
    ((v1 ≤ μ 1 1 →
      Q (some (jm_I 1)) (jm_up μ 1 1 v1)) ∧
     (¬ (v1 ≤ μ 1 1) →
      Q (some (jm_I 0)) μ))))) : jc E m_X10_end (d + 1) [jm_R 0, jm_I v1] μ Q := by
  refine jm_Cl.of2 (by decide +kernel) (L0 := [some (jm_R 0), some (jm_I v1)]) rfl (Nat.le_of_ble_eq_true rfl) (fun hok => ?_)
  have h := h hok
  refine jm_iloadn d_X10_end_0 rfl ?_
  refine jm_if_lt (tgt := 15) d_X10_end_1 (by decide) (fun c1 => ?_) (fun c1 => ?_)
  · have h := h.1 c1
    refine jm_iconst (v := 0) d_X10_end_15 rfl (jm_okI (by decide) (by decide)) ?_
    exact jm_ret (o := some (jm_I _)) d_X10_end_16 rfl ⟨Nat.le_refl _, Nat.le_refl _⟩ (jm_r_Z (by decide)) h rfl
  · have h := h.2 c1
    refine jm_iloadn d_X10_end_4 rfl ?_
    refine jm_aloadn d_X10_end_5 rfl ?_
    refine jm_getF (k := 0) (ki := 0) rfl cf_X10 (Nat.le_of_ble_eq_true rfl) f_X10_10 d_X10_end_6 rfl rfl is_0 fr_0_0 ?_
    refine jm_getI (k := 1) (ki := 1) cf_X7 (Nat.le_of_ble_eq_true rfl) f_X10_92 d_X10_end_9 rfl rfl is_1 rfl ?_
    refine jm_icmp_le (tgt := 17) d_X10_end_12 (by decide) (fun c2 => ?_) (fun c2 => ?_)
    · have h := h.1 c2
      refine jm_aloadn d_X10_end_17 rfl ?_
      refine jm_getF (k := 0) (ki := 0) rfl cf_X10 (Nat.le_of_ble_eq_true rfl) f_X10_10 d_X10_end_18 rfl rfl is_0 fr_0_0 ?_
      refine jm_iloadn d_X10_end_21 rfl ?_
      refine jm_putI (k := 1) (ki := 1) cf_X7 (Nat.le_of_ble_eq_true rfl) f_X10_92 d_X10_end_22 (fun z => absurd z (by decide)) rfl rfl rfl (fun _ => rfl) is_1 ?_
      refine jm_iconst (v := 1) d_X10_end_25 rfl (jm_okI (by decide) (by decide)) ?_
      exact jm_ret (o := some (jm_I _)) d_X10_end_26 rfl ⟨Nat.le_refl _, Nat.le_refl _⟩ (jm_r_Z (by decide)) h rfl
    · have h := h.2 c2
      refine jm_iconst (v := 0) d_X10_end_15 rfl (jm_okI (by decide) (by decide)) ?_
      exact jm_ret (o := some (jm_I _)) d_X10_end_16 rfl ⟨Nat.le_refl _, Nat.le_refl _⟩ (jm_r_Z (by decide)) h rfl
/-! ('CombTable', 'table', '()I') -/
theorem d_X10_table_0 : decode m_X10_table.2.1 0 = .ok (.aload_n 0, 1) := by decide +kernel
theorem d_X10_table_1 : decode m_X10_table.2.1 1 = .ok (.getfield 23, 3) := by decide +kernel
theorem d_X10_table_4 : decode m_X10_table.2.1 4 = .ok (.aload_n 0, 1) := by decide +kernel
theorem d_X10_table_5 : decode m_X10_table.2.1 5 = .ok (.getfield 10, 3) := by decide +kernel
theorem d_X10_table_8 : decode m_X10_table.2.1 8 = .ok (.invokevirtual 99, 3) := by decide +kernel
theorem d_X10_table_11 : decode m_X10_table.2.1 11 = .ok (.istore_n 1, 1) := by decide +kernel
theorem d_X10_table_12 : decode m_X10_table.2.1 12 = .ok (.iload_n 1, 1) := by decide +kernel
theorem d_X10_table_13 : decode m_X10_table.2.1 13 = .ok (.ifCond .eq 39, 3) := by decide +kernel
theorem d_X10_table_16 : decode m_X10_table.2.1 16 = .ok (.aload_n 0, 1) := by decide +kernel
theorem d_X10_table_17 : decode m_X10_table.2.1 17 = .ok (.getfield 19, 3) := by decide +kernel
theorem d_X10_table_20 : decode m_X10_table.2.1 20 = .ok (.aload_n 0, 1) := by decide +kernel
theorem d_X10_table_21 : decode m_X10_table.2.1 21 = .ok (.getfield 23, 3) := by decide +kernel
theorem d_X10_table_24 : decode m_X10_table.2.1 24 = .ok (.invokevirtual 103, 3) := by decide +kernel
theorem d_X10_table_27 : decode m_X10_table.2.1 27 = .ok (.aload_n 0, 1) := by decide +kernel
theorem d_X10_table_28 : decode m_X10_table.2.1 28 = .ok (.getfield 31, 3) := by decide +kernel
theorem d_X10_table_31 : decode m_X10_table.2.1 31 = .ok (.aload_n 0, 1) := by decide +kernel
theorem d_X10_table_32 : decode m_X10_table.2.1 32 = .ok (.getfield 19, 3) := by decide +kernel
theorem d_X10_table_35 : decode m_X10_table.2.1 35 = .ok (.invokevirtual 107, 3) := by decide +kernel
theorem d_X10_table_38 : decode m_X10_table.2.1 38 = .ok (.aload_n 0, 1) := by decide +kernel
theorem d_X10_table_39 : decode m_X10_table.2.1 39 = .ok (.getfield 44, 3) := by decide +kernel
theorem d_X10_table_42 : decode m_X10_table.2.1 42 = .ok (.invokevirtual 110, 3) := by decide +kernel
theorem d_X10_table_45 : decode m_X10_table.2.1 45 = .ok (.aload_n 0, 1) := by decide +kernel
theorem d_X10_table_46 : decode m_X10_table.2.1 46 = .ok (.getfield 54, 3) := by decide +kernel
theorem d_X10_table_49 : decode m_X10_table.2.1 49 = .ok (.invokevirtual 113, 3) := by decide +kernel
theorem d_X10_table_52 : decode m_X10_table.2.1 52 = .ok (.aload_n 0, 1) := by decide +kernel
theorem d_X10_table_53 : decode m_X10_table.2.1 53 = .ok (.iload_n 1, 1) := by decide +kernel
theorem d_X10_table_54 : decode m_X10_table.2.1 54 = .ok (.aload_n 0, 1) := by decide +kernel
theorem d_X10_table_55 : decode m_X10_table.2.1 55 = .ok (.getfield 19, 3) := by decide +kernel
theorem d_X10_table_58 : decode m_X10_table.2.1 58 = .ok (.getfield 114, 3) := by decide +kernel
theorem d_X10_table_61 : decode m_X10_table.2.1 61 = .ok (.invokevirtual 117, 3) := by decide +kernel
theorem d_X10_table_64 : decode m_X10_table.2.1 64 = .ok (.ireturn, 1) := by decide +kernel
set_option maxRecDepth 20000 in
theorem e_X10_table {E : jm_E} {d : Nat} {μ : jm_M} {Q : Option jm_V → jm_M → Prop}  (h : (∀ v ∈ ([jm_R 0] : List jm_V), jm_ok v) →
  jc E m_X5_read d [jm_R 12, jm_R 1] μ (fun (o : Option jm_V) (m1 : jm_M) => ∀ r2 : Int, o = some (jm_I r2) → (r2 = 0 ∨ r2 = 1) →
  ((r2 = 0 →
    jc E m_X10_afterReading d [jm_R 0, jm_I r2, jm_I (m1 3 0)] m1 (fun (o : Option jm_V) (m5 : jm_M) => ∀ r6 : Int, o = some (jm_I r6) →
    Q (some (jm_I r6)) m5)) ∧
   (¬ (r2 = 0) →
    jc E m_X5_copy d [jm_R 3, jm_R 12] m1 (fun (o : Option jm_V) (m7 : jm_M) => o = none →
    jc E m_X6_begin d [jm_R 21, jm_R 3] m7 (fun (o : Option jm_V) (m8 : jm_M) => o = none →
    jc E m_X1_clear d [jm_R 69] m8 (fun (o : Option jm_V) (m9 : jm_M) => o = none →
    jc E m_X4_clear d [jm_R 75] m9 (fun (o : Option jm_V) (m10 : jm_M) => o = none →
    jc E m_X10_afterReading d [jm_R 0, jm_I r2, jm_I (m10 3 0)] m10 (fun (o : Option jm_V) (m11 : jm_M) => ∀ r12 : Int, o = some (jm_I r12) →
    Q (some (jm_I r12)) m11))))))))) : jc E m_X10_table (d + 1) [jm_R 0] μ Q := by
  refine jm_Cl.of2 (by decide +kernel) (L0 := [some (jm_R 0), none]) rfl (Nat.le_of_ble_eq_true rfl) (fun hok => ?_)
  have h := h hok
  refine jm_aloadn d_X10_table_0 rfl ?_
  refine jm_getF (k := 2) (ki := 2) rfl cf_X10 (Nat.le_of_ble_eq_true rfl) f_X10_23 d_X10_table_1 rfl rfl is_0 fr_0_2 ?_
  refine jm_aloadn d_X10_table_4 rfl ?_
  refine jm_getF (k := 0) (ki := 0) rfl cf_X10 (Nat.le_of_ble_eq_true rfl) f_X10_10 d_X10_table_5 rfl rfl is_0 fr_0_0 ?_
  refine jm_invV (n1 := jm_N) (mc := 0) (ms := 0) (av := [jm_R _]) w_X5_read l_X10_99 d_X10_table_8 rfl is_12 ⟨_, _, rfl⟩ ⟨Nat.le_refl _, Nat.le_refl _⟩ (Nat.le_of_ble_eq_true rfl) rfl ?_
  refine jm_Cl.mono h (fun o m1 h hr _ => ?_)
  obtain ⟨r2, rfl, z3⟩ := jm_rokZ hr
  have h := h _ rfl z3
  refine jm_istoren (L' := [some (jm_R _), some (jm_I _)]) d_X10_table_11 (Nat.le_of_ble_eq_true rfl) rfl ?_
  refine jm_iloadn d_X10_table_12 rfl ?_
  refine jm_if_eq (tgt := 52) d_X10_table_13 (by decide) (fun c4 => ?_) (fun c4 => ?_)
  · have h := h.1 c4
    refine jm_aloadn d_X10_table_52 rfl ?_
    refine jm_iloadn d_X10_table_53 rfl ?_
    refine jm_aloadn d_X10_table_54 rfl ?_
    refine jm_getF (k := 1) (ki := 1) rfl cf_X10 (Nat.le_of_ble_eq_true rfl) f_X10_19 d_X10_table_55 rfl rfl is_0 fr_0_1 ?_
    refine jm_getI (k := 0) (ki := 0) cf_X5 (Nat.le_of_ble_eq_true rfl) f_X10_114 d_X10_table_58 rfl rfl is_3 rfl ?_
    refine jm_invV (n1 := jm_N) (mc := 0) (ms := 0) (av := [jm_I _, jm_I _]) w_X10_afterReading l_X10_117 d_X10_table_61 rfl is_0 ⟨_, _, rfl⟩ ⟨Nat.le_refl _, Nat.le_refl _⟩ (Nat.le_of_ble_eq_true rfl) rfl ?_
    refine jm_Cl.mono h (fun o m5 h hr _ => ?_)
    obtain ⟨r6, rfl⟩ := jm_rokI hr
    have h := h _ rfl
    exact jm_ret (o := some (jm_I _)) d_X10_table_64 rfl ⟨Nat.le_refl _, Nat.le_refl _⟩ jm_r_I h rfl
  · have h := h.2 c4
    refine jm_aloadn d_X10_table_16 rfl ?_
    refine jm_getF (k := 1) (ki := 1) rfl cf_X10 (Nat.le_of_ble_eq_true rfl) f_X10_19 d_X10_table_17 rfl rfl is_0 fr_0_1 ?_
    refine jm_aloadn d_X10_table_20 rfl ?_
    refine jm_getF (k := 2) (ki := 2) rfl cf_X10 (Nat.le_of_ble_eq_true rfl) f_X10_23 d_X10_table_21 rfl rfl is_0 fr_0_2 ?_
    refine jm_invV (n1 := jm_N) (mc := 0) (ms := 0) (av := [jm_R _]) w_X5_copy l_X10_103 d_X10_table_24 rfl is_3 ⟨_, _, rfl⟩ ⟨Nat.le_refl _, Nat.le_refl _⟩ (Nat.le_of_ble_eq_true rfl) rfl ?_
    refine jm_Cl.mono h (fun o m7 h hr _ => ?_)
    obtain rfl := jm_rokV hr
    have h := h rfl
    refine jm_aloadn d_X10_table_27 rfl ?_
    refine jm_getF (k := 3) (ki := 3) rfl cf_X10 (Nat.le_of_ble_eq_true rfl) f_X10_31 d_X10_table_28 rfl rfl is_0 fr_0_3 ?_
    refine jm_aloadn d_X10_table_31 rfl ?_
    refine jm_getF (k := 1) (ki := 1) rfl cf_X10 (Nat.le_of_ble_eq_true rfl) f_X10_19 d_X10_table_32 rfl rfl is_0 fr_0_1 ?_
    refine jm_invV (n1 := jm_N) (mc := 0) (ms := 0) (av := [jm_R _]) w_X6_begin l_X10_107 d_X10_table_35 rfl is_21 ⟨_, _, rfl⟩ ⟨Nat.le_refl _, Nat.le_refl _⟩ (Nat.le_of_ble_eq_true rfl) rfl ?_
    refine jm_Cl.mono h (fun o m8 h hr _ => ?_)
    obtain rfl := jm_rokV hr
    have h := h rfl
    refine jm_aloadn d_X10_table_38 rfl ?_
    refine jm_getF (k := 6) (ki := 6) rfl cf_X10 (Nat.le_of_ble_eq_true rfl) f_X10_44 d_X10_table_39 rfl rfl is_0 fr_0_6 ?_
    refine jm_invV (n1 := jm_N) (mc := 0) (ms := 0) (av := []) w_X1_clear l_X10_110 d_X10_table_42 rfl is_69 ⟨_, _, rfl⟩ ⟨Nat.le_refl _, Nat.le_refl _⟩ (Nat.le_of_ble_eq_true rfl) rfl ?_
    refine jm_Cl.mono h (fun o m9 h hr _ => ?_)
    obtain rfl := jm_rokV hr
    have h := h rfl
    refine jm_aloadn d_X10_table_45 rfl ?_
    refine jm_getF (k := 8) (ki := 8) rfl cf_X10 (Nat.le_of_ble_eq_true rfl) f_X10_54 d_X10_table_46 rfl rfl is_0 fr_0_8 ?_
    refine jm_invV (n1 := jm_N) (mc := 0) (ms := 0) (av := []) w_X4_clear l_X10_113 d_X10_table_49 rfl is_75 ⟨_, _, rfl⟩ ⟨Nat.le_refl _, Nat.le_refl _⟩ (Nat.le_of_ble_eq_true rfl) rfl ?_
    refine jm_Cl.mono h (fun o m10 h hr _ => ?_)
    obtain rfl := jm_rokV hr
    have h := h rfl
    refine jm_aloadn d_X10_table_52 rfl ?_
    refine jm_iloadn d_X10_table_53 rfl ?_
    refine jm_aloadn d_X10_table_54 rfl ?_
    refine jm_getF (k := 1) (ki := 1) rfl cf_X10 (Nat.le_of_ble_eq_true rfl) f_X10_19 d_X10_table_55 rfl rfl is_0 fr_0_1 ?_
    refine jm_getI (k := 0) (ki := 0) cf_X5 (Nat.le_of_ble_eq_true rfl) f_X10_114 d_X10_table_58 rfl rfl is_3 rfl ?_
    refine jm_invV (n1 := jm_N) (mc := 0) (ms := 0) (av := [jm_I _, jm_I _]) w_X10_afterReading l_X10_117 d_X10_table_61 rfl is_0 ⟨_, _, rfl⟩ ⟨Nat.le_refl _, Nat.le_refl _⟩ (Nat.le_of_ble_eq_true rfl) rfl ?_
    refine jm_Cl.mono h (fun o m11 h hr _ => ?_)
    obtain ⟨r12, rfl⟩ := jm_rokI hr
    have h := h _ rfl
    exact jm_ret (o := some (jm_I _)) d_X10_table_64 rfl ⟨Nat.le_refl _, Nat.le_refl _⟩ jm_r_I h rfl
/-! ('CombTable', 'fault', '()I') -/
theorem d_X10_fault_0 : decode m_X10_fault.2.1 0 = .ok (.aload_n 0, 1) := by decide +kernel
theorem d_X10_fault_1 : decode m_X10_fault.2.1 1 = .ok (.getfield 10, 3) := by decide +kernel
theorem d_X10_fault_4 : decode m_X10_fault.2.1 4 = .ok (.getfield 121, 3) := by decide +kernel
theorem d_X10_fault_7 : decode m_X10_fault.2.1 7 = .ok (.ireturn, 1) := by decide +kernel
set_option maxRecDepth 20000 in
theorem e_X10_fault {E : jm_E} {d : Nat} {μ : jm_M} {Q : Option jm_V → jm_M → Prop}  (h : (∀ v ∈ ([jm_R 0] : List jm_V), jm_ok v) →
  Q (some (jm_I (μ 1 9))) μ) : jc E m_X10_fault (d + 1) [jm_R 0] μ Q := by
  refine jm_Cl.of2 (by decide +kernel) (L0 := [some (jm_R 0)]) rfl (Nat.le_of_ble_eq_true rfl) (fun hok => ?_)
  have h := h hok
  refine jm_aloadn d_X10_fault_0 rfl ?_
  refine jm_getF (k := 0) (ki := 0) rfl cf_X10 (Nat.le_of_ble_eq_true rfl) f_X10_10 d_X10_fault_1 rfl rfl is_0 fr_0_0 ?_
  refine jm_getI (k := 9) (ki := 9) cf_X7 (Nat.le_of_ble_eq_true rfl) f_X10_121 d_X10_fault_4 rfl rfl is_1 rfl ?_
  exact jm_ret (o := some (jm_I _)) d_X10_fault_7 rfl ⟨Nat.le_refl _, Nat.le_refl _⟩ jm_r_I h rfl
/-! ('CombTable', 'rank', '(I)I') -/
theorem d_X10_rank_0 : decode m_X10_rank.2.1 0 = .ok (.aload_n 0, 1) := by decide +kernel
theorem d_X10_rank_1 : decode m_X10_rank.2.1 1 = .ok (.getfield 19, 3) := by decide +kernel
theorem d_X10_rank_4 : decode m_X10_rank.2.1 4 = .ok (.iload_n 1, 1) := by decide +kernel
theorem d_X10_rank_5 : decode m_X10_rank.2.1 5 = .ok (.invokevirtual 124, 3) := by decide +kernel
theorem d_X10_rank_8 : decode m_X10_rank.2.1 8 = .ok (.ifCond .eq 15, 3) := by decide +kernel
theorem d_X10_rank_11 : decode m_X10_rank.2.1 11 = .ok (.aload_n 0, 1) := by decide +kernel
theorem d_X10_rank_12 : decode m_X10_rank.2.1 12 = .ok (.getfield 19, 3) := by decide +kernel
theorem d_X10_rank_15 : decode m_X10_rank.2.1 15 = .ok (.getfield 128, 3) := by decide +kernel
theorem d_X10_rank_18 : decode m_X10_rank.2.1 18 = .ok (.iload_n 1, 1) := by decide +kernel
theorem d_X10_rank_19 : decode m_X10_rank.2.1 19 = .ok (.iaload, 1) := by decide +kernel
theorem d_X10_rank_20 : decode m_X10_rank.2.1 20 = .ok (.goto 4, 3) := by decide +kernel
theorem d_X10_rank_23 : decode m_X10_rank.2.1 23 = .ok (.iconst (-1), 1) := by decide +kernel
theorem d_X10_rank_24 : decode m_X10_rank.2.1 24 = .ok (.ireturn, 1) := by decide +kernel
set_option maxRecDepth 20000 in
theorem e_X10_rank {E : jm_E} {d : Nat} {μ : jm_M} {Q : Option jm_V → jm_M → Prop} {v1 : Int} (h : (∀ v ∈ ([jm_R 0, jm_I v1] : List jm_V), jm_ok v) →
  jc E m_X5_hasWho d [jm_R 3, jm_I v1] μ (fun (o : Option jm_V) (m1 : jm_M) => ∀ r2 : Int, o = some (jm_I r2) → (r2 = 0 ∨ r2 = 1) →
  ((r2 = 0 →
    Q (some (jm_I ((-1)))) m1) ∧
   (¬ (r2 = 0) →
    (0 ≤ v1 ∧ v1 < 8) ∧
    Q (some (jm_I (m1 5 v1))) m1)))) : jc E m_X10_rank (d + 1) [jm_R 0, jm_I v1] μ Q := by
  refine jm_Cl.of2 (by decide +kernel) (L0 := [some (jm_R 0), some (jm_I v1)]) rfl (Nat.le_of_ble_eq_true rfl) (fun hok => ?_)
  have h := h hok
  refine jm_aloadn d_X10_rank_0 rfl ?_
  refine jm_getF (k := 1) (ki := 1) rfl cf_X10 (Nat.le_of_ble_eq_true rfl) f_X10_19 d_X10_rank_1 rfl rfl is_0 fr_0_1 ?_
  refine jm_iloadn d_X10_rank_4 rfl ?_
  refine jm_invV (n1 := jm_N) (mc := 0) (ms := 0) (av := [jm_I _]) w_X5_hasWho l_X10_124 d_X10_rank_5 rfl is_3 ⟨_, _, rfl⟩ ⟨Nat.le_refl _, Nat.le_refl _⟩ (Nat.le_of_ble_eq_true rfl) rfl ?_
  refine jm_Cl.mono h (fun o m1 h hr _ => ?_)
  obtain ⟨r2, rfl, z3⟩ := jm_rokZ hr
  have h := h _ rfl z3
  refine jm_if_eq (tgt := 23) d_X10_rank_8 (by decide) (fun c4 => ?_) (fun c4 => ?_)
  · have h := h.1 c4
    refine jm_iconst (v := (-1)) d_X10_rank_23 rfl (jm_okI (by decide) (by decide)) ?_
    exact jm_ret (o := some (jm_I _)) d_X10_rank_24 rfl ⟨Nat.le_refl _, Nat.le_refl _⟩ jm_r_I h rfl
  · have h := h.2 c4
    refine jm_aloadn d_X10_rank_11 rfl ?_
    refine jm_getF (k := 1) (ki := 1) rfl cf_X10 (Nat.le_of_ble_eq_true rfl) f_X10_19 d_X10_rank_12 rfl rfl is_0 fr_0_1 ?_
    refine jm_getF (k := 3) (ki := 3) rfl cf_X5 (Nat.le_of_ble_eq_true rfl) f_X10_128 d_X10_rank_15 rfl rfl is_3 fr_3_3 ?_
    refine jm_iloadn d_X10_rank_18 rfl ?_
    obtain ⟨f5, h⟩ := h
    refine jm_iaload d_X10_rank_19 (ixl_5 f5.1 f5.2) ?_
    refine jm_goto (tgt := 24) d_X10_rank_20 (by decide) ?_
    exact jm_ret (o := some (jm_I _)) d_X10_rank_24 rfl ⟨Nat.le_refl _, Nat.le_refl _⟩ jm_r_I h rfl
-- X10_kind: by hand (.new 135)
/-! ('CombTable', 'say', '(II)I') -/
theorem d_X10_say_0 : decode m_X10_say.2.1 0 = .ok (.aload_n 0, 1) := by decide +kernel
theorem d_X10_say_1 : decode m_X10_say.2.1 1 = .ok (.getfield 31, 3) := by decide +kernel
theorem d_X10_say_4 : decode m_X10_say.2.1 4 = .ok (.iload_n 1, 1) := by decide +kernel
theorem d_X10_say_5 : decode m_X10_say.2.1 5 = .ok (.iload_n 2, 1) := by decide +kernel
theorem d_X10_say_6 : decode m_X10_say.2.1 6 = .ok (.invokevirtual 142, 3) := by decide +kernel
theorem d_X10_say_9 : decode m_X10_say.2.1 9 = .ok (.istore_n 3, 1) := by decide +kernel
theorem d_X10_say_10 : decode m_X10_say.2.1 10 = .ok (.iload_n 3, 1) := by decide +kernel
theorem d_X10_say_11 : decode m_X10_say.2.1 11 = .ok (.ifCond .ne 12, 3) := by decide +kernel
theorem d_X10_say_14 : decode m_X10_say.2.1 14 = .ok (.aload_n 0, 1) := by decide +kernel
theorem d_X10_say_15 : decode m_X10_say.2.1 15 = .ok (.getfield 31, 3) := by decide +kernel
theorem d_X10_say_18 : decode m_X10_say.2.1 18 = .ok (.iload_n 1, 1) := by decide +kernel
theorem d_X10_say_19 : decode m_X10_say.2.1 19 = .ok (.iload_n 2, 1) := by decide +kernel
theorem d_X10_say_20 : decode m_X10_say.2.1 20 = .ok (.invokevirtual 145, 3) := by decide +kernel
theorem d_X10_say_23 : decode m_X10_say.2.1 23 = .ok (.iload_n 3, 1) := by decide +kernel
theorem d_X10_say_24 : decode m_X10_say.2.1 24 = .ok (.ireturn, 1) := by decide +kernel
set_option maxRecDepth 20000 in
theorem e_X10_say {E : jm_E} {d : Nat} {μ : jm_M} {Q : Option jm_V → jm_M → Prop} {v1 v2 : Int} (h : (∀ v ∈ ([jm_R 0, jm_I v1, jm_I v2] : List jm_V), jm_ok v) →
  jc E m_X6_flaw d [jm_R 21, jm_I v1, jm_I v2] μ (fun (o : Option jm_V) (m1 : jm_M) => ∀ r2 : Int, o = some (jm_I r2) →
  ((r2 ≠ 0 →
    Q (some (jm_I r2)) m1) ∧
   (¬ (r2 ≠ 0) →
    jc E m_X6_add d [jm_R 21, jm_I v1, jm_I v2] m1 (fun (o : Option jm_V) (m4 : jm_M) => o = none →
    Q (some (jm_I r2)) m4))))) : jc E m_X10_say (d + 1) [jm_R 0, jm_I v1, jm_I v2] μ Q := by
  refine jm_Cl.of2 (by decide +kernel) (L0 := [some (jm_R 0), some (jm_I v1), some (jm_I v2), none]) rfl (Nat.le_of_ble_eq_true rfl) (fun hok => ?_)
  have h := h hok
  refine jm_aloadn d_X10_say_0 rfl ?_
  refine jm_getF (k := 3) (ki := 3) rfl cf_X10 (Nat.le_of_ble_eq_true rfl) f_X10_31 d_X10_say_1 rfl rfl is_0 fr_0_3 ?_
  refine jm_iloadn d_X10_say_4 rfl ?_
  refine jm_iloadn d_X10_say_5 rfl ?_
  refine jm_invV (n1 := jm_N) (mc := 0) (ms := 0) (av := [jm_I _, jm_I _]) w_X6_flaw l_X10_142 d_X10_say_6 rfl is_21 ⟨_, _, rfl⟩ ⟨Nat.le_refl _, Nat.le_refl _⟩ (Nat.le_of_ble_eq_true rfl) rfl ?_
  refine jm_Cl.mono h (fun o m1 h hr _ => ?_)
  obtain ⟨r2, rfl⟩ := jm_rokI hr
  have h := h _ rfl
  refine jm_istoren (L' := [some (jm_R _), some (jm_I _), some (jm_I _), some (jm_I _)]) d_X10_say_9 (Nat.le_of_ble_eq_true rfl) rfl ?_
  refine jm_iloadn d_X10_say_10 rfl ?_
  refine jm_if_ne (tgt := 23) d_X10_say_11 (by decide) (fun c3 => ?_) (fun c3 => ?_)
  · have h := h.1 c3
    refine jm_iloadn d_X10_say_23 rfl ?_
    exact jm_ret (o := some (jm_I _)) d_X10_say_24 rfl ⟨Nat.le_refl _, Nat.le_refl _⟩ jm_r_I h rfl
  · have h := h.2 c3
    refine jm_aloadn d_X10_say_14 rfl ?_
    refine jm_getF (k := 3) (ki := 3) rfl cf_X10 (Nat.le_of_ble_eq_true rfl) f_X10_31 d_X10_say_15 rfl rfl is_0 fr_0_3 ?_
    refine jm_iloadn d_X10_say_18 rfl ?_
    refine jm_iloadn d_X10_say_19 rfl ?_
    refine jm_invV (n1 := jm_N) (mc := 0) (ms := 0) (av := [jm_I _, jm_I _]) w_X6_add l_X10_145 d_X10_say_20 rfl is_21 ⟨_, _, rfl⟩ ⟨Nat.le_refl _, Nat.le_refl _⟩ (Nat.le_of_ble_eq_true rfl) rfl ?_
    refine jm_Cl.mono h (fun o m4 h hr _ => ?_)
    obtain rfl := jm_rokV hr
    have h := h rfl
    refine jm_iloadn d_X10_say_23 rfl ?_
    exact jm_ret (o := some (jm_I _)) d_X10_say_24 rfl ⟨Nat.le_refl _, Nat.le_refl _⟩ jm_r_I h rfl
/-! ('CombTable', 'wrong', '(II)I') -/
theorem d_X10_wrong_0 : decode m_X10_wrong.2.1 0 = .ok (.aload_n 0, 1) := by decide +kernel
theorem d_X10_wrong_1 : decode m_X10_wrong.2.1 1 = .ok (.getfield 31, 3) := by decide +kernel
theorem d_X10_wrong_4 : decode m_X10_wrong.2.1 4 = .ok (.iload_n 1, 1) := by decide +kernel
theorem d_X10_wrong_5 : decode m_X10_wrong.2.1 5 = .ok (.iload_n 2, 1) := by decide +kernel
theorem d_X10_wrong_6 : decode m_X10_wrong.2.1 6 = .ok (.invokevirtual 142, 3) := by decide +kernel
theorem d_X10_wrong_9 : decode m_X10_wrong.2.1 9 = .ok (.ireturn, 1) := by decide +kernel
set_option maxRecDepth 20000 in
theorem e_X10_wrong {E : jm_E} {d : Nat} {μ : jm_M} {Q : Option jm_V → jm_M → Prop} {v1 v2 : Int} (h : (∀ v ∈ ([jm_R 0, jm_I v1, jm_I v2] : List jm_V), jm_ok v) →
  jc E m_X6_flaw d [jm_R 21, jm_I v1, jm_I v2] μ (fun (o : Option jm_V) (m1 : jm_M) => ∀ r2 : Int, o = some (jm_I r2) →
  Q (some (jm_I r2)) m1)) : jc E m_X10_wrong (d + 1) [jm_R 0, jm_I v1, jm_I v2] μ Q := by
  refine jm_Cl.of2 (by decide +kernel) (L0 := [some (jm_R 0), some (jm_I v1), some (jm_I v2)]) rfl (Nat.le_of_ble_eq_true rfl) (fun hok => ?_)
  have h := h hok
  refine jm_aloadn d_X10_wrong_0 rfl ?_
  refine jm_getF (k := 3) (ki := 3) rfl cf_X10 (Nat.le_of_ble_eq_true rfl) f_X10_31 d_X10_wrong_1 rfl rfl is_0 fr_0_3 ?_
  refine jm_iloadn d_X10_wrong_4 rfl ?_
  refine jm_iloadn d_X10_wrong_5 rfl ?_
  refine jm_invV (n1 := jm_N) (mc := 0) (ms := 0) (av := [jm_I _, jm_I _]) w_X6_flaw l_X10_142 d_X10_wrong_6 rfl is_21 ⟨_, _, rfl⟩ ⟨Nat.le_refl _, Nat.le_refl _⟩ (Nat.le_of_ble_eq_true rfl) rfl ?_
  refine jm_Cl.mono h (fun o m1 h hr _ => ?_)
  obtain ⟨r2, rfl⟩ := jm_rokI hr
  have h := h _ rfl
  exact jm_ret (o := some (jm_I _)) d_X10_wrong_9 rfl ⟨Nat.le_refl _, Nat.le_refl _⟩ jm_r_I h rfl
/-! ('CombTable', 'may', '(I)I') -/
theorem d_X10_may_0 : decode m_X10_may.2.1 0 = .ok (.aload_n 0, 1) := by decide +kernel
theorem d_X10_may_1 : decode m_X10_may.2.1 1 = .ok (.getfield 19, 3) := by decide +kernel
theorem d_X10_may_4 : decode m_X10_may.2.1 4 = .ok (.iload_n 1, 1) := by decide +kernel
theorem d_X10_may_5 : decode m_X10_may.2.1 5 = .ok (.invokevirtual 124, 3) := by decide +kernel
theorem d_X10_may_8 : decode m_X10_may.2.1 8 = .ok (.ifCond .eq 14, 3) := by decide +kernel
theorem d_X10_may_11 : decode m_X10_may.2.1 11 = .ok (.aload_n 0, 1) := by decide +kernel
theorem d_X10_may_12 : decode m_X10_may.2.1 12 = .ok (.getfield 31, 3) := by decide +kernel
theorem d_X10_may_15 : decode m_X10_may.2.1 15 = .ok (.iload_n 1, 1) := by decide +kernel
theorem d_X10_may_16 : decode m_X10_may.2.1 16 = .ok (.invokevirtual 149, 3) := by decide +kernel
theorem d_X10_may_19 : decode m_X10_may.2.1 19 = .ok (.goto 4, 3) := by decide +kernel
theorem d_X10_may_22 : decode m_X10_may.2.1 22 = .ok (.iconst (-1), 1) := by decide +kernel
theorem d_X10_may_23 : decode m_X10_may.2.1 23 = .ok (.ireturn, 1) := by decide +kernel
set_option maxRecDepth 20000 in
theorem e_X10_may {E : jm_E} {d : Nat} {μ : jm_M} {Q : Option jm_V → jm_M → Prop} {v1 : Int} (h : (∀ v ∈ ([jm_R 0, jm_I v1] : List jm_V), jm_ok v) →
  jc E m_X5_hasWho d [jm_R 3, jm_I v1] μ (fun (o : Option jm_V) (m1 : jm_M) => ∀ r2 : Int, o = some (jm_I r2) → (r2 = 0 ∨ r2 = 1) →
  ((r2 = 0 →
    Q (some (jm_I ((-1)))) m1) ∧
   (¬ (r2 = 0) →
    jc E m_X6_choices d [jm_R 21, jm_I v1] m1 (fun (o : Option jm_V) (m5 : jm_M) => ∀ r6 : Int, o = some (jm_I r6) →
    Q (some (jm_I r6)) m5))))) : jc E m_X10_may (d + 1) [jm_R 0, jm_I v1] μ Q := by
  refine jm_Cl.of2 (by decide +kernel) (L0 := [some (jm_R 0), some (jm_I v1)]) rfl (Nat.le_of_ble_eq_true rfl) (fun hok => ?_)
  have h := h hok
  refine jm_aloadn d_X10_may_0 rfl ?_
  refine jm_getF (k := 1) (ki := 1) rfl cf_X10 (Nat.le_of_ble_eq_true rfl) f_X10_19 d_X10_may_1 rfl rfl is_0 fr_0_1 ?_
  refine jm_iloadn d_X10_may_4 rfl ?_
  refine jm_invV (n1 := jm_N) (mc := 0) (ms := 0) (av := [jm_I _]) w_X5_hasWho l_X10_124 d_X10_may_5 rfl is_3 ⟨_, _, rfl⟩ ⟨Nat.le_refl _, Nat.le_refl _⟩ (Nat.le_of_ble_eq_true rfl) rfl ?_
  refine jm_Cl.mono h (fun o m1 h hr _ => ?_)
  obtain ⟨r2, rfl, z3⟩ := jm_rokZ hr
  have h := h _ rfl z3
  refine jm_if_eq (tgt := 22) d_X10_may_8 (by decide) (fun c4 => ?_) (fun c4 => ?_)
  · have h := h.1 c4
    refine jm_iconst (v := (-1)) d_X10_may_22 rfl (jm_okI (by decide) (by decide)) ?_
    exact jm_ret (o := some (jm_I _)) d_X10_may_23 rfl ⟨Nat.le_refl _, Nat.le_refl _⟩ jm_r_I h rfl
  · have h := h.2 c4
    refine jm_aloadn d_X10_may_11 rfl ?_
    refine jm_getF (k := 3) (ki := 3) rfl cf_X10 (Nat.le_of_ble_eq_true rfl) f_X10_31 d_X10_may_12 rfl rfl is_0 fr_0_3 ?_
    refine jm_iloadn d_X10_may_15 rfl ?_
    refine jm_invV (n1 := jm_N) (mc := 0) (ms := 0) (av := [jm_I _]) w_X6_choices l_X10_149 d_X10_may_16 rfl is_21 ⟨_, _, rfl⟩ ⟨Nat.le_refl _, Nat.le_refl _⟩ (Nat.le_of_ble_eq_true rfl) rfl ?_
    refine jm_Cl.mono h (fun o m5 h hr _ => ?_)
    obtain ⟨r6, rfl⟩ := jm_rokI hr
    have h := h _ rfl
    refine jm_goto (tgt := 23) d_X10_may_19 (by decide) ?_
    exact jm_ret (o := some (jm_I _)) d_X10_may_23 rfl ⟨Nat.le_refl _, Nat.le_refl _⟩ jm_r_I h rfl
/-! ('CombTable', 'undo', '()I') -/
theorem d_X10_undo_0 : decode m_X10_undo.2.1 0 = .ok (.aload_n 0, 1) := by decide +kernel
theorem d_X10_undo_1 : decode m_X10_undo.2.1 1 = .ok (.getfield 31, 3) := by decide +kernel
theorem d_X10_undo_4 : decode m_X10_undo.2.1 4 = .ok (.getfield 153, 3) := by decide +kernel
theorem d_X10_undo_7 : decode m_X10_undo.2.1 7 = .ok (.ifCond .ne 5, 3) := by decide +kernel
theorem d_X10_undo_10 : decode m_X10_undo.2.1 10 = .ok (.iconst (-1), 1) := by decide +kernel
theorem d_X10_undo_11 : decode m_X10_undo.2.1 11 = .ok (.ireturn, 1) := by decide +kernel
theorem d_X10_undo_12 : decode m_X10_undo.2.1 12 = .ok (.aload_n 0, 1) := by decide +kernel
theorem d_X10_undo_13 : decode m_X10_undo.2.1 13 = .ok (.getfield 31, 3) := by decide +kernel
theorem d_X10_undo_16 : decode m_X10_undo.2.1 16 = .ok (.invokevirtual 156, 3) := by decide +kernel
theorem d_X10_undo_19 : decode m_X10_undo.2.1 19 = .ok (.aload_n 0, 1) := by decide +kernel
theorem d_X10_undo_20 : decode m_X10_undo.2.1 20 = .ok (.getfield 31, 3) := by decide +kernel
theorem d_X10_undo_23 : decode m_X10_undo.2.1 23 = .ok (.getfield 153, 3) := by decide +kernel
theorem d_X10_undo_26 : decode m_X10_undo.2.1 26 = .ok (.ireturn, 1) := by decide +kernel
set_option maxRecDepth 20000 in
theorem e_X10_undo {E : jm_E} {d : Nat} {μ : jm_M} {Q : Option jm_V → jm_M → Prop}  (h : (∀ v ∈ ([jm_R 0] : List jm_V), jm_ok v) →
  ((μ 21 1 ≠ 0 →
    jc E m_X6_takeBack d [jm_R 21] μ (fun (o : Option jm_V) (m2 : jm_M) => o = none →
    Q (some (jm_I (m2 21 1))) m2)) ∧
   (¬ (μ 21 1 ≠ 0) →
    Q (some (jm_I ((-1)))) μ))) : jc E m_X10_undo (d + 1) [jm_R 0] μ Q := by
  refine jm_Cl.of2 (by decide +kernel) (L0 := [some (jm_R 0)]) rfl (Nat.le_of_ble_eq_true rfl) (fun hok => ?_)
  have h := h hok
  refine jm_aloadn d_X10_undo_0 rfl ?_
  refine jm_getF (k := 3) (ki := 3) rfl cf_X10 (Nat.le_of_ble_eq_true rfl) f_X10_31 d_X10_undo_1 rfl rfl is_0 fr_0_3 ?_
  refine jm_getI (k := 1) (ki := 1) cf_X6 (Nat.le_of_ble_eq_true rfl) f_X10_153 d_X10_undo_4 rfl rfl is_21 rfl ?_
  refine jm_if_ne (tgt := 12) d_X10_undo_7 (by decide) (fun c1 => ?_) (fun c1 => ?_)
  · have h := h.1 c1
    refine jm_aloadn d_X10_undo_12 rfl ?_
    refine jm_getF (k := 3) (ki := 3) rfl cf_X10 (Nat.le_of_ble_eq_true rfl) f_X10_31 d_X10_undo_13 rfl rfl is_0 fr_0_3 ?_
    refine jm_invV (n1 := jm_N) (mc := 0) (ms := 0) (av := []) w_X6_takeBack l_X10_156 d_X10_undo_16 rfl is_21 ⟨_, _, rfl⟩ ⟨Nat.le_refl _, Nat.le_refl _⟩ (Nat.le_of_ble_eq_true rfl) rfl ?_
    refine jm_Cl.mono h (fun o m2 h hr _ => ?_)
    obtain rfl := jm_rokV hr
    have h := h rfl
    refine jm_aloadn d_X10_undo_19 rfl ?_
    refine jm_getF (k := 3) (ki := 3) rfl cf_X10 (Nat.le_of_ble_eq_true rfl) f_X10_31 d_X10_undo_20 rfl rfl is_0 fr_0_3 ?_
    refine jm_getI (k := 1) (ki := 1) cf_X6 (Nat.le_of_ble_eq_true rfl) f_X10_153 d_X10_undo_23 rfl rfl is_21 rfl ?_
    exact jm_ret (o := some (jm_I _)) d_X10_undo_26 rfl ⟨Nat.le_refl _, Nat.le_refl _⟩ jm_r_I h rfl
  · have h := h.2 c1
    refine jm_iconst (v := (-1)) d_X10_undo_10 rfl (jm_okI (by decide) (by decide)) ?_
    exact jm_ret (o := some (jm_I _)) d_X10_undo_11 rfl ⟨Nat.le_refl _, Nat.le_refl _⟩ jm_r_I h rfl
/-! ('CombTable', 'why', '()I') -/
theorem d_X10_why_0 : decode m_X10_why.2.1 0 = .ok (.aload_n 0, 1) := by decide +kernel
theorem d_X10_why_1 : decode m_X10_why.2.1 1 = .ok (.getfield 31, 3) := by decide +kernel
theorem d_X10_why_4 : decode m_X10_why.2.1 4 = .ok (.getfield 165, 3) := by decide +kernel
theorem d_X10_why_7 : decode m_X10_why.2.1 7 = .ok (.ireturn, 1) := by decide +kernel
set_option maxRecDepth 20000 in
theorem e_X10_why {E : jm_E} {d : Nat} {μ : jm_M} {Q : Option jm_V → jm_M → Prop}  (h : (∀ v ∈ ([jm_R 0] : List jm_V), jm_ok v) →
  Q (some (jm_I (μ 21 3))) μ) : jc E m_X10_why (d + 1) [jm_R 0] μ Q := by
  refine jm_Cl.of2 (by decide +kernel) (L0 := [some (jm_R 0)]) rfl (Nat.le_of_ble_eq_true rfl) (fun hok => ?_)
  have h := h hok
  refine jm_aloadn d_X10_why_0 rfl ?_
  refine jm_getF (k := 3) (ki := 3) rfl cf_X10 (Nat.le_of_ble_eq_true rfl) f_X10_31 d_X10_why_1 rfl rfl is_0 fr_0_3 ?_
  refine jm_getI (k := 3) (ki := 3) cf_X6 (Nat.le_of_ble_eq_true rfl) f_X10_165 d_X10_why_4 rfl rfl is_21 rfl ?_
  exact jm_ret (o := some (jm_I _)) d_X10_why_7 rfl ⟨Nat.le_refl _, Nat.le_refl _⟩ jm_r_I h rfl
-- X10_word: by hand (.new 135)
/-! ('CombTable', 'threads', '()I') -/
theorem d_X10_threads_0 : decode m_X10_threads.2.1 0 = .ok (.aload_n 0, 1) := by decide +kernel
theorem d_X10_threads_1 : decode m_X10_threads.2.1 1 = .ok (.getfield 31, 3) := by decide +kernel
theorem d_X10_threads_4 : decode m_X10_threads.2.1 4 = .ok (.getfield 172, 3) := by decide +kernel
theorem d_X10_threads_7 : decode m_X10_threads.2.1 7 = .ok (.ireturn, 1) := by decide +kernel
set_option maxRecDepth 20000 in
theorem e_X10_threads {E : jm_E} {d : Nat} {μ : jm_M} {Q : Option jm_V → jm_M → Prop}  (h : (∀ v ∈ ([jm_R 0] : List jm_V), jm_ok v) →
  Q (some (jm_I (μ 21 2))) μ) : jc E m_X10_threads (d + 1) [jm_R 0] μ Q := by
  refine jm_Cl.of2 (by decide +kernel) (L0 := [some (jm_R 0)]) rfl (Nat.le_of_ble_eq_true rfl) (fun hok => ?_)
  have h := h hok
  refine jm_aloadn d_X10_threads_0 rfl ?_
  refine jm_getF (k := 3) (ki := 3) rfl cf_X10 (Nat.le_of_ble_eq_true rfl) f_X10_31 d_X10_threads_1 rfl rfl is_0 fr_0_3 ?_
  refine jm_getI (k := 2) (ki := 2) cf_X6 (Nat.le_of_ble_eq_true rfl) f_X10_172 d_X10_threads_4 rfl rfl is_21 rfl ?_
  exact jm_ret (o := some (jm_I _)) d_X10_threads_7 rfl ⟨Nat.le_refl _, Nat.le_refl _⟩ jm_r_I h rfl
/-! ('CombTable', 'wholes', '(I)I') -/
theorem d_X10_wholes_0 : decode m_X10_wholes.2.1 0 = .ok (.iload_n 1, 1) := by decide +kernel
theorem d_X10_wholes_1 : decode m_X10_wholes.2.1 1 = .ok (.ifCond .lt 8, 3) := by decide +kernel
theorem d_X10_wholes_4 : decode m_X10_wholes.2.1 4 = .ok (.iload_n 1, 1) := by decide +kernel
theorem d_X10_wholes_5 : decode m_X10_wholes.2.1 5 = .ok (.iconst 2, 1) := by decide +kernel
theorem d_X10_wholes_6 : decode m_X10_wholes.2.1 6 = .ok (.if_icmp .le 5, 3) := by decide +kernel
theorem d_X10_wholes_9 : decode m_X10_wholes.2.1 9 = .ok (.iconst (-1), 1) := by decide +kernel
theorem d_X10_wholes_10 : decode m_X10_wholes.2.1 10 = .ok (.ireturn, 1) := by decide +kernel
theorem d_X10_wholes_11 : decode m_X10_wholes.2.1 11 = .ok (.aload_n 0, 1) := by decide +kernel
theorem d_X10_wholes_12 : decode m_X10_wholes.2.1 12 = .ok (.getfield 44, 3) := by decide +kernel
theorem d_X10_wholes_15 : decode m_X10_wholes.2.1 15 = .ok (.aload_n 0, 1) := by decide +kernel
theorem d_X10_wholes_16 : decode m_X10_wholes.2.1 16 = .ok (.getfield 19, 3) := by decide +kernel
theorem d_X10_wholes_19 : decode m_X10_wholes.2.1 19 = .ok (.invokevirtual 186, 3) := by decide +kernel
theorem d_X10_wholes_22 : decode m_X10_wholes.2.1 22 = .ok (.ldc2_w 190, 3) := by decide +kernel
theorem d_X10_wholes_25 : decode m_X10_wholes.2.1 25 = .ok (.lcmp, 1) := by decide +kernel
theorem d_X10_wholes_26 : decode m_X10_wholes.2.1 26 = .ok (.ifCond .le 6, 3) := by decide +kernel
theorem d_X10_wholes_29 : decode m_X10_wholes.2.1 29 = .ok (.bipush (-2), 2) := by decide +kernel
theorem d_X10_wholes_31 : decode m_X10_wholes.2.1 31 = .ok (.ireturn, 1) := by decide +kernel
theorem d_X10_wholes_32 : decode m_X10_wholes.2.1 32 = .ok (.aload_n 0, 1) := by decide +kernel
theorem d_X10_wholes_33 : decode m_X10_wholes.2.1 33 = .ok (.getfield 35, 3) := by decide +kernel
theorem d_X10_wholes_36 : decode m_X10_wholes.2.1 36 = .ok (.aload_n 0, 1) := by decide +kernel
theorem d_X10_wholes_37 : decode m_X10_wholes.2.1 37 = .ok (.getfield 19, 3) := by decide +kernel
theorem d_X10_wholes_40 : decode m_X10_wholes.2.1 40 = .ok (.invokevirtual 107, 3) := by decide +kernel
theorem d_X10_wholes_43 : decode m_X10_wholes.2.1 43 = .ok (.aload_n 0, 1) := by decide +kernel
theorem d_X10_wholes_44 : decode m_X10_wholes.2.1 44 = .ok (.getfield 81, 3) := by decide +kernel
theorem d_X10_wholes_47 : decode m_X10_wholes.2.1 47 = .ok (.aload_n 0, 1) := by decide +kernel
theorem d_X10_wholes_48 : decode m_X10_wholes.2.1 48 = .ok (.getfield 44, 3) := by decide +kernel
theorem d_X10_wholes_51 : decode m_X10_wholes.2.1 51 = .ok (.aload_n 0, 1) := by decide +kernel
theorem d_X10_wholes_52 : decode m_X10_wholes.2.1 52 = .ok (.getfield 35, 3) := by decide +kernel
theorem d_X10_wholes_55 : decode m_X10_wholes.2.1 55 = .ok (.iload_n 1, 1) := by decide +kernel
theorem d_X10_wholes_56 : decode m_X10_wholes.2.1 56 = .ok (.invokevirtual 192, 3) := by decide +kernel
theorem d_X10_wholes_59 : decode m_X10_wholes.2.1 59 = .ok (.ireturn, 1) := by decide +kernel
set_option maxRecDepth 20000 in
theorem e_X10_wholes {E : jm_E} {d : Nat} {μ : jm_M} {Q : Option jm_V → jm_M → Prop} {v1 : Int} (h : (∀ v ∈ ([jm_R 0, jm_I v1] : List jm_V), jm_ok v) →
  ((v1 < 0 →
    Q (some (jm_I ((-1)))) μ) ∧
   (¬ (v1 < 0) →
    ((v1 ≤ 2 →
      jc E m_X1_ways d [jm_R 69, jm_R 3] μ (fun (o : Option jm_V) (m3 : jm_M) => ∀ r4 : Int, o = some (jm_L r4) →
      ((jm_cmp r4 20000 ≤ 0 →
        jc E m_X6_begin d [jm_R 37, jm_R 3] m3 (fun (o : Option jm_V) (m6 : jm_M) => o = none →
        jc E m_X9_all d [jm_R 124, jm_R 69, jm_R 37, jm_I v1] m6 (fun (o : Option jm_V) (m7 : jm_M) => ∀ r8 : Int, o = some (jm_I r8) →
        Q (some (jm_I r8)) m7))) ∧
       (¬ (jm_cmp r4 20000 ≤ 0) →
        Q (some (jm_I ((-2)))) m3)))) ∧
     (¬ (v1 ≤ 2) →
      Q (some (jm_I ((-1)))) μ))))) : jc E m_X10_wholes (d + 1) [jm_R 0, jm_I v1] μ Q := by
  refine jm_Cl.of2 (by decide +kernel) (L0 := [some (jm_R 0), some (jm_I v1)]) rfl (Nat.le_of_ble_eq_true rfl) (fun hok => ?_)
  have h := h hok
  refine jm_iloadn d_X10_wholes_0 rfl ?_
  refine jm_if_lt (tgt := 9) d_X10_wholes_1 (by decide) (fun c1 => ?_) (fun c1 => ?_)
  · have h := h.1 c1
    refine jm_iconst (v := (-1)) d_X10_wholes_9 rfl (jm_okI (by decide) (by decide)) ?_
    exact jm_ret (o := some (jm_I _)) d_X10_wholes_10 rfl ⟨Nat.le_refl _, Nat.le_refl _⟩ jm_r_I h rfl
  · have h := h.2 c1
    refine jm_iloadn d_X10_wholes_4 rfl ?_
    refine jm_iconst (v := 2) d_X10_wholes_5 rfl (jm_okI (by decide) (by decide)) ?_
    refine jm_icmp_le (tgt := 11) d_X10_wholes_6 (by decide) (fun c2 => ?_) (fun c2 => ?_)
    · have h := h.1 c2
      refine jm_aloadn d_X10_wholes_11 rfl ?_
      refine jm_getF (k := 6) (ki := 6) rfl cf_X10 (Nat.le_of_ble_eq_true rfl) f_X10_44 d_X10_wholes_12 rfl rfl is_0 fr_0_6 ?_
      refine jm_aloadn d_X10_wholes_15 rfl ?_
      refine jm_getF (k := 1) (ki := 1) rfl cf_X10 (Nat.le_of_ble_eq_true rfl) f_X10_19 d_X10_wholes_16 rfl rfl is_0 fr_0_1 ?_
      refine jm_invV (n1 := jm_N) (mc := 0) (ms := 0) (av := [jm_R _]) w_X1_ways l_X10_186 d_X10_wholes_19 rfl is_69 ⟨_, _, rfl⟩ ⟨Nat.le_refl _, Nat.le_refl _⟩ (Nat.le_of_ble_eq_true rfl) rfl ?_
      refine jm_Cl.mono h (fun o m3 h hr _ => ?_)
      obtain ⟨r4, rfl⟩ := jm_rokL hr
      have h := h _ rfl
      refine jm_ldc2 (v := 20000) d_X10_wholes_22 k_X10_190 (jm_okL (by decide) (by decide)) ?_
      refine jm_lcmp d_X10_wholes_25 ?_
      refine jm_if_le (tgt := 32) d_X10_wholes_26 (by decide) (fun c5 => ?_) (fun c5 => ?_)
      · have h := h.1 c5
        refine jm_aloadn d_X10_wholes_32 rfl ?_
        refine jm_getF (k := 4) (ki := 4) rfl cf_X10 (Nat.le_of_ble_eq_true rfl) f_X10_35 d_X10_wholes_33 rfl rfl is_0 fr_0_4 ?_
        refine jm_aloadn d_X10_wholes_36 rfl ?_
        refine jm_getF (k := 1) (ki := 1) rfl cf_X10 (Nat.le_of_ble_eq_true rfl) f_X10_19 d_X10_wholes_37 rfl rfl is_0 fr_0_1 ?_
        refine jm_invV (n1 := jm_N) (mc := 0) (ms := 0) (av := [jm_R _]) w_X6_begin l_X10_107 d_X10_wholes_40 rfl is_37 ⟨_, _, rfl⟩ ⟨Nat.le_refl _, Nat.le_refl _⟩ (Nat.le_of_ble_eq_true rfl) rfl ?_
        refine jm_Cl.mono h (fun o m6 h hr _ => ?_)
        obtain rfl := jm_rokV hr
        have h := h rfl
        refine jm_aloadn d_X10_wholes_43 rfl ?_
        refine jm_getF (k := 13) (ki := 13) rfl cf_X10 (Nat.le_of_ble_eq_true rfl) f_X10_81 d_X10_wholes_44 rfl rfl is_0 fr_0_13 ?_
        refine jm_aloadn d_X10_wholes_47 rfl ?_
        refine jm_getF (k := 6) (ki := 6) rfl cf_X10 (Nat.le_of_ble_eq_true rfl) f_X10_44 d_X10_wholes_48 rfl rfl is_0 fr_0_6 ?_
        refine jm_aloadn d_X10_wholes_51 rfl ?_
        refine jm_getF (k := 4) (ki := 4) rfl cf_X10 (Nat.le_of_ble_eq_true rfl) f_X10_35 d_X10_wholes_52 rfl rfl is_0 fr_0_4 ?_
        refine jm_iloadn d_X10_wholes_55 rfl ?_
        refine jm_invV (n1 := jm_N) (mc := 0) (ms := 0) (av := [jm_R _, jm_R _, jm_I _]) w_X9_all l_X10_192 d_X10_wholes_56 rfl is_124 ⟨_, _, rfl⟩ ⟨Nat.le_refl _, Nat.le_refl _⟩ (Nat.le_of_ble_eq_true rfl) rfl ?_
        refine jm_Cl.mono h (fun o m7 h hr _ => ?_)
        obtain ⟨r8, rfl⟩ := jm_rokI hr
        have h := h _ rfl
        exact jm_ret (o := some (jm_I _)) d_X10_wholes_59 rfl ⟨Nat.le_refl _, Nat.le_refl _⟩ jm_r_I h rfl
      · have h := h.2 c5
        refine jm_bipush (v := (-2)) d_X10_wholes_29 rfl (jm_okI (by decide) (by decide)) ?_
        exact jm_ret (o := some (jm_I _)) d_X10_wholes_31 rfl ⟨Nat.le_refl _, Nat.le_refl _⟩ jm_r_I h rfl
    · have h := h.2 c2
      refine jm_iconst (v := (-1)) d_X10_wholes_9 rfl (jm_okI (by decide) (by decide)) ?_
      exact jm_ret (o := some (jm_I _)) d_X10_wholes_10 rfl ⟨Nat.le_refl _, Nat.le_refl _⟩ jm_r_I h rfl
/-! ('CombTable', 'mended', '()I') -/
theorem d_X10_mended_0 : decode m_X10_mended.2.1 0 = .ok (.aload_n 0, 1) := by decide +kernel
theorem d_X10_mended_1 : decode m_X10_mended.2.1 1 = .ok (.getfield 88, 3) := by decide +kernel
theorem d_X10_mended_4 : decode m_X10_mended.2.1 4 = .ok (.getfield 217, 3) := by decide +kernel
theorem d_X10_mended_7 : decode m_X10_mended.2.1 7 = .ok (.ireturn, 1) := by decide +kernel
set_option maxRecDepth 20000 in
theorem e_X10_mended {E : jm_E} {d : Nat} {μ : jm_M} {Q : Option jm_V → jm_M → Prop}  (h : (∀ v ∈ ([jm_R 0] : List jm_V), jm_ok v) →
  Q (some (jm_I (μ 130 2))) μ) : jc E m_X10_mended (d + 1) [jm_R 0] μ Q := by
  refine jm_Cl.of2 (by decide +kernel) (L0 := [some (jm_R 0)]) rfl (Nat.le_of_ble_eq_true rfl) (fun hok => ?_)
  have h := h hok
  refine jm_aloadn d_X10_mended_0 rfl ?_
  refine jm_getF (k := 14) (ki := 14) rfl cf_X10 (Nat.le_of_ble_eq_true rfl) f_X10_88 d_X10_mended_1 rfl rfl is_0 fr_0_14 ?_
  refine jm_getI (k := 2) (ki := 2) cf_X2 (Nat.le_of_ble_eq_true rfl) f_X10_217 d_X10_mended_4 rfl rfl is_130 rfl ?_
  exact jm_ret (o := some (jm_I _)) d_X10_mended_7 rfl ⟨Nat.le_refl _, Nat.le_refl _⟩ jm_r_I h rfl
/-! ('CombTable', 'orders', '()I') -/
theorem d_X10_orders_0 : decode m_X10_orders.2.1 0 = .ok (.aload_n 0, 1) := by decide +kernel
theorem d_X10_orders_1 : decode m_X10_orders.2.1 1 = .ok (.getfield 44, 3) := by decide +kernel
theorem d_X10_orders_4 : decode m_X10_orders.2.1 4 = .ok (.getfield 211, 3) := by decide +kernel
theorem d_X10_orders_7 : decode m_X10_orders.2.1 7 = .ok (.ifCond .gt 15, 3) := by decide +kernel
theorem d_X10_orders_10 : decode m_X10_orders.2.1 10 = .ok (.aload_n 0, 1) := by decide +kernel
theorem d_X10_orders_11 : decode m_X10_orders.2.1 11 = .ok (.getfield 44, 3) := by decide +kernel
theorem d_X10_orders_14 : decode m_X10_orders.2.1 14 = .ok (.getfield 185, 3) := by decide +kernel
theorem d_X10_orders_17 : decode m_X10_orders.2.1 17 = .ok (.bipush 7, 2) := by decide +kernel
theorem d_X10_orders_19 : decode m_X10_orders.2.1 19 = .ok (.if_icmp .le 5, 3) := by decide +kernel
theorem d_X10_orders_22 : decode m_X10_orders.2.1 22 = .ok (.iconst (-1), 1) := by decide +kernel
theorem d_X10_orders_23 : decode m_X10_orders.2.1 23 = .ok (.ireturn, 1) := by decide +kernel
theorem d_X10_orders_24 : decode m_X10_orders.2.1 24 = .ok (.aload_n 0, 1) := by decide +kernel
theorem d_X10_orders_25 : decode m_X10_orders.2.1 25 = .ok (.getfield 35, 3) := by decide +kernel
theorem d_X10_orders_28 : decode m_X10_orders.2.1 28 = .ok (.aload_n 0, 1) := by decide +kernel
theorem d_X10_orders_29 : decode m_X10_orders.2.1 29 = .ok (.getfield 19, 3) := by decide +kernel
theorem d_X10_orders_32 : decode m_X10_orders.2.1 32 = .ok (.invokevirtual 107, 3) := by decide +kernel
theorem d_X10_orders_35 : decode m_X10_orders.2.1 35 = .ok (.aload_n 0, 1) := by decide +kernel
theorem d_X10_orders_36 : decode m_X10_orders.2.1 36 = .ok (.getfield 88, 3) := by decide +kernel
theorem d_X10_orders_39 : decode m_X10_orders.2.1 39 = .ok (.aload_n 0, 1) := by decide +kernel
theorem d_X10_orders_40 : decode m_X10_orders.2.1 40 = .ok (.getfield 44, 3) := by decide +kernel
theorem d_X10_orders_43 : decode m_X10_orders.2.1 43 = .ok (.aload_n 0, 1) := by decide +kernel
theorem d_X10_orders_44 : decode m_X10_orders.2.1 44 = .ok (.getfield 35, 3) := by decide +kernel
theorem d_X10_orders_47 : decode m_X10_orders.2.1 47 = .ok (.invokevirtual 220, 3) := by decide +kernel
theorem d_X10_orders_50 : decode m_X10_orders.2.1 50 = .ok (.ireturn, 1) := by decide +kernel
set_option maxRecDepth 20000 in
theorem e_X10_orders {E : jm_E} {d : Nat} {μ : jm_M} {Q : Option jm_V → jm_M → Prop}  (h : (∀ v ∈ ([jm_R 0] : List jm_V), jm_ok v) →
  ((0 < μ 69 1 →
    Q (some (jm_I ((-1)))) μ) ∧
   (¬ (0 < μ 69 1) →
    ((μ 69 0 ≤ 7 →
      jc E m_X6_begin d [jm_R 37, jm_R 3] μ (fun (o : Option jm_V) (m3 : jm_M) => o = none →
      jc E m_X2_arrange d [jm_R 130, jm_R 69, jm_R 37] m3 (fun (o : Option jm_V) (m4 : jm_M) => ∀ r5 : Int, o = some (jm_I r5) →
      Q (some (jm_I r5)) m4))) ∧
     (¬ (μ 69 0 ≤ 7) →
      Q (some (jm_I ((-1)))) μ))))) : jc E m_X10_orders (d + 1) [jm_R 0] μ Q := by
  refine jm_Cl.of2 (by decide +kernel) (L0 := [some (jm_R 0)]) rfl (Nat.le_of_ble_eq_true rfl) (fun hok => ?_)
  have h := h hok
  refine jm_aloadn d_X10_orders_0 rfl ?_
  refine jm_getF (k := 6) (ki := 6) rfl cf_X10 (Nat.le_of_ble_eq_true rfl) f_X10_44 d_X10_orders_1 rfl rfl is_0 fr_0_6 ?_
  refine jm_getI (k := 1) (ki := 1) cf_X1 (Nat.le_of_ble_eq_true rfl) f_X10_211 d_X10_orders_4 rfl rfl is_69 rfl ?_
  refine jm_if_gt (tgt := 22) d_X10_orders_7 (by decide) (fun c1 => ?_) (fun c1 => ?_)
  · have h := h.1 c1
    refine jm_iconst (v := (-1)) d_X10_orders_22 rfl (jm_okI (by decide) (by decide)) ?_
    exact jm_ret (o := some (jm_I _)) d_X10_orders_23 rfl ⟨Nat.le_refl _, Nat.le_refl _⟩ jm_r_I h rfl
  · have h := h.2 c1
    refine jm_aloadn d_X10_orders_10 rfl ?_
    refine jm_getF (k := 6) (ki := 6) rfl cf_X10 (Nat.le_of_ble_eq_true rfl) f_X10_44 d_X10_orders_11 rfl rfl is_0 fr_0_6 ?_
    refine jm_getI (k := 0) (ki := 0) cf_X1 (Nat.le_of_ble_eq_true rfl) f_X10_185 d_X10_orders_14 rfl rfl is_69 rfl ?_
    refine jm_bipush (v := 7) d_X10_orders_17 rfl (jm_okI (by decide) (by decide)) ?_
    refine jm_icmp_le (tgt := 24) d_X10_orders_19 (by decide) (fun c2 => ?_) (fun c2 => ?_)
    · have h := h.1 c2
      refine jm_aloadn d_X10_orders_24 rfl ?_
      refine jm_getF (k := 4) (ki := 4) rfl cf_X10 (Nat.le_of_ble_eq_true rfl) f_X10_35 d_X10_orders_25 rfl rfl is_0 fr_0_4 ?_
      refine jm_aloadn d_X10_orders_28 rfl ?_
      refine jm_getF (k := 1) (ki := 1) rfl cf_X10 (Nat.le_of_ble_eq_true rfl) f_X10_19 d_X10_orders_29 rfl rfl is_0 fr_0_1 ?_
      refine jm_invV (n1 := jm_N) (mc := 0) (ms := 0) (av := [jm_R _]) w_X6_begin l_X10_107 d_X10_orders_32 rfl is_37 ⟨_, _, rfl⟩ ⟨Nat.le_refl _, Nat.le_refl _⟩ (Nat.le_of_ble_eq_true rfl) rfl ?_
      refine jm_Cl.mono h (fun o m3 h hr _ => ?_)
      obtain rfl := jm_rokV hr
      have h := h rfl
      refine jm_aloadn d_X10_orders_35 rfl ?_
      refine jm_getF (k := 14) (ki := 14) rfl cf_X10 (Nat.le_of_ble_eq_true rfl) f_X10_88 d_X10_orders_36 rfl rfl is_0 fr_0_14 ?_
      refine jm_aloadn d_X10_orders_39 rfl ?_
      refine jm_getF (k := 6) (ki := 6) rfl cf_X10 (Nat.le_of_ble_eq_true rfl) f_X10_44 d_X10_orders_40 rfl rfl is_0 fr_0_6 ?_
      refine jm_aloadn d_X10_orders_43 rfl ?_
      refine jm_getF (k := 4) (ki := 4) rfl cf_X10 (Nat.le_of_ble_eq_true rfl) f_X10_35 d_X10_orders_44 rfl rfl is_0 fr_0_4 ?_
      refine jm_invV (n1 := jm_N) (mc := 0) (ms := 0) (av := [jm_R _, jm_R _]) w_X2_arrange l_X10_220 d_X10_orders_47 rfl is_130 ⟨_, _, rfl⟩ ⟨Nat.le_refl _, Nat.le_refl _⟩ (Nat.le_of_ble_eq_true rfl) rfl ?_
      refine jm_Cl.mono h (fun o m4 h hr _ => ?_)
      obtain ⟨r5, rfl⟩ := jm_rokI hr
      have h := h _ rfl
      exact jm_ret (o := some (jm_I _)) d_X10_orders_50 rfl ⟨Nat.le_refl _, Nat.le_refl _⟩ jm_r_I h rfl
    · have h := h.2 c2
      refine jm_iconst (v := (-1)) d_X10_orders_22 rfl (jm_okI (by decide) (by decide)) ?_
      exact jm_ret (o := some (jm_I _)) d_X10_orders_23 rfl ⟨Nat.le_refl _, Nat.le_refl _⟩ jm_r_I h rfl
/-! ('CombTable', 'drawn', '(II)I') -/
theorem d_X10_drawn_0 : decode m_X10_drawn.2.1 0 = .ok (.iload_n 1, 1) := by decide +kernel
theorem d_X10_drawn_1 : decode m_X10_drawn.2.1 1 = .ok (.iconst 1, 1) := by decide +kernel
theorem d_X10_drawn_2 : decode m_X10_drawn.2.1 2 = .ok (.if_icmp .lt 10, 3) := by decide +kernel
theorem d_X10_drawn_5 : decode m_X10_drawn.2.1 5 = .ok (.iload_n 1, 1) := by decide +kernel
theorem d_X10_drawn_6 : decode m_X10_drawn.2.1 6 = .ok (.sipush 400, 3) := by decide +kernel
theorem d_X10_drawn_9 : decode m_X10_drawn.2.1 9 = .ok (.if_icmp .le 5, 3) := by decide +kernel
theorem d_X10_drawn_12 : decode m_X10_drawn.2.1 12 = .ok (.iconst (-1), 1) := by decide +kernel
theorem d_X10_drawn_13 : decode m_X10_drawn.2.1 13 = .ok (.ireturn, 1) := by decide +kernel
theorem d_X10_drawn_14 : decode m_X10_drawn.2.1 14 = .ok (.iload_n 2, 1) := by decide +kernel
theorem d_X10_drawn_15 : decode m_X10_drawn.2.1 15 = .ok (.istore_n 3, 1) := by decide +kernel
theorem d_X10_drawn_16 : decode m_X10_drawn.2.1 16 = .ok (.iconst 0, 1) := by decide +kernel
theorem d_X10_drawn_17 : decode m_X10_drawn.2.1 17 = .ok (.istore 4, 2) := by decide +kernel
theorem d_X10_drawn_19 : decode m_X10_drawn.2.1 19 = .ok (.iload 4, 2) := by decide +kernel
theorem d_X10_drawn_21 : decode m_X10_drawn.2.1 21 = .ok (.iload_n 1, 1) := by decide +kernel
theorem d_X10_drawn_22 : decode m_X10_drawn.2.1 22 = .ok (.if_icmp .ge 49, 3) := by decide +kernel
theorem d_X10_drawn_25 : decode m_X10_drawn.2.1 25 = .ok (.aload_n 0, 1) := by decide +kernel
theorem d_X10_drawn_26 : decode m_X10_drawn.2.1 26 = .ok (.getfield 31, 3) := by decide +kernel
theorem d_X10_drawn_29 : decode m_X10_drawn.2.1 29 = .ok (.invokevirtual 226, 3) := by decide +kernel
theorem d_X10_drawn_32 : decode m_X10_drawn.2.1 32 = .ok (.istore 5, 2) := by decide +kernel
theorem d_X10_drawn_34 : decode m_X10_drawn.2.1 34 = .ok (.iload 5, 2) := by decide +kernel
theorem d_X10_drawn_36 : decode m_X10_drawn.2.1 36 = .ok (.ifCond .gt 6, 3) := by decide +kernel
theorem d_X10_drawn_39 : decode m_X10_drawn.2.1 39 = .ok (.iload 4, 2) := by decide +kernel
theorem d_X10_drawn_41 : decode m_X10_drawn.2.1 41 = .ok (.ireturn, 1) := by decide +kernel
theorem d_X10_drawn_42 : decode m_X10_drawn.2.1 42 = .ok (.iload_n 3, 1) := by decide +kernel
theorem d_X10_drawn_43 : decode m_X10_drawn.2.1 43 = .ok (.ldc 230, 2) := by decide +kernel
theorem d_X10_drawn_45 : decode m_X10_drawn.2.1 45 = .ok (.imul, 1) := by decide +kernel
theorem d_X10_drawn_46 : decode m_X10_drawn.2.1 46 = .ok (.sipush 12345, 3) := by decide +kernel
theorem d_X10_drawn_49 : decode m_X10_drawn.2.1 49 = .ok (.iadd, 1) := by decide +kernel
theorem d_X10_drawn_50 : decode m_X10_drawn.2.1 50 = .ok (.istore_n 3, 1) := by decide +kernel
theorem d_X10_drawn_51 : decode m_X10_drawn.2.1 51 = .ok (.aload_n 0, 1) := by decide +kernel
theorem d_X10_drawn_52 : decode m_X10_drawn.2.1 52 = .ok (.getfield 31, 3) := by decide +kernel
theorem d_X10_drawn_55 : decode m_X10_drawn.2.1 55 = .ok (.iload_n 3, 1) := by decide +kernel
theorem d_X10_drawn_56 : decode m_X10_drawn.2.1 56 = .ok (.bipush 8, 2) := by decide +kernel
theorem d_X10_drawn_58 : decode m_X10_drawn.2.1 58 = .ok (.iushr, 1) := by decide +kernel
theorem d_X10_drawn_59 : decode m_X10_drawn.2.1 59 = .ok (.iload 5, 2) := by decide +kernel
theorem d_X10_drawn_61 : decode m_X10_drawn.2.1 61 = .ok (.irem, 1) := by decide +kernel
theorem d_X10_drawn_62 : decode m_X10_drawn.2.1 62 = .ok (.invokevirtual 231, 3) := by decide +kernel
theorem d_X10_drawn_65 : decode m_X10_drawn.2.1 65 = .ok (.iinc 4 1, 3) := by decide +kernel
theorem d_X10_drawn_68 : decode m_X10_drawn.2.1 68 = .ok (.goto (-49), 3) := by decide +kernel
theorem d_X10_drawn_71 : decode m_X10_drawn.2.1 71 = .ok (.iload_n 1, 1) := by decide +kernel
theorem d_X10_drawn_72 : decode m_X10_drawn.2.1 72 = .ok (.ireturn, 1) := by decide +kernel
set_option maxRecDepth 20000 in
theorem e_X10_drawn {E : jm_E} {d : Nat} {μ : jm_M} {Q : Option jm_V → jm_M → Prop} {v1 v2 : Int} (h : (∀ v ∈ ([jm_R 0, jm_I v1, jm_I v2] : List jm_V), jm_ok v) →
  ((v1 < 1 →
    Q (some (jm_I ((-1)))) μ) ∧
   (¬ (v1 < 1) →
    ((v1 ≤ 400 →
      jg E m_X10_drawn d 19 [some (jm_R 0), some (jm_I v1), none, some (jm_I v2), some (jm_I 0), none] [] μ Q) ∧
     (¬ (v1 ≤ 400) →
      Q (some (jm_I ((-1)))) μ))))) : jc E m_X10_drawn (d + 1) [jm_R 0, jm_I v1, jm_I v2] μ Q := by
  refine jm_Cl.of2 (by decide +kernel) (L0 := [some (jm_R 0), some (jm_I v1), some (jm_I v2), none, none, none]) rfl (Nat.le_of_ble_eq_true rfl) (fun hok => ?_)
  have h := h hok
  refine jm_iloadn d_X10_drawn_0 rfl ?_
  refine jm_iconst (v := 1) d_X10_drawn_1 rfl (jm_okI (by decide) (by decide)) ?_
  refine jm_icmp_lt (tgt := 12) d_X10_drawn_2 (by decide) (fun c1 => ?_) (fun c1 => ?_)
  · have h := h.1 c1
    refine jm_iconst (v := (-1)) d_X10_drawn_12 rfl (jm_okI (by decide) (by decide)) ?_
    exact jm_ret (o := some (jm_I _)) d_X10_drawn_13 rfl ⟨Nat.le_refl _, Nat.le_refl _⟩ jm_r_I h rfl
  · have h := h.2 c1
    refine jm_iloadn d_X10_drawn_5 rfl ?_
    refine jm_sipush (v := 400) d_X10_drawn_6 rfl (jm_okI (by decide) (by decide)) ?_
    refine jm_icmp_le (tgt := 14) d_X10_drawn_9 (by decide) (fun c2 => ?_) (fun c2 => ?_)
    · have h := h.1 c2
      refine jm_iloadn d_X10_drawn_14 rfl ?_
      refine jm_istoren (L' := [some (jm_R _), some (jm_I _), some (jm_I _), some (jm_I _), none, none]) d_X10_drawn_15 (Nat.le_of_ble_eq_true rfl) rfl ?_
      refine jm_iconst (v := 0) d_X10_drawn_16 rfl (jm_okI (by decide) (by decide)) ?_
      refine jm_istore (L' := [some (jm_R _), some (jm_I _), some (jm_I _), some (jm_I _), some (jm_I _), none]) d_X10_drawn_17 (Nat.le_of_ble_eq_true rfl) rfl ?_
      exact jm_weak2 h (And.intro rfl (And.intro rfl (And.intro rfl (And.intro rfl trivial))))
    · have h := h.2 c2
      refine jm_iconst (v := (-1)) d_X10_drawn_12 rfl (jm_okI (by decide) (by decide)) ?_
      exact jm_ret (o := some (jm_I _)) d_X10_drawn_13 rfl ⟨Nat.le_refl _, Nat.le_refl _⟩ jm_r_I h rfl
set_option maxRecDepth 20000 in
theorem r_X10_drawn_19 {E : jm_E} {d : Nat} {μ : jm_M} {Q : Option jm_V → jm_M → Prop} {v1 v3 v4 : Int} (h :
  ((v1 ≤ v4 →
    Q (some (jm_I v1)) μ) ∧
   (¬ (v1 ≤ v4) →
    jc E m_X6_nextOnes d [jm_R 21] μ (fun (o : Option jm_V) (m2 : jm_M) => ∀ r3 : Int, o = some (jm_I r3) →
    ((0 < r3 →
      ∀ x5 : Int, x5 = jm_wr ((jm_wr (v3 * 1103515245)) + 12345) →
      (r3 ≠ 0) ∧
      jc E m_X6_addNext d [jm_R 21, jm_I (jm_rem (jm_ushr x5 8) r3)] m2 (fun (o : Option jm_V) (m7 : jm_M) => o = none →
      jg E m_X10_drawn d 19 [some (jm_R 0), some (jm_I v1), none, some (jm_I x5), some (jm_I (jm_wr (v4 + 1))), none] [] m7 Q)) ∧
     (¬ (0 < r3) →
      Q (some (jm_I v4)) m2)))))) : jg E m_X10_drawn d 19 [some (jm_R 0), some (jm_I v1), none, some (jm_I v3), some (jm_I v4), none] [] μ Q := by
  refine jm_iload d_X10_drawn_19 rfl ?_
  refine jm_iloadn d_X10_drawn_21 rfl ?_
  refine jm_icmp_ge (tgt := 71) d_X10_drawn_22 (by decide) (fun c1 => ?_) (fun c1 => ?_)
  · have h := h.1 c1
    refine jm_iloadn d_X10_drawn_71 rfl ?_
    exact jm_ret (o := some (jm_I _)) d_X10_drawn_72 rfl ⟨Nat.le_refl _, Nat.le_refl _⟩ jm_r_I h rfl
  · have h := h.2 c1
    refine jm_aloadn d_X10_drawn_25 rfl ?_
    refine jm_getF (k := 3) (ki := 3) rfl cf_X10 (Nat.le_of_ble_eq_true rfl) f_X10_31 d_X10_drawn_26 rfl rfl is_0 fr_0_3 ?_
    refine jm_invV (n1 := jm_N) (mc := 0) (ms := 0) (av := []) w_X6_nextOnes l_X10_226 d_X10_drawn_29 rfl is_21 ⟨_, _, rfl⟩ ⟨Nat.le_refl _, Nat.le_refl _⟩ (Nat.le_of_ble_eq_true rfl) rfl ?_
    refine jm_Cl.mono h (fun o m2 h hr _ => ?_)
    obtain ⟨r3, rfl⟩ := jm_rokI hr
    have h := h _ rfl
    refine jm_istore (L' := [some (jm_R _), some (jm_I _), none, some (jm_I _), some (jm_I _), some (jm_I _)]) d_X10_drawn_32 (Nat.le_of_ble_eq_true rfl) rfl ?_
    refine jm_iload d_X10_drawn_34 rfl ?_
    refine jm_if_gt (tgt := 42) d_X10_drawn_36 (by decide) (fun c4 => ?_) (fun c4 => ?_)
    · have h := h.1 c4
      refine jm_iloadn d_X10_drawn_42 rfl ?_
      refine jm_ldc (v := 1103515245) d_X10_drawn_43 k_X10_230 (jm_okI (by decide) (by decide)) ?_
      refine jm_imul d_X10_drawn_45 ?_
      refine jm_sipush (v := 12345) d_X10_drawn_46 rfl (jm_okI (by decide) (by decide)) ?_
      refine jm_iadd d_X10_drawn_49 ?_
      have h := h _ rfl
      refine jm_istoren (L' := [some (jm_R _), some (jm_I _), none, some (jm_I _), some (jm_I _), some (jm_I _)]) d_X10_drawn_50 (Nat.le_of_ble_eq_true rfl) rfl ?_
      refine jm_aloadn d_X10_drawn_51 rfl ?_
      refine jm_getF (k := 3) (ki := 3) rfl cf_X10 (Nat.le_of_ble_eq_true rfl) f_X10_31 d_X10_drawn_52 rfl rfl is_0 fr_0_3 ?_
      refine jm_iloadn d_X10_drawn_55 rfl ?_
      refine jm_bipush (v := 8) d_X10_drawn_56 rfl (jm_okI (by decide) (by decide)) ?_
      refine jm_iushr d_X10_drawn_58 ?_
      refine jm_iload d_X10_drawn_59 rfl ?_
      obtain ⟨f6, h⟩ := h
      refine jm_irem d_X10_drawn_61 f6 ?_
      refine jm_invV (n1 := jm_N) (mc := 0) (ms := 0) (av := [jm_I _]) w_X6_addNext l_X10_231 d_X10_drawn_62 rfl is_21 ⟨_, _, rfl⟩ ⟨Nat.le_refl _, Nat.le_refl _⟩ (Nat.le_of_ble_eq_true rfl) rfl ?_
      refine jm_Cl.mono h (fun o m7 h hr _ => ?_)
      obtain rfl := jm_rokV hr
      have h := h rfl
      refine jm_iinc (L' := [some (jm_R _), some (jm_I _), none, some (jm_I _), some (jm_I _), some (jm_I _)]) d_X10_drawn_65 rfl rfl (Nat.le_of_ble_eq_true rfl) rfl ?_
      refine jm_goto (tgt := 19) d_X10_drawn_68 (by decide) ?_
      exact jm_weak2 h (And.intro rfl (And.intro rfl (And.intro rfl (And.intro rfl trivial))))
    · have h := h.2 c4
      refine jm_iload d_X10_drawn_39 rfl ?_
      exact jm_ret (o := some (jm_I _)) d_X10_drawn_41 rfl ⟨Nat.le_refl _, Nat.le_refl _⟩ jm_r_I h rfl
/-! ('CombTable', 'spoke', '(II)I') -/
theorem d_X10_spoke_0 : decode m_X10_spoke.2.1 0 = .ok (.iload_n 1, 1) := by decide +kernel
theorem d_X10_spoke_1 : decode m_X10_spoke.2.1 1 = .ok (.iconst (-1), 1) := by decide +kernel
theorem d_X10_spoke_2 : decode m_X10_spoke.2.1 2 = .ok (.if_icmp .eq 14, 3) := by decide +kernel
theorem d_X10_spoke_5 : decode m_X10_spoke.2.1 5 = .ok (.aload_n 0, 1) := by decide +kernel
theorem d_X10_spoke_6 : decode m_X10_spoke.2.1 6 = .ok (.getfield 19, 3) := by decide +kernel
theorem d_X10_spoke_9 : decode m_X10_spoke.2.1 9 = .ok (.iload_n 1, 1) := by decide +kernel
theorem d_X10_spoke_10 : decode m_X10_spoke.2.1 10 = .ok (.invokevirtual 124, 3) := by decide +kernel
theorem d_X10_spoke_13 : decode m_X10_spoke.2.1 13 = .ok (.ifCond .eq 19, 3) := by decide +kernel
theorem d_X10_spoke_16 : decode m_X10_spoke.2.1 16 = .ok (.iload_n 2, 1) := by decide +kernel
theorem d_X10_spoke_17 : decode m_X10_spoke.2.1 17 = .ok (.iconst (-1), 1) := by decide +kernel
theorem d_X10_spoke_18 : decode m_X10_spoke.2.1 18 = .ok (.if_icmp .eq 16, 3) := by decide +kernel
theorem d_X10_spoke_21 : decode m_X10_spoke.2.1 21 = .ok (.aload_n 0, 1) := by decide +kernel
theorem d_X10_spoke_22 : decode m_X10_spoke.2.1 22 = .ok (.getfield 19, 3) := by decide +kernel
theorem d_X10_spoke_25 : decode m_X10_spoke.2.1 25 = .ok (.iload_n 2, 1) := by decide +kernel
theorem d_X10_spoke_26 : decode m_X10_spoke.2.1 26 = .ok (.invokevirtual 132, 3) := by decide +kernel
theorem d_X10_spoke_29 : decode m_X10_spoke.2.1 29 = .ok (.ifCond .ne 5, 3) := by decide +kernel
theorem d_X10_spoke_32 : decode m_X10_spoke.2.1 32 = .ok (.iconst (-1), 1) := by decide +kernel
theorem d_X10_spoke_33 : decode m_X10_spoke.2.1 33 = .ok (.ireturn, 1) := by decide +kernel
theorem d_X10_spoke_34 : decode m_X10_spoke.2.1 34 = .ok (.iconst 0, 1) := by decide +kernel
theorem d_X10_spoke_35 : decode m_X10_spoke.2.1 35 = .ok (.istore_n 3, 1) := by decide +kernel
theorem d_X10_spoke_36 : decode m_X10_spoke.2.1 36 = .ok (.iconst 0, 1) := by decide +kernel
theorem d_X10_spoke_37 : decode m_X10_spoke.2.1 37 = .ok (.istore 4, 2) := by decide +kernel
theorem d_X10_spoke_39 : decode m_X10_spoke.2.1 39 = .ok (.iload 4, 2) := by decide +kernel
theorem d_X10_spoke_41 : decode m_X10_spoke.2.1 41 = .ok (.aload_n 0, 1) := by decide +kernel
theorem d_X10_spoke_42 : decode m_X10_spoke.2.1 42 = .ok (.getfield 31, 3) := by decide +kernel
theorem d_X10_spoke_45 : decode m_X10_spoke.2.1 45 = .ok (.getfield 153, 3) := by decide +kernel
theorem d_X10_spoke_48 : decode m_X10_spoke.2.1 48 = .ok (.if_icmp .ge 62, 3) := by decide +kernel
theorem d_X10_spoke_51 : decode m_X10_spoke.2.1 51 = .ok (.iload_n 1, 1) := by decide +kernel
theorem d_X10_spoke_52 : decode m_X10_spoke.2.1 52 = .ok (.iconst (-1), 1) := by decide +kernel
theorem d_X10_spoke_53 : decode m_X10_spoke.2.1 53 = .ok (.if_icmp .eq 17, 3) := by decide +kernel
theorem d_X10_spoke_56 : decode m_X10_spoke.2.1 56 = .ok (.aload_n 0, 1) := by decide +kernel
theorem d_X10_spoke_57 : decode m_X10_spoke.2.1 57 = .ok (.getfield 31, 3) := by decide +kernel
theorem d_X10_spoke_60 : decode m_X10_spoke.2.1 60 = .ok (.iload 4, 2) := by decide +kernel
theorem d_X10_spoke_62 : decode m_X10_spoke.2.1 62 = .ok (.iconst 0, 1) := by decide +kernel
theorem d_X10_spoke_63 : decode m_X10_spoke.2.1 63 = .ok (.invokevirtual 171, 3) := by decide +kernel
theorem d_X10_spoke_66 : decode m_X10_spoke.2.1 66 = .ok (.iload_n 1, 1) := by decide +kernel
theorem d_X10_spoke_67 : decode m_X10_spoke.2.1 67 = .ok (.if_icmp .ne 7, 3) := by decide +kernel
theorem d_X10_spoke_70 : decode m_X10_spoke.2.1 70 = .ok (.iconst 1, 1) := by decide +kernel
theorem d_X10_spoke_71 : decode m_X10_spoke.2.1 71 = .ok (.goto 4, 3) := by decide +kernel
theorem d_X10_spoke_74 : decode m_X10_spoke.2.1 74 = .ok (.iconst 0, 1) := by decide +kernel
theorem d_X10_spoke_75 : decode m_X10_spoke.2.1 75 = .ok (.istore 5, 2) := by decide +kernel
theorem d_X10_spoke_77 : decode m_X10_spoke.2.1 77 = .ok (.iload 5, 2) := by decide +kernel
theorem d_X10_spoke_79 : decode m_X10_spoke.2.1 79 = .ok (.ifCond .eq 25, 3) := by decide +kernel
theorem d_X10_spoke_82 : decode m_X10_spoke.2.1 82 = .ok (.iload_n 2, 1) := by decide +kernel
theorem d_X10_spoke_83 : decode m_X10_spoke.2.1 83 = .ok (.iconst (-1), 1) := by decide +kernel
theorem d_X10_spoke_84 : decode m_X10_spoke.2.1 84 = .ok (.if_icmp .eq 17, 3) := by decide +kernel
theorem d_X10_spoke_87 : decode m_X10_spoke.2.1 87 = .ok (.aload_n 0, 1) := by decide +kernel
theorem d_X10_spoke_88 : decode m_X10_spoke.2.1 88 = .ok (.getfield 31, 3) := by decide +kernel
theorem d_X10_spoke_91 : decode m_X10_spoke.2.1 91 = .ok (.iload 4, 2) := by decide +kernel
theorem d_X10_spoke_93 : decode m_X10_spoke.2.1 93 = .ok (.iconst 1, 1) := by decide +kernel
theorem d_X10_spoke_94 : decode m_X10_spoke.2.1 94 = .ok (.invokevirtual 171, 3) := by decide +kernel
theorem d_X10_spoke_97 : decode m_X10_spoke.2.1 97 = .ok (.iload_n 2, 1) := by decide +kernel
theorem d_X10_spoke_98 : decode m_X10_spoke.2.1 98 = .ok (.if_icmp .ne 6, 3) := by decide +kernel
theorem d_X10_spoke_101 : decode m_X10_spoke.2.1 101 = .ok (.iinc 3 1, 3) := by decide +kernel
theorem d_X10_spoke_104 : decode m_X10_spoke.2.1 104 = .ok (.iinc 4 1, 3) := by decide +kernel
theorem d_X10_spoke_107 : decode m_X10_spoke.2.1 107 = .ok (.goto (-68), 3) := by decide +kernel
theorem d_X10_spoke_110 : decode m_X10_spoke.2.1 110 = .ok (.iload_n 3, 1) := by decide +kernel
theorem d_X10_spoke_111 : decode m_X10_spoke.2.1 111 = .ok (.ireturn, 1) := by decide +kernel
set_option maxRecDepth 20000 in
theorem e_X10_spoke {E : jm_E} {d : Nat} {μ : jm_M} {Q : Option jm_V → jm_M → Prop} {v1 v2 : Int} (h : (∀ v ∈ ([jm_R 0, jm_I v1, jm_I v2] : List jm_V), jm_ok v) →
  ((v1 = ((-1)) →
    jg E m_X10_spoke d 16 [some (jm_R 0), some (jm_I v1), some (jm_I v2), none, none, none] [] μ Q) ∧
   (¬ (v1 = ((-1))) →
    jc E m_X5_hasWho d [jm_R 3, jm_I v1] μ (fun (o : Option jm_V) (m2 : jm_M) => ∀ r3 : Int, o = some (jm_I r3) → (r3 = 0 ∨ r3 = 1) →
    ((r3 = 0 →
      Q (some (jm_I ((-1)))) m2) ∧
     (¬ (r3 = 0) →
      jg E m_X10_spoke d 16 [some (jm_R 0), some (jm_I v1), some (jm_I v2), none, none, none] [] m2 Q)))))) : jc E m_X10_spoke (d + 1) [jm_R 0, jm_I v1, jm_I v2] μ Q := by
  refine jm_Cl.of2 (by decide +kernel) (L0 := [some (jm_R 0), some (jm_I v1), some (jm_I v2), none, none, none]) rfl (Nat.le_of_ble_eq_true rfl) (fun hok => ?_)
  have h := h hok
  refine jm_iloadn d_X10_spoke_0 rfl ?_
  refine jm_iconst (v := (-1)) d_X10_spoke_1 rfl (jm_okI (by decide) (by decide)) ?_
  refine jm_icmp_eq (tgt := 16) d_X10_spoke_2 (by decide) (fun c1 => ?_) (fun c1 => ?_)
  · have h := h.1 c1
    exact h
  · have h := h.2 c1
    refine jm_aloadn d_X10_spoke_5 rfl ?_
    refine jm_getF (k := 1) (ki := 1) rfl cf_X10 (Nat.le_of_ble_eq_true rfl) f_X10_19 d_X10_spoke_6 rfl rfl is_0 fr_0_1 ?_
    refine jm_iloadn d_X10_spoke_9 rfl ?_
    refine jm_invV (n1 := jm_N) (mc := 0) (ms := 0) (av := [jm_I _]) w_X5_hasWho l_X10_124 d_X10_spoke_10 rfl is_3 ⟨_, _, rfl⟩ ⟨Nat.le_refl _, Nat.le_refl _⟩ (Nat.le_of_ble_eq_true rfl) rfl ?_
    refine jm_Cl.mono h (fun o m2 h hr _ => ?_)
    obtain ⟨r3, rfl, z4⟩ := jm_rokZ hr
    have h := h _ rfl z4
    refine jm_if_eq (tgt := 32) d_X10_spoke_13 (by decide) (fun c5 => ?_) (fun c5 => ?_)
    · have h := h.1 c5
      refine jm_iconst (v := (-1)) d_X10_spoke_32 rfl (jm_okI (by decide) (by decide)) ?_
      exact jm_ret (o := some (jm_I _)) d_X10_spoke_33 rfl ⟨Nat.le_refl _, Nat.le_refl _⟩ jm_r_I h rfl
    · have h := h.2 c5
      exact h
set_option maxRecDepth 20000 in
theorem r_X10_spoke_16 {E : jm_E} {d : Nat} {μ : jm_M} {Q : Option jm_V → jm_M → Prop} {v1 v2 : Int} (h :
  ((v2 = ((-1)) →
    jg E m_X10_spoke d 39 [some (jm_R 0), some (jm_I v1), some (jm_I v2), some (jm_I 0), some (jm_I 0), none] [] μ Q) ∧
   (¬ (v2 = ((-1))) →
    jc E m_X5_hasKind d [jm_R 3, jm_I v2] μ (fun (o : Option jm_V) (m2 : jm_M) => ∀ r3 : Int, o = some (jm_I r3) → (r3 = 0 ∨ r3 = 1) →
    ((r3 ≠ 0 →
      jg E m_X10_spoke d 39 [some (jm_R 0), some (jm_I v1), some (jm_I v2), some (jm_I 0), some (jm_I 0), none] [] m2 Q) ∧
     (¬ (r3 ≠ 0) →
      Q (some (jm_I ((-1)))) m2)))))) : jg E m_X10_spoke d 16 [some (jm_R 0), some (jm_I v1), some (jm_I v2), none, none, none] [] μ Q := by
  refine jm_iloadn d_X10_spoke_16 rfl ?_
  refine jm_iconst (v := (-1)) d_X10_spoke_17 rfl (jm_okI (by decide) (by decide)) ?_
  refine jm_icmp_eq (tgt := 34) d_X10_spoke_18 (by decide) (fun c1 => ?_) (fun c1 => ?_)
  · have h := h.1 c1
    refine jm_iconst (v := 0) d_X10_spoke_34 rfl (jm_okI (by decide) (by decide)) ?_
    refine jm_istoren (L' := [some (jm_R _), some (jm_I _), some (jm_I _), some (jm_I _), none, none]) d_X10_spoke_35 (Nat.le_of_ble_eq_true rfl) rfl ?_
    refine jm_iconst (v := 0) d_X10_spoke_36 rfl (jm_okI (by decide) (by decide)) ?_
    refine jm_istore (L' := [some (jm_R _), some (jm_I _), some (jm_I _), some (jm_I _), some (jm_I _), none]) d_X10_spoke_37 (Nat.le_of_ble_eq_true rfl) rfl ?_
    exact h
  · have h := h.2 c1
    refine jm_aloadn d_X10_spoke_21 rfl ?_
    refine jm_getF (k := 1) (ki := 1) rfl cf_X10 (Nat.le_of_ble_eq_true rfl) f_X10_19 d_X10_spoke_22 rfl rfl is_0 fr_0_1 ?_
    refine jm_iloadn d_X10_spoke_25 rfl ?_
    refine jm_invV (n1 := jm_N) (mc := 0) (ms := 0) (av := [jm_I _]) w_X5_hasKind l_X10_132 d_X10_spoke_26 rfl is_3 ⟨_, _, rfl⟩ ⟨Nat.le_refl _, Nat.le_refl _⟩ (Nat.le_of_ble_eq_true rfl) rfl ?_
    refine jm_Cl.mono h (fun o m2 h hr _ => ?_)
    obtain ⟨r3, rfl, z4⟩ := jm_rokZ hr
    have h := h _ rfl z4
    refine jm_if_ne (tgt := 34) d_X10_spoke_29 (by decide) (fun c5 => ?_) (fun c5 => ?_)
    · have h := h.1 c5
      refine jm_iconst (v := 0) d_X10_spoke_34 rfl (jm_okI (by decide) (by decide)) ?_
      refine jm_istoren (L' := [some (jm_R _), some (jm_I _), some (jm_I _), some (jm_I _), none, none]) d_X10_spoke_35 (Nat.le_of_ble_eq_true rfl) rfl ?_
      refine jm_iconst (v := 0) d_X10_spoke_36 rfl (jm_okI (by decide) (by decide)) ?_
      refine jm_istore (L' := [some (jm_R _), some (jm_I _), some (jm_I _), some (jm_I _), some (jm_I _), none]) d_X10_spoke_37 (Nat.le_of_ble_eq_true rfl) rfl ?_
      exact h
    · have h := h.2 c5
      refine jm_iconst (v := (-1)) d_X10_spoke_32 rfl (jm_okI (by decide) (by decide)) ?_
      exact jm_ret (o := some (jm_I _)) d_X10_spoke_33 rfl ⟨Nat.le_refl _, Nat.le_refl _⟩ jm_r_I h rfl
set_option maxRecDepth 20000 in
theorem r_X10_spoke_39 {E : jm_E} {d : Nat} {μ : jm_M} {Q : Option jm_V → jm_M → Prop} {v1 v2 v3 v4 : Int} (h :
  ((μ 21 1 ≤ v4 →
    Q (some (jm_I v3)) μ) ∧
   (¬ (μ 21 1 ≤ v4) →
    ((v1 = ((-1)) →
      jg E m_X10_spoke d 70 [some (jm_R 0), some (jm_I v1), some (jm_I v2), some (jm_I v3), some (jm_I v4), none] [] μ Q) ∧
     (¬ (v1 = ((-1))) →
      jc E m_X6_tell d [jm_R 21, jm_I v4, jm_I 0] μ (fun (o : Option jm_V) (m3 : jm_M) => ∀ r4 : Int, o = some (jm_I r4) →
      ((r4 ≠ v1 →
        jg E m_X10_spoke d 39 [some (jm_R 0), some (jm_I v1), some (jm_I v2), some (jm_I v3), some (jm_I (jm_wr (v4 + 1))), none] [] m3 Q) ∧
       (¬ (r4 ≠ v1) →
        jg E m_X10_spoke d 70 [some (jm_R 0), some (jm_I v1), some (jm_I v2), some (jm_I v3), some (jm_I v4), none] [] m3 Q)))))))) : jg E m_X10_spoke d 39 [some (jm_R 0), some (jm_I v1), some (jm_I v2), some (jm_I v3), some (jm_I v4), none] [] μ Q := by
  refine jm_iload d_X10_spoke_39 rfl ?_
  refine jm_aloadn d_X10_spoke_41 rfl ?_
  refine jm_getF (k := 3) (ki := 3) rfl cf_X10 (Nat.le_of_ble_eq_true rfl) f_X10_31 d_X10_spoke_42 rfl rfl is_0 fr_0_3 ?_
  refine jm_getI (k := 1) (ki := 1) cf_X6 (Nat.le_of_ble_eq_true rfl) f_X10_153 d_X10_spoke_45 rfl rfl is_21 rfl ?_
  refine jm_icmp_ge (tgt := 110) d_X10_spoke_48 (by decide) (fun c1 => ?_) (fun c1 => ?_)
  · have h := h.1 c1
    refine jm_iloadn d_X10_spoke_110 rfl ?_
    exact jm_ret (o := some (jm_I _)) d_X10_spoke_111 rfl ⟨Nat.le_refl _, Nat.le_refl _⟩ jm_r_I h rfl
  · have h := h.2 c1
    refine jm_iloadn d_X10_spoke_51 rfl ?_
    refine jm_iconst (v := (-1)) d_X10_spoke_52 rfl (jm_okI (by decide) (by decide)) ?_
    refine jm_icmp_eq (tgt := 70) d_X10_spoke_53 (by decide) (fun c2 => ?_) (fun c2 => ?_)
    · have h := h.1 c2
      exact h
    · have h := h.2 c2
      refine jm_aloadn d_X10_spoke_56 rfl ?_
      refine jm_getF (k := 3) (ki := 3) rfl cf_X10 (Nat.le_of_ble_eq_true rfl) f_X10_31 d_X10_spoke_57 rfl rfl is_0 fr_0_3 ?_
      refine jm_iload d_X10_spoke_60 rfl ?_
      refine jm_iconst (v := 0) d_X10_spoke_62 rfl (jm_okI (by decide) (by decide)) ?_
      refine jm_invV (n1 := jm_N) (mc := 0) (ms := 0) (av := [jm_I _, jm_I _]) w_X6_tell l_X10_171 d_X10_spoke_63 rfl is_21 ⟨_, _, rfl⟩ ⟨Nat.le_refl _, Nat.le_refl _⟩ (Nat.le_of_ble_eq_true rfl) rfl ?_
      refine jm_Cl.mono h (fun o m3 h hr _ => ?_)
      obtain ⟨r4, rfl⟩ := jm_rokI hr
      have h := h _ rfl
      refine jm_iloadn d_X10_spoke_66 rfl ?_
      refine jm_icmp_ne (tgt := 74) d_X10_spoke_67 (by decide) (fun c5 => ?_) (fun c5 => ?_)
      · have h := h.1 c5
        refine jm_iconst (v := 0) d_X10_spoke_74 rfl (jm_okI (by decide) (by decide)) ?_
        refine jm_istore (L' := [some (jm_R _), some (jm_I _), some (jm_I _), some (jm_I _), some (jm_I _), some (jm_I _)]) d_X10_spoke_75 (Nat.le_of_ble_eq_true rfl) rfl ?_
        refine jm_iload d_X10_spoke_77 rfl ?_
        refine jm_if_eq (tgt := 104) d_X10_spoke_79 (by decide) (fun _ => ?_) (fun c6 => absurd (by decide) c6)
        refine jm_iinc (L' := [some (jm_R _), some (jm_I _), some (jm_I _), some (jm_I _), some (jm_I _), some (jm_I _)]) d_X10_spoke_104 rfl rfl (Nat.le_of_ble_eq_true rfl) rfl ?_
        refine jm_goto (tgt := 39) d_X10_spoke_107 (by decide) ?_
        exact jm_weak2 h (And.intro rfl (And.intro rfl (And.intro rfl (And.intro rfl (And.intro rfl trivial)))))
      · have h := h.2 c5
        exact h
set_option maxRecDepth 20000 in
theorem r_X10_spoke_70 {E : jm_E} {d : Nat} {μ : jm_M} {Q : Option jm_V → jm_M → Prop} {v1 v2 v3 v4 : Int} (h :
  ((v2 = ((-1)) →
    jg E m_X10_spoke d 39 [some (jm_R 0), some (jm_I v1), some (jm_I v2), some (jm_I (jm_wr (v3 + 1))), some (jm_I (jm_wr (v4 + 1))), none] [] μ Q) ∧
   (¬ (v2 = ((-1))) →
    jc E m_X6_tell d [jm_R 21, jm_I v4, jm_I 1] μ (fun (o : Option jm_V) (m3 : jm_M) => ∀ r4 : Int, o = some (jm_I r4) →
    ((r4 ≠ v2 →
      jg E m_X10_spoke d 39 [some (jm_R 0), some (jm_I v1), some (jm_I v2), some (jm_I v3), some (jm_I (jm_wr (v4 + 1))), none] [] m3 Q) ∧
     (¬ (r4 ≠ v2) →
      jg E m_X10_spoke d 39 [some (jm_R 0), some (jm_I v1), some (jm_I v2), some (jm_I (jm_wr (v3 + 1))), some (jm_I (jm_wr (v4 + 1))), none] [] m3 Q)))))) : jg E m_X10_spoke d 70 [some (jm_R 0), some (jm_I v1), some (jm_I v2), some (jm_I v3), some (jm_I v4), none] [] μ Q := by
  refine jm_iconst (v := 1) d_X10_spoke_70 rfl (jm_okI (by decide) (by decide)) ?_
  refine jm_goto (tgt := 75) d_X10_spoke_71 (by decide) ?_
  refine jm_istore (L' := [some (jm_R _), some (jm_I _), some (jm_I _), some (jm_I _), some (jm_I _), some (jm_I _)]) d_X10_spoke_75 (Nat.le_of_ble_eq_true rfl) rfl ?_
  refine jm_iload d_X10_spoke_77 rfl ?_
  refine jm_if_eq (tgt := 104) d_X10_spoke_79 (by decide) (fun c1 => absurd c1 (by decide)) (fun _ => ?_)
  refine jm_iloadn d_X10_spoke_82 rfl ?_
  refine jm_iconst (v := (-1)) d_X10_spoke_83 rfl (jm_okI (by decide) (by decide)) ?_
  refine jm_icmp_eq (tgt := 101) d_X10_spoke_84 (by decide) (fun c2 => ?_) (fun c2 => ?_)
  · have h := h.1 c2
    refine jm_iinc (L' := [some (jm_R _), some (jm_I _), some (jm_I _), some (jm_I _), some (jm_I _), some (jm_I _)]) d_X10_spoke_101 rfl rfl (Nat.le_of_ble_eq_true rfl) rfl ?_
    refine jm_iinc (L' := [some (jm_R _), some (jm_I _), some (jm_I _), some (jm_I _), some (jm_I _), some (jm_I _)]) d_X10_spoke_104 rfl rfl (Nat.le_of_ble_eq_true rfl) rfl ?_
    refine jm_goto (tgt := 39) d_X10_spoke_107 (by decide) ?_
    exact jm_weak2 h (And.intro rfl (And.intro rfl (And.intro rfl (And.intro rfl (And.intro rfl trivial)))))
  · have h := h.2 c2
    refine jm_aloadn d_X10_spoke_87 rfl ?_
    refine jm_getF (k := 3) (ki := 3) rfl cf_X10 (Nat.le_of_ble_eq_true rfl) f_X10_31 d_X10_spoke_88 rfl rfl is_0 fr_0_3 ?_
    refine jm_iload d_X10_spoke_91 rfl ?_
    refine jm_iconst (v := 1) d_X10_spoke_93 rfl (jm_okI (by decide) (by decide)) ?_
    refine jm_invV (n1 := jm_N) (mc := 0) (ms := 0) (av := [jm_I _, jm_I _]) w_X6_tell l_X10_171 d_X10_spoke_94 rfl is_21 ⟨_, _, rfl⟩ ⟨Nat.le_refl _, Nat.le_refl _⟩ (Nat.le_of_ble_eq_true rfl) rfl ?_
    refine jm_Cl.mono h (fun o m3 h hr _ => ?_)
    obtain ⟨r4, rfl⟩ := jm_rokI hr
    have h := h _ rfl
    refine jm_iloadn d_X10_spoke_97 rfl ?_
    refine jm_icmp_ne (tgt := 104) d_X10_spoke_98 (by decide) (fun c5 => ?_) (fun c5 => ?_)
    · have h := h.1 c5
      refine jm_iinc (L' := [some (jm_R _), some (jm_I _), some (jm_I _), some (jm_I _), some (jm_I _), some (jm_I _)]) d_X10_spoke_104 rfl rfl (Nat.le_of_ble_eq_true rfl) rfl ?_
      refine jm_goto (tgt := 39) d_X10_spoke_107 (by decide) ?_
      exact jm_weak2 h (And.intro rfl (And.intro rfl (And.intro rfl (And.intro rfl (And.intro rfl trivial)))))
    · have h := h.2 c5
      refine jm_iinc (L' := [some (jm_R _), some (jm_I _), some (jm_I _), some (jm_I _), some (jm_I _), some (jm_I _)]) d_X10_spoke_101 rfl rfl (Nat.le_of_ble_eq_true rfl) rfl ?_
      refine jm_iinc (L' := [some (jm_R _), some (jm_I _), some (jm_I _), some (jm_I _), some (jm_I _), some (jm_I _)]) d_X10_spoke_104 rfl rfl (Nat.le_of_ble_eq_true rfl) rfl ?_
      refine jm_goto (tgt := 39) d_X10_spoke_107 (by decide) ?_
      exact jm_weak2 h (And.intro rfl (And.intro rfl (And.intro rfl (And.intro rfl (And.intro rfl trivial)))))
/-! ('CombTable', 'said', '(I)I') -/
theorem d_X10_said_0 : decode m_X10_said.2.1 0 = .ok (.aload_n 0, 1) := by decide +kernel
theorem d_X10_said_1 : decode m_X10_said.2.1 1 = .ok (.getfield 54, 3) := by decide +kernel
theorem d_X10_said_4 : decode m_X10_said.2.1 4 = .ok (.getfield 283, 3) := by decide +kernel
theorem d_X10_said_7 : decode m_X10_said.2.1 7 = .ok (.ifCond .ne 5, 3) := by decide +kernel
theorem d_X10_said_10 : decode m_X10_said.2.1 10 = .ok (.iconst (-1), 1) := by decide +kernel
theorem d_X10_said_11 : decode m_X10_said.2.1 11 = .ok (.ireturn, 1) := by decide +kernel
theorem d_X10_said_12 : decode m_X10_said.2.1 12 = .ok (.iconst 0, 1) := by decide +kernel
theorem d_X10_said_13 : decode m_X10_said.2.1 13 = .ok (.istore_n 2, 1) := by decide +kernel
theorem d_X10_said_14 : decode m_X10_said.2.1 14 = .ok (.iconst 0, 1) := by decide +kernel
theorem d_X10_said_15 : decode m_X10_said.2.1 15 = .ok (.istore_n 3, 1) := by decide +kernel
theorem d_X10_said_16 : decode m_X10_said.2.1 16 = .ok (.iload_n 3, 1) := by decide +kernel
theorem d_X10_said_17 : decode m_X10_said.2.1 17 = .ok (.aload_n 0, 1) := by decide +kernel
theorem d_X10_said_18 : decode m_X10_said.2.1 18 = .ok (.getfield 31, 3) := by decide +kernel
theorem d_X10_said_21 : decode m_X10_said.2.1 21 = .ok (.getfield 153, 3) := by decide +kernel
theorem d_X10_said_24 : decode m_X10_said.2.1 24 = .ok (.if_icmp .ge 34, 3) := by decide +kernel
theorem d_X10_said_27 : decode m_X10_said.2.1 27 = .ok (.aload_n 0, 1) := by decide +kernel
theorem d_X10_said_28 : decode m_X10_said.2.1 28 = .ok (.getfield 54, 3) := by decide +kernel
theorem d_X10_said_31 : decode m_X10_said.2.1 31 = .ok (.aload_n 0, 1) := by decide +kernel
theorem d_X10_said_32 : decode m_X10_said.2.1 32 = .ok (.getfield 31, 3) := by decide +kernel
theorem d_X10_said_35 : decode m_X10_said.2.1 35 = .ok (.iload_n 3, 1) := by decide +kernel
theorem d_X10_said_36 : decode m_X10_said.2.1 36 = .ok (.invokevirtual 284, 3) := by decide +kernel
theorem d_X10_said_39 : decode m_X10_said.2.1 39 = .ok (.ifCond .eq 13, 3) := by decide +kernel
theorem d_X10_said_42 : decode m_X10_said.2.1 42 = .ok (.iload_n 2, 1) := by decide +kernel
theorem d_X10_said_43 : decode m_X10_said.2.1 43 = .ok (.iload_n 1, 1) := by decide +kernel
theorem d_X10_said_44 : decode m_X10_said.2.1 44 = .ok (.if_icmp .ne 5, 3) := by decide +kernel
theorem d_X10_said_47 : decode m_X10_said.2.1 47 = .ok (.iload_n 3, 1) := by decide +kernel
theorem d_X10_said_48 : decode m_X10_said.2.1 48 = .ok (.ireturn, 1) := by decide +kernel
theorem d_X10_said_49 : decode m_X10_said.2.1 49 = .ok (.iinc 2 1, 3) := by decide +kernel
theorem d_X10_said_52 : decode m_X10_said.2.1 52 = .ok (.iinc 3 1, 3) := by decide +kernel
theorem d_X10_said_55 : decode m_X10_said.2.1 55 = .ok (.goto (-39), 3) := by decide +kernel
theorem d_X10_said_58 : decode m_X10_said.2.1 58 = .ok (.iload_n 1, 1) := by decide +kernel
theorem d_X10_said_59 : decode m_X10_said.2.1 59 = .ok (.iconst (-1), 1) := by decide +kernel
theorem d_X10_said_60 : decode m_X10_said.2.1 60 = .ok (.if_icmp .ne 7, 3) := by decide +kernel
theorem d_X10_said_63 : decode m_X10_said.2.1 63 = .ok (.iload_n 2, 1) := by decide +kernel
theorem d_X10_said_64 : decode m_X10_said.2.1 64 = .ok (.goto 4, 3) := by decide +kernel
theorem d_X10_said_67 : decode m_X10_said.2.1 67 = .ok (.iconst (-1), 1) := by decide +kernel
theorem d_X10_said_68 : decode m_X10_said.2.1 68 = .ok (.ireturn, 1) := by decide +kernel
set_option maxRecDepth 20000 in
theorem e_X10_said {E : jm_E} {d : Nat} {μ : jm_M} {Q : Option jm_V → jm_M → Prop} {v1 : Int} (h : (∀ v ∈ ([jm_R 0, jm_I v1] : List jm_V), jm_ok v) →
  ((μ 75 1 ≠ 0 →
    jg E m_X10_said d 16 [some (jm_R 0), some (jm_I v1), some (jm_I 0), some (jm_I 0)] [] μ Q) ∧
   (¬ (μ 75 1 ≠ 0) →
    Q (some (jm_I ((-1)))) μ))) : jc E m_X10_said (d + 1) [jm_R 0, jm_I v1] μ Q := by
  refine jm_Cl.of2 (by decide +kernel) (L0 := [some (jm_R 0), some (jm_I v1), none, none]) rfl (Nat.le_of_ble_eq_true rfl) (fun hok => ?_)
  have h := h hok
  refine jm_aloadn d_X10_said_0 rfl ?_
  refine jm_getF (k := 8) (ki := 8) rfl cf_X10 (Nat.le_of_ble_eq_true rfl) f_X10_54 d_X10_said_1 rfl rfl is_0 fr_0_8 ?_
  refine jm_getI (k := 1) (ki := 1) cf_X4 (Nat.le_of_ble_eq_true rfl) f_X10_283 d_X10_said_4 rfl rfl is_75 rfl ?_
  refine jm_if_ne (tgt := 12) d_X10_said_7 (by decide) (fun c1 => ?_) (fun c1 => ?_)
  · have h := h.1 c1
    refine jm_iconst (v := 0) d_X10_said_12 rfl (jm_okI (by decide) (by decide)) ?_
    refine jm_istoren (L' := [some (jm_R _), some (jm_I _), some (jm_I _), none]) d_X10_said_13 (Nat.le_of_ble_eq_true rfl) rfl ?_
    refine jm_iconst (v := 0) d_X10_said_14 rfl (jm_okI (by decide) (by decide)) ?_
    refine jm_istoren (L' := [some (jm_R _), some (jm_I _), some (jm_I _), some (jm_I _)]) d_X10_said_15 (Nat.le_of_ble_eq_true rfl) rfl ?_
    exact h
  · have h := h.2 c1
    refine jm_iconst (v := (-1)) d_X10_said_10 rfl (jm_okI (by decide) (by decide)) ?_
    exact jm_ret (o := some (jm_I _)) d_X10_said_11 rfl ⟨Nat.le_refl _, Nat.le_refl _⟩ jm_r_I h rfl
set_option maxRecDepth 20000 in
theorem r_X10_said_16 {E : jm_E} {d : Nat} {μ : jm_M} {Q : Option jm_V → jm_M → Prop} {v1 v2 v3 : Int} (h :
  ((μ 21 1 ≤ v3 →
    ((v1 ≠ ((-1)) →
      Q (some (jm_I ((-1)))) μ) ∧
     (¬ (v1 ≠ ((-1))) →
      Q (some (jm_I v2)) μ))) ∧
   (¬ (μ 21 1 ≤ v3) →
    jc E m_X4_holds d [jm_R 75, jm_R 21, jm_I v3] μ (fun (o : Option jm_V) (m3 : jm_M) => ∀ r4 : Int, o = some (jm_I r4) → (r4 = 0 ∨ r4 = 1) →
    ((r4 = 0 →
      jg E m_X10_said d 16 [some (jm_R 0), some (jm_I v1), some (jm_I v2), some (jm_I (jm_wr (v3 + 1)))] [] m3 Q) ∧
     (¬ (r4 = 0) →
      ((v2 ≠ v1 →
        jg E m_X10_said d 16 [some (jm_R 0), some (jm_I v1), some (jm_I (jm_wr (v2 + 1))), some (jm_I (jm_wr (v3 + 1)))] [] m3 Q) ∧
       (¬ (v2 ≠ v1) →
        Q (some (jm_I v3)) m3)))))))) : jg E m_X10_said d 16 [some (jm_R 0), some (jm_I v1), some (jm_I v2), some (jm_I v3)] [] μ Q := by
  refine jm_iloadn d_X10_said_16 rfl ?_
  refine jm_aloadn d_X10_said_17 rfl ?_
  refine jm_getF (k := 3) (ki := 3) rfl cf_X10 (Nat.le_of_ble_eq_true rfl) f_X10_31 d_X10_said_18 rfl rfl is_0 fr_0_3 ?_
  refine jm_getI (k := 1) (ki := 1) cf_X6 (Nat.le_of_ble_eq_true rfl) f_X10_153 d_X10_said_21 rfl rfl is_21 rfl ?_
  refine jm_icmp_ge (tgt := 58) d_X10_said_24 (by decide) (fun c1 => ?_) (fun c1 => ?_)
  · have h := h.1 c1
    refine jm_iloadn d_X10_said_58 rfl ?_
    refine jm_iconst (v := (-1)) d_X10_said_59 rfl (jm_okI (by decide) (by decide)) ?_
    refine jm_icmp_ne (tgt := 67) d_X10_said_60 (by decide) (fun c2 => ?_) (fun c2 => ?_)
    · have h := h.1 c2
      refine jm_iconst (v := (-1)) d_X10_said_67 rfl (jm_okI (by decide) (by decide)) ?_
      exact jm_ret (o := some (jm_I _)) d_X10_said_68 rfl ⟨Nat.le_refl _, Nat.le_refl _⟩ jm_r_I h rfl
    · have h := h.2 c2
      refine jm_iloadn d_X10_said_63 rfl ?_
      refine jm_goto (tgt := 68) d_X10_said_64 (by decide) ?_
      exact jm_ret (o := some (jm_I _)) d_X10_said_68 rfl ⟨Nat.le_refl _, Nat.le_refl _⟩ jm_r_I h rfl
  · have h := h.2 c1
    refine jm_aloadn d_X10_said_27 rfl ?_
    refine jm_getF (k := 8) (ki := 8) rfl cf_X10 (Nat.le_of_ble_eq_true rfl) f_X10_54 d_X10_said_28 rfl rfl is_0 fr_0_8 ?_
    refine jm_aloadn d_X10_said_31 rfl ?_
    refine jm_getF (k := 3) (ki := 3) rfl cf_X10 (Nat.le_of_ble_eq_true rfl) f_X10_31 d_X10_said_32 rfl rfl is_0 fr_0_3 ?_
    refine jm_iloadn d_X10_said_35 rfl ?_
    refine jm_invV (n1 := jm_N) (mc := 0) (ms := 0) (av := [jm_R _, jm_I _]) w_X4_holds l_X10_284 d_X10_said_36 rfl is_75 ⟨_, _, rfl⟩ ⟨Nat.le_refl _, Nat.le_refl _⟩ (Nat.le_of_ble_eq_true rfl) rfl ?_
    refine jm_Cl.mono h (fun o m3 h hr _ => ?_)
    obtain ⟨r4, rfl, z5⟩ := jm_rokZ hr
    have h := h _ rfl z5
    refine jm_if_eq (tgt := 52) d_X10_said_39 (by decide) (fun c6 => ?_) (fun c6 => ?_)
    · have h := h.1 c6
      refine jm_iinc (L' := [some (jm_R _), some (jm_I _), some (jm_I _), some (jm_I _)]) d_X10_said_52 rfl rfl (Nat.le_of_ble_eq_true rfl) rfl ?_
      refine jm_goto (tgt := 16) d_X10_said_55 (by decide) ?_
      exact h
    · have h := h.2 c6
      refine jm_iloadn d_X10_said_42 rfl ?_
      refine jm_iloadn d_X10_said_43 rfl ?_
      refine jm_icmp_ne (tgt := 49) d_X10_said_44 (by decide) (fun c7 => ?_) (fun c7 => ?_)
      · have h := h.1 c7
        refine jm_iinc (L' := [some (jm_R _), some (jm_I _), some (jm_I _), some (jm_I _)]) d_X10_said_49 rfl rfl (Nat.le_of_ble_eq_true rfl) rfl ?_
        refine jm_iinc (L' := [some (jm_R _), some (jm_I _), some (jm_I _), some (jm_I _)]) d_X10_said_52 rfl rfl (Nat.le_of_ble_eq_true rfl) rfl ?_
        refine jm_goto (tgt := 16) d_X10_said_55 (by decide) ?_
        exact h
      · have h := h.2 c7
        refine jm_iloadn d_X10_said_47 rfl ?_
        exact jm_ret (o := some (jm_I _)) d_X10_said_48 rfl ⟨Nat.le_refl _, Nat.le_refl _⟩ jm_r_I h rfl
/-! ('CombTable', 'count', '(I)I') -/
theorem d_X10_count_0 : decode m_X10_count.2.1 0 = .ok (.iload_n 1, 1) := by decide +kernel
theorem d_X10_count_1 : decode m_X10_count.2.1 1 = .ok (.tableswitch 139 0 8 #[51, 59, 67, 75, 83, 99, 115, 123, 131], 51) := by decide +kernel
theorem d_X10_count_52 : decode m_X10_count.2.1 52 = .ok (.aload_n 0, 1) := by decide +kernel
theorem d_X10_count_53 : decode m_X10_count.2.1 53 = .ok (.getfield 19, 3) := by decide +kernel
theorem d_X10_count_56 : decode m_X10_count.2.1 56 = .ok (.getfield 199, 3) := by decide +kernel
theorem d_X10_count_59 : decode m_X10_count.2.1 59 = .ok (.ireturn, 1) := by decide +kernel
theorem d_X10_count_60 : decode m_X10_count.2.1 60 = .ok (.aload_n 0, 1) := by decide +kernel
theorem d_X10_count_61 : decode m_X10_count.2.1 61 = .ok (.getfield 19, 3) := by decide +kernel
theorem d_X10_count_64 : decode m_X10_count.2.1 64 = .ok (.getfield 202, 3) := by decide +kernel
theorem d_X10_count_67 : decode m_X10_count.2.1 67 = .ok (.ireturn, 1) := by decide +kernel
theorem d_X10_count_68 : decode m_X10_count.2.1 68 = .ok (.aload_n 0, 1) := by decide +kernel
theorem d_X10_count_69 : decode m_X10_count.2.1 69 = .ok (.getfield 19, 3) := by decide +kernel
theorem d_X10_count_72 : decode m_X10_count.2.1 72 = .ok (.getfield 295, 3) := by decide +kernel
theorem d_X10_count_75 : decode m_X10_count.2.1 75 = .ok (.ireturn, 1) := by decide +kernel
theorem d_X10_count_76 : decode m_X10_count.2.1 76 = .ok (.aload_n 0, 1) := by decide +kernel
theorem d_X10_count_77 : decode m_X10_count.2.1 77 = .ok (.getfield 19, 3) := by decide +kernel
theorem d_X10_count_80 : decode m_X10_count.2.1 80 = .ok (.getfield 298, 3) := by decide +kernel
theorem d_X10_count_83 : decode m_X10_count.2.1 83 = .ok (.ireturn, 1) := by decide +kernel
theorem d_X10_count_84 : decode m_X10_count.2.1 84 = .ok (.aload_n 0, 1) := by decide +kernel
theorem d_X10_count_85 : decode m_X10_count.2.1 85 = .ok (.getfield 19, 3) := by decide +kernel
theorem d_X10_count_88 : decode m_X10_count.2.1 88 = .ok (.getfield 301, 3) := by decide +kernel
theorem d_X10_count_91 : decode m_X10_count.2.1 91 = .ok (.ifCond .eq 7, 3) := by decide +kernel
theorem d_X10_count_94 : decode m_X10_count.2.1 94 = .ok (.iconst 1, 1) := by decide +kernel
theorem d_X10_count_95 : decode m_X10_count.2.1 95 = .ok (.goto 4, 3) := by decide +kernel
theorem d_X10_count_98 : decode m_X10_count.2.1 98 = .ok (.iconst 0, 1) := by decide +kernel
theorem d_X10_count_99 : decode m_X10_count.2.1 99 = .ok (.ireturn, 1) := by decide +kernel
theorem d_X10_count_100 : decode m_X10_count.2.1 100 = .ok (.aload_n 0, 1) := by decide +kernel
theorem d_X10_count_101 : decode m_X10_count.2.1 101 = .ok (.getfield 19, 3) := by decide +kernel
theorem d_X10_count_104 : decode m_X10_count.2.1 104 = .ok (.getfield 304, 3) := by decide +kernel
theorem d_X10_count_107 : decode m_X10_count.2.1 107 = .ok (.ifCond .eq 7, 3) := by decide +kernel
theorem d_X10_count_110 : decode m_X10_count.2.1 110 = .ok (.iconst 1, 1) := by decide +kernel
theorem d_X10_count_111 : decode m_X10_count.2.1 111 = .ok (.goto 4, 3) := by decide +kernel
theorem d_X10_count_114 : decode m_X10_count.2.1 114 = .ok (.iconst 0, 1) := by decide +kernel
theorem d_X10_count_115 : decode m_X10_count.2.1 115 = .ok (.ireturn, 1) := by decide +kernel
theorem d_X10_count_116 : decode m_X10_count.2.1 116 = .ok (.aload_n 0, 1) := by decide +kernel
theorem d_X10_count_117 : decode m_X10_count.2.1 117 = .ok (.getfield 31, 3) := by decide +kernel
theorem d_X10_count_120 : decode m_X10_count.2.1 120 = .ok (.getfield 153, 3) := by decide +kernel
theorem d_X10_count_123 : decode m_X10_count.2.1 123 = .ok (.ireturn, 1) := by decide +kernel
theorem d_X10_count_124 : decode m_X10_count.2.1 124 = .ok (.aload_n 0, 1) := by decide +kernel
theorem d_X10_count_125 : decode m_X10_count.2.1 125 = .ok (.getfield 44, 3) := by decide +kernel
theorem d_X10_count_128 : decode m_X10_count.2.1 128 = .ok (.getfield 185, 3) := by decide +kernel
theorem d_X10_count_131 : decode m_X10_count.2.1 131 = .ok (.ireturn, 1) := by decide +kernel
theorem d_X10_count_132 : decode m_X10_count.2.1 132 = .ok (.aload_n 0, 1) := by decide +kernel
theorem d_X10_count_133 : decode m_X10_count.2.1 133 = .ok (.getfield 10, 3) := by decide +kernel
theorem d_X10_count_136 : decode m_X10_count.2.1 136 = .ok (.getfield 92, 3) := by decide +kernel
theorem d_X10_count_139 : decode m_X10_count.2.1 139 = .ok (.ireturn, 1) := by decide +kernel
theorem d_X10_count_140 : decode m_X10_count.2.1 140 = .ok (.iconst (-1), 1) := by decide +kernel
theorem d_X10_count_141 : decode m_X10_count.2.1 141 = .ok (.ireturn, 1) := by decide +kernel
set_option maxRecDepth 20000 in
theorem e_X10_count {E : jm_E} {d : Nat} {μ : jm_M} {Q : Option jm_V → jm_M → Prop} {v1 : Int} (h : (∀ v ∈ ([jm_R 0, jm_I v1] : List jm_V), jm_ok v) →
  ((v1 = 0 →
    Q (some (jm_I (μ 3 1))) μ) ∧
   (¬ (v1 = 0) →
    ((v1 = 1 →
      Q (some (jm_I (μ 3 4))) μ) ∧
     (¬ (v1 = 1) →
      ((v1 = 2 →
        Q (some (jm_I (μ 3 10))) μ) ∧
       (¬ (v1 = 2) →
        ((v1 = 3 →
          Q (some (jm_I (μ 3 11))) μ) ∧
         (¬ (v1 = 3) →
          ((v1 = 4 →
            ((μ 3 14 = 0 →
              Q (some (jm_I 0)) μ) ∧
             (¬ (μ 3 14 = 0) →
              Q (some (jm_I 1)) μ))) ∧
           (¬ (v1 = 4) →
            ((v1 = 5 →
              ((μ 3 15 = 0 →
                Q (some (jm_I 0)) μ) ∧
               (¬ (μ 3 15 = 0) →
                Q (some (jm_I 1)) μ))) ∧
             (¬ (v1 = 5) →
              ((v1 = 6 →
                Q (some (jm_I (μ 21 1))) μ) ∧
               (¬ (v1 = 6) →
                ((v1 = 7 →
                  Q (some (jm_I (μ 69 0))) μ) ∧
                 (¬ (v1 = 7) →
                  ((v1 = 8 →
                    Q (some (jm_I (μ 1 1))) μ) ∧
                   (¬ (v1 = 8) →
                    Q (some (jm_I ((-1)))) μ))))))))))))))))))) : jc E m_X10_count (d + 1) [jm_R 0, jm_I v1] μ Q := by
  refine jm_Cl.of2 (by decide +kernel) (L0 := [some (jm_R 0), some (jm_I v1)]) rfl (Nat.le_of_ble_eq_true rfl) (fun hok => ?_)
  have h := h hok
  refine jm_iloadn d_X10_count_0 rfl ?_
  by_cases c1 : v1 = 0
  · have h := h.1 c1
    refine jm_table (tgt := 52) (off := 51) d_X10_count_1 (by rw [c1]; decide) (by rw [c1]; decide) (by rw [c1]; rfl) (by decide) ?_
    refine jm_aloadn d_X10_count_52 rfl ?_
    refine jm_getF (k := 1) (ki := 1) rfl cf_X10 (Nat.le_of_ble_eq_true rfl) f_X10_19 d_X10_count_53 rfl rfl is_0 fr_0_1 ?_
    refine jm_getI (k := 1) (ki := 1) cf_X5 (Nat.le_of_ble_eq_true rfl) f_X10_199 d_X10_count_56 rfl rfl is_3 rfl ?_
    exact jm_ret (o := some (jm_I _)) d_X10_count_59 rfl ⟨Nat.le_refl _, Nat.le_refl _⟩ jm_r_I h rfl
  · have h := h.2 c1
    by_cases c2 : v1 = 1
    · have h := h.1 c2
      refine jm_table (tgt := 60) (off := 59) d_X10_count_1 (by rw [c2]; decide) (by rw [c2]; decide) (by rw [c2]; rfl) (by decide) ?_
      refine jm_aloadn d_X10_count_60 rfl ?_
      refine jm_getF (k := 1) (ki := 1) rfl cf_X10 (Nat.le_of_ble_eq_true rfl) f_X10_19 d_X10_count_61 rfl rfl is_0 fr_0_1 ?_
      refine jm_getI (k := 4) (ki := 4) cf_X5 (Nat.le_of_ble_eq_true rfl) f_X10_202 d_X10_count_64 rfl rfl is_3 rfl ?_
      exact jm_ret (o := some (jm_I _)) d_X10_count_67 rfl ⟨Nat.le_refl _, Nat.le_refl _⟩ jm_r_I h rfl
    · have h := h.2 c2
      by_cases c3 : v1 = 2
      · have h := h.1 c3
        refine jm_table (tgt := 68) (off := 67) d_X10_count_1 (by rw [c3]; decide) (by rw [c3]; decide) (by rw [c3]; rfl) (by decide) ?_
        refine jm_aloadn d_X10_count_68 rfl ?_
        refine jm_getF (k := 1) (ki := 1) rfl cf_X10 (Nat.le_of_ble_eq_true rfl) f_X10_19 d_X10_count_69 rfl rfl is_0 fr_0_1 ?_
        refine jm_getI (k := 10) (ki := 10) cf_X5 (Nat.le_of_ble_eq_true rfl) f_X10_295 d_X10_count_72 rfl rfl is_3 rfl ?_
        exact jm_ret (o := some (jm_I _)) d_X10_count_75 rfl ⟨Nat.le_refl _, Nat.le_refl _⟩ jm_r_I h rfl
      · have h := h.2 c3
        by_cases c4 : v1 = 3
        · have h := h.1 c4
          refine jm_table (tgt := 76) (off := 75) d_X10_count_1 (by rw [c4]; decide) (by rw [c4]; decide) (by rw [c4]; rfl) (by decide) ?_
          refine jm_aloadn d_X10_count_76 rfl ?_
          refine jm_getF (k := 1) (ki := 1) rfl cf_X10 (Nat.le_of_ble_eq_true rfl) f_X10_19 d_X10_count_77 rfl rfl is_0 fr_0_1 ?_
          refine jm_getI (k := 11) (ki := 11) cf_X5 (Nat.le_of_ble_eq_true rfl) f_X10_298 d_X10_count_80 rfl rfl is_3 rfl ?_
          exact jm_ret (o := some (jm_I _)) d_X10_count_83 rfl ⟨Nat.le_refl _, Nat.le_refl _⟩ jm_r_I h rfl
        · have h := h.2 c4
          by_cases c5 : v1 = 4
          · have h := h.1 c5
            refine jm_table (tgt := 84) (off := 83) d_X10_count_1 (by rw [c5]; decide) (by rw [c5]; decide) (by rw [c5]; rfl) (by decide) ?_
            refine jm_aloadn d_X10_count_84 rfl ?_
            refine jm_getF (k := 1) (ki := 1) rfl cf_X10 (Nat.le_of_ble_eq_true rfl) f_X10_19 d_X10_count_85 rfl rfl is_0 fr_0_1 ?_
            refine jm_getI (k := 14) (ki := 14) cf_X5 (Nat.le_of_ble_eq_true rfl) f_X10_301 d_X10_count_88 rfl rfl is_3 rfl ?_
            refine jm_if_eq (tgt := 98) d_X10_count_91 (by decide) (fun c6 => ?_) (fun c6 => ?_)
            · have h := h.1 c6
              refine jm_iconst (v := 0) d_X10_count_98 rfl (jm_okI (by decide) (by decide)) ?_
              exact jm_ret (o := some (jm_I _)) d_X10_count_99 rfl ⟨Nat.le_refl _, Nat.le_refl _⟩ jm_r_I h rfl
            · have h := h.2 c6
              refine jm_iconst (v := 1) d_X10_count_94 rfl (jm_okI (by decide) (by decide)) ?_
              refine jm_goto (tgt := 99) d_X10_count_95 (by decide) ?_
              exact jm_ret (o := some (jm_I _)) d_X10_count_99 rfl ⟨Nat.le_refl _, Nat.le_refl _⟩ jm_r_I h rfl
          · have h := h.2 c5
            by_cases c7 : v1 = 5
            · have h := h.1 c7
              refine jm_table (tgt := 100) (off := 99) d_X10_count_1 (by rw [c7]; decide) (by rw [c7]; decide) (by rw [c7]; rfl) (by decide) ?_
              refine jm_aloadn d_X10_count_100 rfl ?_
              refine jm_getF (k := 1) (ki := 1) rfl cf_X10 (Nat.le_of_ble_eq_true rfl) f_X10_19 d_X10_count_101 rfl rfl is_0 fr_0_1 ?_
              refine jm_getI (k := 15) (ki := 15) cf_X5 (Nat.le_of_ble_eq_true rfl) f_X10_304 d_X10_count_104 rfl rfl is_3 rfl ?_
              refine jm_if_eq (tgt := 114) d_X10_count_107 (by decide) (fun c8 => ?_) (fun c8 => ?_)
              · have h := h.1 c8
                refine jm_iconst (v := 0) d_X10_count_114 rfl (jm_okI (by decide) (by decide)) ?_
                exact jm_ret (o := some (jm_I _)) d_X10_count_115 rfl ⟨Nat.le_refl _, Nat.le_refl _⟩ jm_r_I h rfl
              · have h := h.2 c8
                refine jm_iconst (v := 1) d_X10_count_110 rfl (jm_okI (by decide) (by decide)) ?_
                refine jm_goto (tgt := 115) d_X10_count_111 (by decide) ?_
                exact jm_ret (o := some (jm_I _)) d_X10_count_115 rfl ⟨Nat.le_refl _, Nat.le_refl _⟩ jm_r_I h rfl
            · have h := h.2 c7
              by_cases c9 : v1 = 6
              · have h := h.1 c9
                refine jm_table (tgt := 116) (off := 115) d_X10_count_1 (by rw [c9]; decide) (by rw [c9]; decide) (by rw [c9]; rfl) (by decide) ?_
                refine jm_aloadn d_X10_count_116 rfl ?_
                refine jm_getF (k := 3) (ki := 3) rfl cf_X10 (Nat.le_of_ble_eq_true rfl) f_X10_31 d_X10_count_117 rfl rfl is_0 fr_0_3 ?_
                refine jm_getI (k := 1) (ki := 1) cf_X6 (Nat.le_of_ble_eq_true rfl) f_X10_153 d_X10_count_120 rfl rfl is_21 rfl ?_
                exact jm_ret (o := some (jm_I _)) d_X10_count_123 rfl ⟨Nat.le_refl _, Nat.le_refl _⟩ jm_r_I h rfl
              · have h := h.2 c9
                by_cases c10 : v1 = 7
                · have h := h.1 c10
                  refine jm_table (tgt := 124) (off := 123) d_X10_count_1 (by rw [c10]; decide) (by rw [c10]; decide) (by rw [c10]; rfl) (by decide) ?_
                  refine jm_aloadn d_X10_count_124 rfl ?_
                  refine jm_getF (k := 6) (ki := 6) rfl cf_X10 (Nat.le_of_ble_eq_true rfl) f_X10_44 d_X10_count_125 rfl rfl is_0 fr_0_6 ?_
                  refine jm_getI (k := 0) (ki := 0) cf_X1 (Nat.le_of_ble_eq_true rfl) f_X10_185 d_X10_count_128 rfl rfl is_69 rfl ?_
                  exact jm_ret (o := some (jm_I _)) d_X10_count_131 rfl ⟨Nat.le_refl _, Nat.le_refl _⟩ jm_r_I h rfl
                · have h := h.2 c10
                  by_cases c11 : v1 = 8
                  · have h := h.1 c11
                    refine jm_table (tgt := 132) (off := 131) d_X10_count_1 (by rw [c11]; decide) (by rw [c11]; decide) (by rw [c11]; rfl) (by decide) ?_
                    refine jm_aloadn d_X10_count_132 rfl ?_
                    refine jm_getF (k := 0) (ki := 0) rfl cf_X10 (Nat.le_of_ble_eq_true rfl) f_X10_10 d_X10_count_133 rfl rfl is_0 fr_0_0 ?_
                    refine jm_getI (k := 1) (ki := 1) cf_X7 (Nat.le_of_ble_eq_true rfl) f_X10_92 d_X10_count_136 rfl rfl is_1 rfl ?_
                    exact jm_ret (o := some (jm_I _)) d_X10_count_139 rfl ⟨Nat.le_refl _, Nat.le_refl _⟩ jm_r_I h rfl
                  · have h := h.2 c11
                    refine jm_tableD (tgt := 140) d_X10_count_1 (jm_tb2 (jm_tb1 (jm_tb1 (jm_tb1 (jm_tb1 (jm_tb1 (jm_tb1 (jm_tb1 (jm_tb1 (jm_tb1 (jm_tb0 0) c1) c2) c3) c4) c5) c7) c9) c10) c11) rfl) (by decide) ?_
                    refine jm_iconst (v := (-1)) d_X10_count_140 rfl (jm_okI (by decide) (by decide)) ?_
                    exact jm_ret (o := some (jm_I _)) d_X10_count_141 rfl ⟨Nat.le_refl _, Nat.le_refl _⟩ jm_r_I h rfl
/-! ('CombTable', 'afterReading', '(ZI)I') -/
theorem d_X10_afterReading_0 : decode m_X10_afterReading.2.1 0 = .ok (.aload_n 0, 1) := by decide +kernel
theorem d_X10_afterReading_1 : decode m_X10_afterReading.2.1 1 = .ok (.getfield 10, 3) := by decide +kernel
theorem d_X10_afterReading_4 : decode m_X10_afterReading.2.1 4 = .ok (.iconst 0, 1) := by decide +kernel
theorem d_X10_afterReading_5 : decode m_X10_afterReading.2.1 5 = .ok (.putfield 92, 3) := by decide +kernel
theorem d_X10_afterReading_8 : decode m_X10_afterReading.2.1 8 = .ok (.iload_n 1, 1) := by decide +kernel
theorem d_X10_afterReading_9 : decode m_X10_afterReading.2.1 9 = .ok (.ifCond .eq 7, 3) := by decide +kernel
theorem d_X10_afterReading_12 : decode m_X10_afterReading.2.1 12 = .ok (.iload_n 2, 1) := by decide +kernel
theorem d_X10_afterReading_13 : decode m_X10_afterReading.2.1 13 = .ok (.goto 12, 3) := by decide +kernel
theorem d_X10_afterReading_16 : decode m_X10_afterReading.2.1 16 = .ok (.iconst (-1), 1) := by decide +kernel
theorem d_X10_afterReading_17 : decode m_X10_afterReading.2.1 17 = .ok (.aload_n 0, 1) := by decide +kernel
theorem d_X10_afterReading_18 : decode m_X10_afterReading.2.1 18 = .ok (.getfield 10, 3) := by decide +kernel
theorem d_X10_afterReading_21 : decode m_X10_afterReading.2.1 21 = .ok (.getfield 307, 3) := by decide +kernel
theorem d_X10_afterReading_24 : decode m_X10_afterReading.2.1 24 = .ok (.isub, 1) := by decide +kernel
theorem d_X10_afterReading_25 : decode m_X10_afterReading.2.1 25 = .ok (.ireturn, 1) := by decide +kernel
set_option maxRecDepth 20000 in
theorem e_X10_afterReading {E : jm_E} {d : Nat} {μ : jm_M} {Q : Option jm_V → jm_M → Prop} {v1 v2 : Int} (h : (∀ v ∈ ([jm_R 0, jm_I v1, jm_I v2] : List jm_V), jm_ok v) →
  ((v1 = 0 →
    Q (some (jm_I (jm_wr (((-1)) - (μ 1 10))))) (jm_up μ 1 1 0)) ∧
   (¬ (v1 = 0) →
    Q (some (jm_I v2)) (jm_up μ 1 1 0)))) : jc E m_X10_afterReading (d + 1) [jm_R 0, jm_I v1, jm_I v2] μ Q := by
  refine jm_Cl.of2 (by decide +kernel) (L0 := [some (jm_R 0), some (jm_I v1), some (jm_I v2)]) rfl (Nat.le_of_ble_eq_true rfl) (fun hok => ?_)
  have h := h hok
  refine jm_aloadn d_X10_afterReading_0 rfl ?_
  refine jm_getF (k := 0) (ki := 0) rfl cf_X10 (Nat.le_of_ble_eq_true rfl) f_X10_10 d_X10_afterReading_1 rfl rfl is_0 fr_0_0 ?_
  refine jm_iconst (v := 0) d_X10_afterReading_4 rfl (jm_okI (by decide) (by decide)) ?_
  refine jm_putI (k := 1) (ki := 1) cf_X7 (Nat.le_of_ble_eq_true rfl) f_X10_92 d_X10_afterReading_5 (fun z => absurd z (by decide)) rfl rfl rfl (fun _ => rfl) is_1 ?_
  refine jm_iloadn d_X10_afterReading_8 rfl ?_
  refine jm_if_eq (tgt := 16) d_X10_afterReading_9 (by decide) (fun c1 => ?_) (fun c1 => ?_)
  · have h := h.1 c1
    refine jm_iconst (v := (-1)) d_X10_afterReading_16 rfl (jm_okI (by decide) (by decide)) ?_
    refine jm_aloadn d_X10_afterReading_17 rfl ?_
    refine jm_getF (k := 0) (ki := 0) rfl cf_X10 (Nat.le_of_ble_eq_true rfl) f_X10_10 d_X10_afterReading_18 rfl rfl is_0 fr_0_0 ?_
    refine jm_getI (k := 10) (ki := 10) cf_X7 (Nat.le_of_ble_eq_true rfl) f_X10_307 d_X10_afterReading_21 rfl rfl is_1 ((jm_up_i (by decide)).trans rfl) ?_
    refine jm_isub d_X10_afterReading_24 ?_
    exact jm_ret (o := some (jm_I _)) d_X10_afterReading_25 rfl ⟨Nat.le_refl _, Nat.le_refl _⟩ jm_r_I h rfl
  · have h := h.2 c1
    refine jm_iloadn d_X10_afterReading_12 rfl ?_
    refine jm_goto (tgt := 25) d_X10_afterReading_13 (by decide) ?_
    exact jm_ret (o := some (jm_I _)) d_X10_afterReading_25 rfl ⟨Nat.le_refl _, Nat.le_refl _⟩ jm_r_I h rfl
