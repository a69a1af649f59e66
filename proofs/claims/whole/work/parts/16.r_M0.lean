-- X11_init: by hand (objinit)
/-! ('CombTableModel', 'thrown', '()I') -/
theorem d_X11_thrown_0 : decode m_X11_thrown.2.1 0 = .ok (.aload_n 0, 1) := by decide +kernel
theorem d_X11_thrown_1 : decode m_X11_thrown.2.1 1 = .ok (.getfield 106, 3) := by decide +kernel
theorem d_X11_thrown_4 : decode m_X11_thrown.2.1 4 = .ok (.ireturn, 1) := by decide +kernel
set_option maxRecDepth 20000 in
theorem e_X11_thrown {E : jm_E} {d : Nat} {μ : jm_M} {Q : Option jm_V → jm_M → Prop}  (h : (∀ v ∈ ([jm_R 133] : List jm_V), jm_ok v) →
  Q (some (jm_I (μ 133 0))) μ) : jc E m_X11_thrown (d + 1) [jm_R 133] μ Q := by
  refine jm_Cl.of2 (by decide +kernel) (L0 := [some (jm_R 133)]) rfl (Nat.le_of_ble_eq_true rfl) (fun hok => ?_)
  have h := h hok
  refine jm_aloadn d_X11_thrown_0 rfl ?_
  refine jm_getI (k := 0) (ki := 0) cf_X11 (Nat.le_of_ble_eq_true rfl) f_X11_106 d_X11_thrown_1 rfl rfl is_133 rfl ?_
  exact jm_ret (o := some (jm_I _)) d_X11_thrown_4 rfl ⟨Nat.le_refl _, Nat.le_refl _⟩ jm_r_I h rfl
/-! ('CombTableModel', 'refuse', '()I') -/
theorem d_X11_refuse_0 : decode m_X11_refuse.2.1 0 = .ok (.aload_n 0, 1) := by decide +kernel
theorem d_X11_refuse_1 : decode m_X11_refuse.2.1 1 = .ok (.iconst 1, 1) := by decide +kernel
theorem d_X11_refuse_2 : decode m_X11_refuse.2.1 2 = .ok (.putfield 106, 3) := by decide +kernel
theorem d_X11_refuse_5 : decode m_X11_refuse.2.1 5 = .ok (.iconst 0, 1) := by decide +kernel
theorem d_X11_refuse_6 : decode m_X11_refuse.2.1 6 = .ok (.ireturn, 1) := by decide +kernel
set_option maxRecDepth 20000 in
theorem e_X11_refuse {E : jm_E} {d : Nat} {μ : jm_M} {Q : Option jm_V → jm_M → Prop}  (h : (∀ v ∈ ([jm_R 133] : List jm_V), jm_ok v) →
  Q (some (jm_I 0)) (jm_up μ 133 0 1)) : jc E m_X11_refuse (d + 1) [jm_R 133] μ Q := by
  refine jm_Cl.of2 (by decide +kernel) (L0 := [some (jm_R 133)]) rfl (Nat.le_of_ble_eq_true rfl) (fun hok => ?_)
  have h := h hok
  refine jm_aloadn d_X11_refuse_0 rfl ?_
  refine jm_iconst (v := 1) d_X11_refuse_1 rfl (jm_okI (by decide) (by decide)) ?_
  refine jm_putI (k := 0) (ki := 0) cf_X11 (Nat.le_of_ble_eq_true rfl) f_X11_106 d_X11_refuse_2 (fun z => absurd z (by decide)) rfl rfl rfl (fun _ => rfl) is_133 ?_
  refine jm_iconst (v := 0) d_X11_refuse_5 rfl (jm_okI (by decide) (by decide)) ?_
  exact jm_ret (o := some (jm_I _)) d_X11_refuse_6 rfl ⟨Nat.le_refl _, Nat.le_refl _⟩ jm_r_I h rfl
/-! ('CombTableModel', 'come', '(I)V') -/
theorem d_X11_come_0 : decode m_X11_come.2.1 0 = .ok (.bipush 24, 2) := by decide +kernel
theorem d_X11_come_2 : decode m_X11_come.2.1 2 = .ok (.istore_n 2, 1) := by decide +kernel
theorem d_X11_come_3 : decode m_X11_come.2.1 3 = .ok (.iload_n 2, 1) := by decide +kernel
theorem d_X11_come_4 : decode m_X11_come.2.1 4 = .ok (.ifCond .lt 35, 3) := by decide +kernel
theorem d_X11_come_7 : decode m_X11_come.2.1 7 = .ok (.aload_n 0, 1) := by decide +kernel
theorem d_X11_come_8 : decode m_X11_come.2.1 8 = .ok (.getfield 7, 3) := by decide +kernel
theorem d_X11_come_11 : decode m_X11_come.2.1 11 = .ok (.aload_n 0, 1) := by decide +kernel
theorem d_X11_come_12 : decode m_X11_come.2.1 12 = .ok (.getfield 109, 3) := by decide +kernel
theorem d_X11_come_15 : decode m_X11_come.2.1 15 = .ok (.iload_n 1, 1) := by decide +kernel
theorem d_X11_come_16 : decode m_X11_come.2.1 16 = .ok (.iload_n 2, 1) := by decide +kernel
theorem d_X11_come_17 : decode m_X11_come.2.1 17 = .ok (.iushr, 1) := by decide +kernel
theorem d_X11_come_18 : decode m_X11_come.2.1 18 = .ok (.sipush 255, 3) := by decide +kernel
theorem d_X11_come_21 : decode m_X11_come.2.1 21 = .ok (.iand, 1) := by decide +kernel
theorem d_X11_come_22 : decode m_X11_come.2.1 22 = .ok (.iastore, 1) := by decide +kernel
theorem d_X11_come_23 : decode m_X11_come.2.1 23 = .ok (.aload_n 0, 1) := by decide +kernel
theorem d_X11_come_24 : decode m_X11_come.2.1 24 = .ok (.dup, 1) := by decide +kernel
theorem d_X11_come_25 : decode m_X11_come.2.1 25 = .ok (.getfield 109, 3) := by decide +kernel
theorem d_X11_come_28 : decode m_X11_come.2.1 28 = .ok (.iconst 1, 1) := by decide +kernel
theorem d_X11_come_29 : decode m_X11_come.2.1 29 = .ok (.iadd, 1) := by decide +kernel
theorem d_X11_come_30 : decode m_X11_come.2.1 30 = .ok (.putfield 109, 3) := by decide +kernel
theorem d_X11_come_33 : decode m_X11_come.2.1 33 = .ok (.iinc 2 (-8), 3) := by decide +kernel
theorem d_X11_come_36 : decode m_X11_come.2.1 36 = .ok (.goto (-33), 3) := by decide +kernel
theorem d_X11_come_39 : decode m_X11_come.2.1 39 = .ok (.return_, 1) := by decide +kernel
set_option maxRecDepth 20000 in
theorem e_X11_come {E : jm_E} {d : Nat} {μ : jm_M} {Q : Option jm_V → jm_M → Prop} {v1 : Int} (h : (∀ v ∈ ([jm_R 133, jm_I v1] : List jm_V), jm_ok v) →
  jg E m_X11_come d 3 [some (jm_R 133), some (jm_I v1), some (jm_I 24)] [] μ Q) : jc E m_X11_come (d + 1) [jm_R 133, jm_I v1] μ Q := by
  refine jm_Cl.of2 (by decide +kernel) (L0 := [some (jm_R 133), some (jm_I v1), none]) rfl (Nat.le_of_ble_eq_true rfl) (fun hok => ?_)
  have h := h hok
  refine jm_bipush (v := 24) d_X11_come_0 rfl (jm_okI (by decide) (by decide)) ?_
  refine jm_istoren (L' := [some (jm_R _), some (jm_I _), some (jm_I _)]) d_X11_come_2 (Nat.le_of_ble_eq_true rfl) rfl ?_
  exact h
set_option maxRecDepth 20000 in
theorem r_X11_come_3 {E : jm_E} {d : Nat} {μ : jm_M} {Q : Option jm_V → jm_M → Prop} {v1 v2 : Int} (h :
  ((v2 < 0 →
    Q none μ) ∧
   (¬ (v2 < 0) →
    (0 ≤ μ 133 2 ∧ μ 133 2 < 940) ∧
    ∀ m3 : jm_M, m3 = (jm_up μ 134 (μ 133 2) (jm_and (jm_ushr v1 v2) 255)) →
    jg E m_X11_come d 3 [some (jm_R 133), some (jm_I v1), some (jm_I (jm_wr (v2 + (-8))))] [] (jm_up m3 133 2 (jm_wr ((m3 133 2) + 1))) Q))) : jg E m_X11_come d 3 [some (jm_R 133), some (jm_I v1), some (jm_I v2)] [] μ Q := by
  refine jm_iloadn d_X11_come_3 rfl ?_
  refine jm_if_lt (tgt := 39) d_X11_come_4 (by decide) (fun c1 => ?_) (fun c1 => ?_)
  · have h := h.1 c1
    exact jm_ret (o := none) d_X11_come_39 rfl ⟨Nat.le_refl _, Nat.le_refl _⟩ jm_r_V h rfl
  · have h := h.2 c1
    refine jm_aloadn d_X11_come_7 rfl ?_
    refine jm_getF (k := 1) (ki := 1) rfl cf_X11 (Nat.le_of_ble_eq_true rfl) f_X11_7 d_X11_come_8 rfl rfl is_133 fr_133_1 ?_
    refine jm_aloadn d_X11_come_11 rfl ?_
    refine jm_getI (k := 2) (ki := 2) cf_X11 (Nat.le_of_ble_eq_true rfl) f_X11_109 d_X11_come_12 rfl rfl is_133 rfl ?_
    refine jm_iloadn d_X11_come_15 rfl ?_
    refine jm_iloadn d_X11_come_16 rfl ?_
    refine jm_iushr d_X11_come_17 ?_
    refine jm_sipush (v := 255) d_X11_come_18 rfl (jm_okI (by decide) (by decide)) ?_
    refine jm_iand d_X11_come_21 ?_
    obtain ⟨f2, h⟩ := h
    refine jm_iastore d_X11_come_22 (ixl_134 f2.1 f2.2) ?_
    have h := h _ rfl
    refine jm_aloadn d_X11_come_23 rfl ?_
    refine jm_dup rfl d_X11_come_24 ?_
    refine jm_getI (k := 2) (ki := 2) cf_X11 (Nat.le_of_ble_eq_true rfl) f_X11_109 d_X11_come_25 rfl rfl is_133 rfl ?_
    refine jm_iconst (v := 1) d_X11_come_28 rfl (jm_okI (by decide) (by decide)) ?_
    refine jm_iadd d_X11_come_29 ?_
    refine jm_putI (k := 2) (ki := 2) cf_X11 (Nat.le_of_ble_eq_true rfl) f_X11_109 d_X11_come_30 (fun z => absurd z (by decide)) rfl rfl rfl (fun _ => rfl) is_133 ?_
    refine jm_iinc (L' := [some (jm_R _), some (jm_I _), some (jm_I _)]) d_X11_come_33 rfl rfl (Nat.le_of_ble_eq_true rfl) rfl ?_
    refine jm_goto (tgt := 3) d_X11_come_36 (by decide) ?_
    exact h
/-! ('CombTableModel', 'feed', '(IIIII)I') -/
theorem d_X11_feed_0 : decode m_X11_feed.2.1 0 = .ok (.aload_n 0, 1) := by decide +kernel
theorem d_X11_feed_1 : decode m_X11_feed.2.1 1 = .ok (.iconst 0, 1) := by decide +kernel
theorem d_X11_feed_2 : decode m_X11_feed.2.1 2 = .ok (.putfield 106, 3) := by decide +kernel
theorem d_X11_feed_5 : decode m_X11_feed.2.1 5 = .ok (.aload_n 0, 1) := by decide +kernel
theorem d_X11_feed_6 : decode m_X11_feed.2.1 6 = .ok (.getfield 109, 3) := by decide +kernel
theorem d_X11_feed_9 : decode m_X11_feed.2.1 9 = .ok (.bipush 20, 2) := by decide +kernel
theorem d_X11_feed_11 : decode m_X11_feed.2.1 11 = .ok (.iadd, 1) := by decide +kernel
theorem d_X11_feed_12 : decode m_X11_feed.2.1 12 = .ok (.sipush 940, 3) := by decide +kernel
theorem d_X11_feed_15 : decode m_X11_feed.2.1 15 = .ok (.if_icmp .le 5, 3) := by decide +kernel
theorem d_X11_feed_18 : decode m_X11_feed.2.1 18 = .ok (.iconst (-1), 1) := by decide +kernel
theorem d_X11_feed_19 : decode m_X11_feed.2.1 19 = .ok (.ireturn, 1) := by decide +kernel
theorem d_X11_feed_20 : decode m_X11_feed.2.1 20 = .ok (.aload_n 0, 1) := by decide +kernel
theorem d_X11_feed_21 : decode m_X11_feed.2.1 21 = .ok (.iload_n 1, 1) := by decide +kernel
theorem d_X11_feed_22 : decode m_X11_feed.2.1 22 = .ok (.invokevirtual 112, 3) := by decide +kernel
theorem d_X11_feed_25 : decode m_X11_feed.2.1 25 = .ok (.aload_n 0, 1) := by decide +kernel
theorem d_X11_feed_26 : decode m_X11_feed.2.1 26 = .ok (.iload_n 2, 1) := by decide +kernel
theorem d_X11_feed_27 : decode m_X11_feed.2.1 27 = .ok (.invokevirtual 112, 3) := by decide +kernel
theorem d_X11_feed_30 : decode m_X11_feed.2.1 30 = .ok (.aload_n 0, 1) := by decide +kernel
theorem d_X11_feed_31 : decode m_X11_feed.2.1 31 = .ok (.iload_n 3, 1) := by decide +kernel
theorem d_X11_feed_32 : decode m_X11_feed.2.1 32 = .ok (.invokevirtual 112, 3) := by decide +kernel
theorem d_X11_feed_35 : decode m_X11_feed.2.1 35 = .ok (.aload_n 0, 1) := by decide +kernel
theorem d_X11_feed_36 : decode m_X11_feed.2.1 36 = .ok (.iload 4, 2) := by decide +kernel
theorem d_X11_feed_38 : decode m_X11_feed.2.1 38 = .ok (.invokevirtual 112, 3) := by decide +kernel
theorem d_X11_feed_41 : decode m_X11_feed.2.1 41 = .ok (.aload_n 0, 1) := by decide +kernel
theorem d_X11_feed_42 : decode m_X11_feed.2.1 42 = .ok (.iload 5, 2) := by decide +kernel
theorem d_X11_feed_44 : decode m_X11_feed.2.1 44 = .ok (.invokevirtual 112, 3) := by decide +kernel
theorem d_X11_feed_47 : decode m_X11_feed.2.1 47 = .ok (.aload_n 0, 1) := by decide +kernel
theorem d_X11_feed_48 : decode m_X11_feed.2.1 48 = .ok (.getfield 109, 3) := by decide +kernel
theorem d_X11_feed_51 : decode m_X11_feed.2.1 51 = .ok (.ireturn, 1) := by decide +kernel
set_option maxRecDepth 20000 in
theorem e_X11_feed {E : jm_E} {d : Nat} {μ : jm_M} {Q : Option jm_V → jm_M → Prop} {v1 v2 v3 v4 v5 : Int} (h : (∀ v ∈ ([jm_R 133, jm_I v1, jm_I v2, jm_I v3, jm_I v4, jm_I v5] : List jm_V), jm_ok v) →
  (((jm_wr ((μ 133 2) + 20)) ≤ 940 →
    jc E m_X11_come d [jm_R 133, jm_I v1] (jm_up μ 133 0 0) (fun (o : Option jm_V) (m2 : jm_M) => o = none →
    jc E m_X11_come d [jm_R 133, jm_I v2] m2 (fun (o : Option jm_V) (m3 : jm_M) => o = none →
    jc E m_X11_come d [jm_R 133, jm_I v3] m3 (fun (o : Option jm_V) (m4 : jm_M) => o = none →
    jc E m_X11_come d [jm_R 133, jm_I v4] m4 (fun (o : Option jm_V) (m5 : jm_M) => o = none →
    jc E m_X11_come d [jm_R 133, jm_I v5] m5 (fun (o : Option jm_V) (m6 : jm_M) => o = none →
    Q (some (jm_I (m6 133 2))) m6)))))) ∧
   (¬ ((jm_wr ((μ 133 2) + 20)) ≤ 940) →
    Q (some (jm_I ((-1)))) (jm_up μ 133 0 0)))) : jc E m_X11_feed (d + 1) [jm_R 133, jm_I v1, jm_I v2, jm_I v3, jm_I v4, jm_I v5] μ Q := by
  refine jm_Cl.of2 (by decide +kernel) (L0 := [some (jm_R 133), some (jm_I v1), some (jm_I v2), some (jm_I v3), some (jm_I v4), some (jm_I v5)]) rfl (Nat.le_of_ble_eq_true rfl) (fun hok => ?_)
  have h := h hok
  refine jm_aloadn d_X11_feed_0 rfl ?_
  refine jm_iconst (v := 0) d_X11_feed_1 rfl (jm_okI (by decide) (by decide)) ?_
  refine jm_putI (k := 0) (ki := 0) cf_X11 (Nat.le_of_ble_eq_true rfl) f_X11_106 d_X11_feed_2 (fun z => absurd z (by decide)) rfl rfl rfl (fun _ => rfl) is_133 ?_
  refine jm_aloadn d_X11_feed_5 rfl ?_
  refine jm_getI (k := 2) (ki := 2) cf_X11 (Nat.le_of_ble_eq_true rfl) f_X11_109 d_X11_feed_6 rfl rfl is_133 ((jm_up_i (by decide)).trans rfl) ?_
  refine jm_bipush (v := 20) d_X11_feed_9 rfl (jm_okI (by decide) (by decide)) ?_
  refine jm_iadd d_X11_feed_11 ?_
  refine jm_sipush (v := 940) d_X11_feed_12 rfl (jm_okI (by decide) (by decide)) ?_
  refine jm_icmp_le (tgt := 20) d_X11_feed_15 (by decide) (fun c1 => ?_) (fun c1 => ?_)
  · have h := h.1 c1
    refine jm_aloadn d_X11_feed_20 rfl ?_
    refine jm_iloadn d_X11_feed_21 rfl ?_
    refine jm_invV (n1 := jm_N) (mc := 0) (ms := 0) (av := [jm_I _]) w_X11_come l_X11_112 d_X11_feed_22 rfl is_133 ⟨_, _, rfl⟩ ⟨Nat.le_refl _, Nat.le_refl _⟩ (Nat.le_of_ble_eq_true rfl) rfl ?_
    refine jm_Cl.mono h (fun o m2 h hr _ => ?_)
    obtain rfl := jm_rokV hr
    have h := h rfl
    refine jm_aloadn d_X11_feed_25 rfl ?_
    refine jm_iloadn d_X11_feed_26 rfl ?_
    refine jm_invV (n1 := jm_N) (mc := 0) (ms := 0) (av := [jm_I _]) w_X11_come l_X11_112 d_X11_feed_27 rfl is_133 ⟨_, _, rfl⟩ ⟨Nat.le_refl _, Nat.le_refl _⟩ (Nat.le_of_ble_eq_true rfl) rfl ?_
    refine jm_Cl.mono h (fun o m3 h hr _ => ?_)
    obtain rfl := jm_rokV hr
    have h := h rfl
    refine jm_aloadn d_X11_feed_30 rfl ?_
    refine jm_iloadn d_X11_feed_31 rfl ?_
    refine jm_invV (n1 := jm_N) (mc := 0) (ms := 0) (av := [jm_I _]) w_X11_come l_X11_112 d_X11_feed_32 rfl is_133 ⟨_, _, rfl⟩ ⟨Nat.le_refl _, Nat.le_refl _⟩ (Nat.le_of_ble_eq_true rfl) rfl ?_
    refine jm_Cl.mono h (fun o m4 h hr _ => ?_)
    obtain rfl := jm_rokV hr
    have h := h rfl
    refine jm_aloadn d_X11_feed_35 rfl ?_
    refine jm_iload d_X11_feed_36 rfl ?_
    refine jm_invV (n1 := jm_N) (mc := 0) (ms := 0) (av := [jm_I _]) w_X11_come l_X11_112 d_X11_feed_38 rfl is_133 ⟨_, _, rfl⟩ ⟨Nat.le_refl _, Nat.le_refl _⟩ (Nat.le_of_ble_eq_true rfl) rfl ?_
    refine jm_Cl.mono h (fun o m5 h hr _ => ?_)
    obtain rfl := jm_rokV hr
    have h := h rfl
    refine jm_aloadn d_X11_feed_41 rfl ?_
    refine jm_iload d_X11_feed_42 rfl ?_
    refine jm_invV (n1 := jm_N) (mc := 0) (ms := 0) (av := [jm_I _]) w_X11_come l_X11_112 d_X11_feed_44 rfl is_133 ⟨_, _, rfl⟩ ⟨Nat.le_refl _, Nat.le_refl _⟩ (Nat.le_of_ble_eq_true rfl) rfl ?_
    refine jm_Cl.mono h (fun o m6 h hr _ => ?_)
    obtain rfl := jm_rokV hr
    have h := h rfl
    refine jm_aloadn d_X11_feed_47 rfl ?_
    refine jm_getI (k := 2) (ki := 2) cf_X11 (Nat.le_of_ble_eq_true rfl) f_X11_109 d_X11_feed_48 rfl rfl is_133 rfl ?_
    exact jm_ret (o := some (jm_I _)) d_X11_feed_51 rfl ⟨Nat.le_refl _, Nat.le_refl _⟩ jm_r_I h rfl
  · have h := h.2 c1
    refine jm_iconst (v := (-1)) d_X11_feed_18 rfl (jm_okI (by decide) (by decide)) ?_
    exact jm_ret (o := some (jm_I _)) d_X11_feed_19 rfl ⟨Nat.le_refl _, Nat.le_refl _⟩ jm_r_I h rfl
/-! ('CombTableModel', 'end', '(I)Z') -/
theorem d_X11_end_0 : decode m_X11_end.2.1 0 = .ok (.aload_n 0, 1) := by decide +kernel
theorem d_X11_end_1 : decode m_X11_end.2.1 1 = .ok (.iconst 0, 1) := by decide +kernel
theorem d_X11_end_2 : decode m_X11_end.2.1 2 = .ok (.putfield 106, 3) := by decide +kernel
theorem d_X11_end_5 : decode m_X11_end.2.1 5 = .ok (.iload_n 1, 1) := by decide +kernel
theorem d_X11_end_6 : decode m_X11_end.2.1 6 = .ok (.ifCond .lt 11, 3) := by decide +kernel
theorem d_X11_end_9 : decode m_X11_end.2.1 9 = .ok (.iload_n 1, 1) := by decide +kernel
theorem d_X11_end_10 : decode m_X11_end.2.1 10 = .ok (.aload_n 0, 1) := by decide +kernel
theorem d_X11_end_11 : decode m_X11_end.2.1 11 = .ok (.getfield 109, 3) := by decide +kernel
theorem d_X11_end_14 : decode m_X11_end.2.1 14 = .ok (.if_icmp .le 5, 3) := by decide +kernel
theorem d_X11_end_17 : decode m_X11_end.2.1 17 = .ok (.iconst 0, 1) := by decide +kernel
theorem d_X11_end_18 : decode m_X11_end.2.1 18 = .ok (.ireturn, 1) := by decide +kernel
theorem d_X11_end_19 : decode m_X11_end.2.1 19 = .ok (.aload_n 0, 1) := by decide +kernel
theorem d_X11_end_20 : decode m_X11_end.2.1 20 = .ok (.iload_n 1, 1) := by decide +kernel
theorem d_X11_end_21 : decode m_X11_end.2.1 21 = .ok (.putfield 109, 3) := by decide +kernel
theorem d_X11_end_24 : decode m_X11_end.2.1 24 = .ok (.iconst 1, 1) := by decide +kernel
theorem d_X11_end_25 : decode m_X11_end.2.1 25 = .ok (.ireturn, 1) := by decide +kernel
set_option maxRecDepth 20000 in
theorem e_X11_end {E : jm_E} {d : Nat} {μ : jm_M} {Q : Option jm_V → jm_M → Prop} {v1 : Int} (h : (∀ v ∈ ([jm_R 133, jm_I v1] : List jm_V), jm_ok v) →
  ((v1 < 0 →
    Q (some (jm_I 0)) (jm_up μ 133 0 0)) ∧
   (¬ (v1 < 0) →
    ((v1 ≤ μ 133 2 →
      Q (some (jm_I 1)) (jm_up (jm_up μ 133 0 0) 133 2 v1)) ∧
     (¬ (v1 ≤ μ 133 2) →
      Q (some (jm_I 0)) (jm_up μ 133 0 0)))))) : jc E m_X11_end (d + 1) [jm_R 133, jm_I v1] μ Q := by
  refine jm_Cl.of2 (by decide +kernel) (L0 := [some (jm_R 133), some (jm_I v1)]) rfl (Nat.le_of_ble_eq_true rfl) (fun hok => ?_)
  have h := h hok
  refine jm_aloadn d_X11_end_0 rfl ?_
  refine jm_iconst (v := 0) d_X11_end_1 rfl (jm_okI (by decide) (by decide)) ?_
  refine jm_putI (k := 0) (ki := 0) cf_X11 (Nat.le_of_ble_eq_true rfl) f_X11_106 d_X11_end_2 (fun z => absurd z (by decide)) rfl rfl rfl (fun _ => rfl) is_133 ?_
  refine jm_iloadn d_X11_end_5 rfl ?_
  refine jm_if_lt (tgt := 17) d_X11_end_6 (by decide) (fun c1 => ?_) (fun c1 => ?_)
  · have h := h.1 c1
    refine jm_iconst (v := 0) d_X11_end_17 rfl (jm_okI (by decide) (by decide)) ?_
    exact jm_ret (o := some (jm_I _)) d_X11_end_18 rfl ⟨Nat.le_refl _, Nat.le_refl _⟩ (jm_r_Z (by decide)) h rfl
  · have h := h.2 c1
    refine jm_iloadn d_X11_end_9 rfl ?_
    refine jm_aloadn d_X11_end_10 rfl ?_
    refine jm_getI (k := 2) (ki := 2) cf_X11 (Nat.le_of_ble_eq_true rfl) f_X11_109 d_X11_end_11 rfl rfl is_133 ((jm_up_i (by decide)).trans rfl) ?_
    refine jm_icmp_le (tgt := 19) d_X11_end_14 (by decide) (fun c2 => ?_) (fun c2 => ?_)
    · have h := h.1 c2
      refine jm_aloadn d_X11_end_19 rfl ?_
      refine jm_iloadn d_X11_end_20 rfl ?_
      refine jm_putI (k := 2) (ki := 2) cf_X11 (Nat.le_of_ble_eq_true rfl) f_X11_109 d_X11_end_21 (fun z => absurd z (by decide)) rfl rfl rfl (fun _ => rfl) is_133 ?_
      refine jm_iconst (v := 1) d_X11_end_24 rfl (jm_okI (by decide) (by decide)) ?_
      exact jm_ret (o := some (jm_I _)) d_X11_end_25 rfl ⟨Nat.le_refl _, Nat.le_refl _⟩ (jm_r_Z (by decide)) h rfl
    · have h := h.2 c2
      refine jm_iconst (v := 0) d_X11_end_17 rfl (jm_okI (by decide) (by decide)) ?_
      exact jm_ret (o := some (jm_I _)) d_X11_end_18 rfl ⟨Nat.le_refl _, Nat.le_refl _⟩ (jm_r_Z (by decide)) h rfl
/-! ('CombTableModel', 'take', '()I') -/
theorem d_X11_take_0 : decode m_X11_take.2.1 0 = .ok (.aload_n 0, 1) := by decide +kernel
theorem d_X11_take_1 : decode m_X11_take.2.1 1 = .ok (.getfield 109, 3) := by decide +kernel
theorem d_X11_take_4 : decode m_X11_take.2.1 4 = .ok (.istore_n 1, 1) := by decide +kernel
theorem d_X11_take_5 : decode m_X11_take.2.1 5 = .ok (.aload_n 0, 1) := by decide +kernel
theorem d_X11_take_6 : decode m_X11_take.2.1 6 = .ok (.iconst 0, 1) := by decide +kernel
theorem d_X11_take_7 : decode m_X11_take.2.1 7 = .ok (.putfield 109, 3) := by decide +kernel
theorem d_X11_take_10 : decode m_X11_take.2.1 10 = .ok (.iload_n 1, 1) := by decide +kernel
theorem d_X11_take_11 : decode m_X11_take.2.1 11 = .ok (.ireturn, 1) := by decide +kernel
set_option maxRecDepth 20000 in
theorem e_X11_take {E : jm_E} {d : Nat} {μ : jm_M} {Q : Option jm_V → jm_M → Prop}  (h : (∀ v ∈ ([jm_R 133] : List jm_V), jm_ok v) →
  Q (some (jm_I (μ 133 2))) (jm_up μ 133 2 0)) : jc E m_X11_take (d + 1) [jm_R 133] μ Q := by
  refine jm_Cl.of2 (by decide +kernel) (L0 := [some (jm_R 133), none]) rfl (Nat.le_of_ble_eq_true rfl) (fun hok => ?_)
  have h := h hok
  refine jm_aloadn d_X11_take_0 rfl ?_
  refine jm_getI (k := 2) (ki := 2) cf_X11 (Nat.le_of_ble_eq_true rfl) f_X11_109 d_X11_take_1 rfl rfl is_133 rfl ?_
  refine jm_istoren (L' := [some (jm_R _), some (jm_I _)]) d_X11_take_4 (Nat.le_of_ble_eq_true rfl) rfl ?_
  refine jm_aloadn d_X11_take_5 rfl ?_
  refine jm_iconst (v := 0) d_X11_take_6 rfl (jm_okI (by decide) (by decide)) ?_
  refine jm_putI (k := 2) (ki := 2) cf_X11 (Nat.le_of_ble_eq_true rfl) f_X11_109 d_X11_take_7 (fun z => absurd z (by decide)) rfl rfl rfl (fun _ => rfl) is_133 ?_
  refine jm_iloadn d_X11_take_10 rfl ?_
  exact jm_ret (o := some (jm_I _)) d_X11_take_11 rfl ⟨Nat.le_refl _, Nat.le_refl _⟩ jm_r_I h rfl
/-! ('CombTableModel', 'isIn', '(III)Z') -/
theorem d_X11_isIn_0 : decode m_X11_isIn.2.1 0 = .ok (.iload_n 0, 1) := by decide +kernel
theorem d_X11_isIn_1 : decode m_X11_isIn.2.1 1 = .ok (.iload_n 1, 1) := by decide +kernel
theorem d_X11_isIn_2 : decode m_X11_isIn.2.1 2 = .ok (.if_icmp .lt 12, 3) := by decide +kernel
theorem d_X11_isIn_5 : decode m_X11_isIn.2.1 5 = .ok (.iload_n 0, 1) := by decide +kernel
theorem d_X11_isIn_6 : decode m_X11_isIn.2.1 6 = .ok (.iload_n 2, 1) := by decide +kernel
theorem d_X11_isIn_7 : decode m_X11_isIn.2.1 7 = .ok (.if_icmp .gt 7, 3) := by decide +kernel
theorem d_X11_isIn_10 : decode m_X11_isIn.2.1 10 = .ok (.iconst 1, 1) := by decide +kernel
theorem d_X11_isIn_11 : decode m_X11_isIn.2.1 11 = .ok (.goto 4, 3) := by decide +kernel
theorem d_X11_isIn_14 : decode m_X11_isIn.2.1 14 = .ok (.iconst 0, 1) := by decide +kernel
theorem d_X11_isIn_15 : decode m_X11_isIn.2.1 15 = .ok (.ireturn, 1) := by decide +kernel
set_option maxRecDepth 20000 in
theorem e_X11_isIn {E : jm_E} {d : Nat} {μ : jm_M} {Q : Option jm_V → jm_M → Prop} {v0 v1 v2 : Int} (h : (∀ v ∈ ([jm_I v0, jm_I v1, jm_I v2] : List jm_V), jm_ok v) →
  ((v0 < v1 →
    Q (some (jm_I 0)) μ) ∧
   (¬ (v0 < v1) →
    ((v2 < v0 →
      Q (some (jm_I 0)) μ) ∧
     (¬ (v2 < v0) →
      Q (some (jm_I 1)) μ))))) : jc E m_X11_isIn (d + 1) [jm_I v0, jm_I v1, jm_I v2] μ Q := by
  refine jm_Cl.of2 (by decide +kernel) (L0 := [some (jm_I v0), some (jm_I v1), some (jm_I v2)]) rfl (Nat.le_of_ble_eq_true rfl) (fun hok => ?_)
  have h := h hok
  refine jm_iloadn d_X11_isIn_0 rfl ?_
  refine jm_iloadn d_X11_isIn_1 rfl ?_
  refine jm_icmp_lt (tgt := 14) d_X11_isIn_2 (by decide) (fun c1 => ?_) (fun c1 => ?_)
  · have h := h.1 c1
    refine jm_iconst (v := 0) d_X11_isIn_14 rfl (jm_okI (by decide) (by decide)) ?_
    exact jm_ret (o := some (jm_I _)) d_X11_isIn_15 rfl ⟨Nat.le_refl _, Nat.le_refl _⟩ (jm_r_Z (by decide)) h rfl
  · have h := h.2 c1
    refine jm_iloadn d_X11_isIn_5 rfl ?_
    refine jm_iloadn d_X11_isIn_6 rfl ?_
    refine jm_icmp_gt (tgt := 14) d_X11_isIn_7 (by decide) (fun c2 => ?_) (fun c2 => ?_)
    · have h := h.1 c2
      refine jm_iconst (v := 0) d_X11_isIn_14 rfl (jm_okI (by decide) (by decide)) ?_
      exact jm_ret (o := some (jm_I _)) d_X11_isIn_15 rfl ⟨Nat.le_refl _, Nat.le_refl _⟩ (jm_r_Z (by decide)) h rfl
    · have h := h.2 c2
      refine jm_iconst (v := 1) d_X11_isIn_10 rfl (jm_okI (by decide) (by decide)) ?_
      refine jm_goto (tgt := 15) d_X11_isIn_11 (by decide) ?_
      exact jm_ret (o := some (jm_I _)) d_X11_isIn_15 rfl ⟨Nat.le_refl _, Nat.le_refl _⟩ (jm_r_Z (by decide)) h rfl
/-! ('CombTableModel', 'has', '(II)Z') -/
theorem d_X11_has_0 : decode m_X11_has.2.1 0 = .ok (.iload_n 0, 1) := by decide +kernel
theorem d_X11_has_1 : decode m_X11_has.2.1 1 = .ok (.iload_n 1, 1) := by decide +kernel
theorem d_X11_has_2 : decode m_X11_has.2.1 2 = .ok (.ishr, 1) := by decide +kernel
theorem d_X11_has_3 : decode m_X11_has.2.1 3 = .ok (.iconst 1, 1) := by decide +kernel
theorem d_X11_has_4 : decode m_X11_has.2.1 4 = .ok (.iand, 1) := by decide +kernel
theorem d_X11_has_5 : decode m_X11_has.2.1 5 = .ok (.iconst 1, 1) := by decide +kernel
theorem d_X11_has_6 : decode m_X11_has.2.1 6 = .ok (.if_icmp .ne 7, 3) := by decide +kernel
theorem d_X11_has_9 : decode m_X11_has.2.1 9 = .ok (.iconst 1, 1) := by decide +kernel
theorem d_X11_has_10 : decode m_X11_has.2.1 10 = .ok (.goto 4, 3) := by decide +kernel
theorem d_X11_has_13 : decode m_X11_has.2.1 13 = .ok (.iconst 0, 1) := by decide +kernel
theorem d_X11_has_14 : decode m_X11_has.2.1 14 = .ok (.ireturn, 1) := by decide +kernel
set_option maxRecDepth 20000 in
theorem e_X11_has {E : jm_E} {d : Nat} {μ : jm_M} {Q : Option jm_V → jm_M → Prop} {v0 v1 : Int} (h : (∀ v ∈ ([jm_I v0, jm_I v1] : List jm_V), jm_ok v) →
  (((jm_and (jm_shr v0 v1) 1) ≠ 1 →
    Q (some (jm_I 0)) μ) ∧
   (¬ ((jm_and (jm_shr v0 v1) 1) ≠ 1) →
    Q (some (jm_I 1)) μ))) : jc E m_X11_has (d + 1) [jm_I v0, jm_I v1] μ Q := by
  refine jm_Cl.of2 (by decide +kernel) (L0 := [some (jm_I v0), some (jm_I v1)]) rfl (Nat.le_of_ble_eq_true rfl) (fun hok => ?_)
  have h := h hok
  refine jm_iloadn d_X11_has_0 rfl ?_
  refine jm_iloadn d_X11_has_1 rfl ?_
  refine jm_ishr d_X11_has_2 ?_
  refine jm_iconst (v := 1) d_X11_has_3 rfl (jm_okI (by decide) (by decide)) ?_
  refine jm_iand d_X11_has_4 ?_
  refine jm_iconst (v := 1) d_X11_has_5 rfl (jm_okI (by decide) (by decide)) ?_
  refine jm_icmp_ne (tgt := 13) d_X11_has_6 (by decide) (fun c1 => ?_) (fun c1 => ?_)
  · have h := h.1 c1
    refine jm_iconst (v := 0) d_X11_has_13 rfl (jm_okI (by decide) (by decide)) ?_
    exact jm_ret (o := some (jm_I _)) d_X11_has_14 rfl ⟨Nat.le_refl _, Nat.le_refl _⟩ (jm_r_Z (by decide)) h rfl
  · have h := h.2 c1
    refine jm_iconst (v := 1) d_X11_has_9 rfl (jm_okI (by decide) (by decide)) ?_
    refine jm_goto (tgt := 14) d_X11_has_10 (by decide) ?_
    exact jm_ret (o := some (jm_I _)) d_X11_has_14 rfl ⟨Nat.le_refl _, Nat.le_refl _⟩ (jm_r_Z (by decide)) h rfl
/-! ('CombTableModel', 'byteAt', '(I)I') -/
theorem d_X11_byteAt_0 : decode m_X11_byteAt.2.1 0 = .ok (.iload_n 1, 1) := by decide +kernel
theorem d_X11_byteAt_1 : decode m_X11_byteAt.2.1 1 = .ok (.aload_n 0, 1) := by decide +kernel
theorem d_X11_byteAt_2 : decode m_X11_byteAt.2.1 2 = .ok (.getfield 116, 3) := by decide +kernel
theorem d_X11_byteAt_5 : decode m_X11_byteAt.2.1 5 = .ok (.if_icmp .ge 12, 3) := by decide +kernel
theorem d_X11_byteAt_8 : decode m_X11_byteAt.2.1 8 = .ok (.aload_n 0, 1) := by decide +kernel
theorem d_X11_byteAt_9 : decode m_X11_byteAt.2.1 9 = .ok (.getfield 7, 3) := by decide +kernel
theorem d_X11_byteAt_12 : decode m_X11_byteAt.2.1 12 = .ok (.iload_n 1, 1) := by decide +kernel
theorem d_X11_byteAt_13 : decode m_X11_byteAt.2.1 13 = .ok (.iaload, 1) := by decide +kernel
theorem d_X11_byteAt_14 : decode m_X11_byteAt.2.1 14 = .ok (.goto 4, 3) := by decide +kernel
theorem d_X11_byteAt_17 : decode m_X11_byteAt.2.1 17 = .ok (.iconst 0, 1) := by decide +kernel
theorem d_X11_byteAt_18 : decode m_X11_byteAt.2.1 18 = .ok (.ireturn, 1) := by decide +kernel
set_option maxRecDepth 20000 in
theorem e_X11_byteAt {E : jm_E} {d : Nat} {μ : jm_M} {Q : Option jm_V → jm_M → Prop} {v1 : Int} (h : (∀ v ∈ ([jm_R 133, jm_I v1] : List jm_V), jm_ok v) →
  ((μ 133 3 ≤ v1 →
    Q (some (jm_I 0)) μ) ∧
   (¬ (μ 133 3 ≤ v1) →
    (0 ≤ v1 ∧ v1 < 940) ∧
    Q (some (jm_I (μ 134 v1))) μ))) : jc E m_X11_byteAt (d + 1) [jm_R 133, jm_I v1] μ Q := by
  refine jm_Cl.of2 (by decide +kernel) (L0 := [some (jm_R 133), some (jm_I v1)]) rfl (Nat.le_of_ble_eq_true rfl) (fun hok => ?_)
  have h := h hok
  refine jm_iloadn d_X11_byteAt_0 rfl ?_
  refine jm_aloadn d_X11_byteAt_1 rfl ?_
  refine jm_getI (k := 3) (ki := 3) cf_X11 (Nat.le_of_ble_eq_true rfl) f_X11_116 d_X11_byteAt_2 rfl rfl is_133 rfl ?_
  refine jm_icmp_ge (tgt := 17) d_X11_byteAt_5 (by decide) (fun c1 => ?_) (fun c1 => ?_)
  · have h := h.1 c1
    refine jm_iconst (v := 0) d_X11_byteAt_17 rfl (jm_okI (by decide) (by decide)) ?_
    exact jm_ret (o := some (jm_I _)) d_X11_byteAt_18 rfl ⟨Nat.le_refl _, Nat.le_refl _⟩ jm_r_I h rfl
  · have h := h.2 c1
    refine jm_aloadn d_X11_byteAt_8 rfl ?_
    refine jm_getF (k := 1) (ki := 1) rfl cf_X11 (Nat.le_of_ble_eq_true rfl) f_X11_7 d_X11_byteAt_9 rfl rfl is_133 fr_133_1 ?_
    refine jm_iloadn d_X11_byteAt_12 rfl ?_
    obtain ⟨f2, h⟩ := h
    refine jm_iaload d_X11_byteAt_13 (ixl_134 f2.1 f2.2) ?_
    refine jm_goto (tgt := 18) d_X11_byteAt_14 (by decide) ?_
    exact jm_ret (o := some (jm_I _)) d_X11_byteAt_18 rfl ⟨Nat.le_refl _, Nat.le_refl _⟩ jm_r_I h rfl
/-! ('CombTableModel', 'isDigit', '(I)Z') -/
theorem d_X11_isDigit_0 : decode m_X11_isDigit.2.1 0 = .ok (.iload_n 0, 1) := by decide +kernel
theorem d_X11_isDigit_1 : decode m_X11_isDigit.2.1 1 = .ok (.bipush 48, 2) := by decide +kernel
theorem d_X11_isDigit_3 : decode m_X11_isDigit.2.1 3 = .ok (.if_icmp .lt 13, 3) := by decide +kernel
theorem d_X11_isDigit_6 : decode m_X11_isDigit.2.1 6 = .ok (.iload_n 0, 1) := by decide +kernel
theorem d_X11_isDigit_7 : decode m_X11_isDigit.2.1 7 = .ok (.bipush 57, 2) := by decide +kernel
theorem d_X11_isDigit_9 : decode m_X11_isDigit.2.1 9 = .ok (.if_icmp .gt 7, 3) := by decide +kernel
theorem d_X11_isDigit_12 : decode m_X11_isDigit.2.1 12 = .ok (.iconst 1, 1) := by decide +kernel
theorem d_X11_isDigit_13 : decode m_X11_isDigit.2.1 13 = .ok (.goto 4, 3) := by decide +kernel
theorem d_X11_isDigit_16 : decode m_X11_isDigit.2.1 16 = .ok (.iconst 0, 1) := by decide +kernel
theorem d_X11_isDigit_17 : decode m_X11_isDigit.2.1 17 = .ok (.ireturn, 1) := by decide +kernel
set_option maxRecDepth 20000 in
theorem e_X11_isDigit {E : jm_E} {d : Nat} {μ : jm_M} {Q : Option jm_V → jm_M → Prop} {v0 : Int} (h : (∀ v ∈ ([jm_I v0] : List jm_V), jm_ok v) →
  ((v0 < 48 →
    Q (some (jm_I 0)) μ) ∧
   (¬ (v0 < 48) →
    ((57 < v0 →
      Q (some (jm_I 0)) μ) ∧
     (¬ (57 < v0) →
      Q (some (jm_I 1)) μ))))) : jc E m_X11_isDigit (d + 1) [jm_I v0] μ Q := by
  refine jm_Cl.of2 (by decide +kernel) (L0 := [some (jm_I v0)]) rfl (Nat.le_of_ble_eq_true rfl) (fun hok => ?_)
  have h := h hok
  refine jm_iloadn d_X11_isDigit_0 rfl ?_
  refine jm_bipush (v := 48) d_X11_isDigit_1 rfl (jm_okI (by decide) (by decide)) ?_
  refine jm_icmp_lt (tgt := 16) d_X11_isDigit_3 (by decide) (fun c1 => ?_) (fun c1 => ?_)
  · have h := h.1 c1
    refine jm_iconst (v := 0) d_X11_isDigit_16 rfl (jm_okI (by decide) (by decide)) ?_
    exact jm_ret (o := some (jm_I _)) d_X11_isDigit_17 rfl ⟨Nat.le_refl _, Nat.le_refl _⟩ (jm_r_Z (by decide)) h rfl
  · have h := h.2 c1
    refine jm_iloadn d_X11_isDigit_6 rfl ?_
    refine jm_bipush (v := 57) d_X11_isDigit_7 rfl (jm_okI (by decide) (by decide)) ?_
    refine jm_icmp_gt (tgt := 16) d_X11_isDigit_9 (by decide) (fun c2 => ?_) (fun c2 => ?_)
    · have h := h.1 c2
      refine jm_iconst (v := 0) d_X11_isDigit_16 rfl (jm_okI (by decide) (by decide)) ?_
      exact jm_ret (o := some (jm_I _)) d_X11_isDigit_17 rfl ⟨Nat.le_refl _, Nat.le_refl _⟩ (jm_r_Z (by decide)) h rfl
    · have h := h.2 c2
      refine jm_iconst (v := 1) d_X11_isDigit_12 rfl (jm_okI (by decide) (by decide)) ?_
      refine jm_goto (tgt := 17) d_X11_isDigit_13 (by decide) ?_
      exact jm_ret (o := some (jm_I _)) d_X11_isDigit_17 rfl ⟨Nat.le_refl _, Nat.le_refl _⟩ (jm_r_Z (by decide)) h rfl
/-! ('CombTableModel', 'isLetter', '(I)Z') -/
theorem d_X11_isLetter_0 : decode m_X11_isLetter.2.1 0 = .ok (.iload_n 0, 1) := by decide +kernel
theorem d_X11_isLetter_1 : decode m_X11_isLetter.2.1 1 = .ok (.bipush 97, 2) := by decide +kernel
theorem d_X11_isLetter_3 : decode m_X11_isLetter.2.1 3 = .ok (.if_icmp .lt 13, 3) := by decide +kernel
theorem d_X11_isLetter_6 : decode m_X11_isLetter.2.1 6 = .ok (.iload_n 0, 1) := by decide +kernel
theorem d_X11_isLetter_7 : decode m_X11_isLetter.2.1 7 = .ok (.bipush 122, 2) := by decide +kernel
theorem d_X11_isLetter_9 : decode m_X11_isLetter.2.1 9 = .ok (.if_icmp .gt 7, 3) := by decide +kernel
theorem d_X11_isLetter_12 : decode m_X11_isLetter.2.1 12 = .ok (.iconst 1, 1) := by decide +kernel
theorem d_X11_isLetter_13 : decode m_X11_isLetter.2.1 13 = .ok (.goto 4, 3) := by decide +kernel
theorem d_X11_isLetter_16 : decode m_X11_isLetter.2.1 16 = .ok (.iconst 0, 1) := by decide +kernel
theorem d_X11_isLetter_17 : decode m_X11_isLetter.2.1 17 = .ok (.ireturn, 1) := by decide +kernel
set_option maxRecDepth 20000 in
theorem e_X11_isLetter {E : jm_E} {d : Nat} {μ : jm_M} {Q : Option jm_V → jm_M → Prop} {v0 : Int} (h : (∀ v ∈ ([jm_I v0] : List jm_V), jm_ok v) →
  ((v0 < 97 →
    Q (some (jm_I 0)) μ) ∧
   (¬ (v0 < 97) →
    ((122 < v0 →
      Q (some (jm_I 0)) μ) ∧
     (¬ (122 < v0) →
      Q (some (jm_I 1)) μ))))) : jc E m_X11_isLetter (d + 1) [jm_I v0] μ Q := by
  refine jm_Cl.of2 (by decide +kernel) (L0 := [some (jm_I v0)]) rfl (Nat.le_of_ble_eq_true rfl) (fun hok => ?_)
  have h := h hok
  refine jm_iloadn d_X11_isLetter_0 rfl ?_
  refine jm_bipush (v := 97) d_X11_isLetter_1 rfl (jm_okI (by decide) (by decide)) ?_
  refine jm_icmp_lt (tgt := 16) d_X11_isLetter_3 (by decide) (fun c1 => ?_) (fun c1 => ?_)
  · have h := h.1 c1
    refine jm_iconst (v := 0) d_X11_isLetter_16 rfl (jm_okI (by decide) (by decide)) ?_
    exact jm_ret (o := some (jm_I _)) d_X11_isLetter_17 rfl ⟨Nat.le_refl _, Nat.le_refl _⟩ (jm_r_Z (by decide)) h rfl
  · have h := h.2 c1
    refine jm_iloadn d_X11_isLetter_6 rfl ?_
    refine jm_bipush (v := 122) d_X11_isLetter_7 rfl (jm_okI (by decide) (by decide)) ?_
    refine jm_icmp_gt (tgt := 16) d_X11_isLetter_9 (by decide) (fun c2 => ?_) (fun c2 => ?_)
    · have h := h.1 c2
      refine jm_iconst (v := 0) d_X11_isLetter_16 rfl (jm_okI (by decide) (by decide)) ?_
      exact jm_ret (o := some (jm_I _)) d_X11_isLetter_17 rfl ⟨Nat.le_refl _, Nat.le_refl _⟩ (jm_r_Z (by decide)) h rfl
    · have h := h.2 c2
      refine jm_iconst (v := 1) d_X11_isLetter_12 rfl (jm_okI (by decide) (by decide)) ?_
      refine jm_goto (tgt := 17) d_X11_isLetter_13 (by decide) ?_
      exact jm_ret (o := some (jm_I _)) d_X11_isLetter_17 rfl ⟨Nat.le_refl _, Nat.le_refl _⟩ (jm_r_Z (by decide)) h rfl
/-! ('CombTableModel', 'go', '()V') -/
theorem d_X11_go_0 : decode m_X11_go.2.1 0 = .ok (.aload_n 0, 1) := by decide +kernel
theorem d_X11_go_1 : decode m_X11_go.2.1 1 = .ok (.getfield 119, 3) := by decide +kernel
theorem d_X11_go_4 : decode m_X11_go.2.1 4 = .ok (.aload_n 0, 1) := by decide +kernel
theorem d_X11_go_5 : decode m_X11_go.2.1 5 = .ok (.getfield 116, 3) := by decide +kernel
theorem d_X11_go_8 : decode m_X11_go.2.1 8 = .ok (.if_icmp .ge 44, 3) := by decide +kernel
theorem d_X11_go_11 : decode m_X11_go.2.1 11 = .ok (.aload_n 0, 1) := by decide +kernel
theorem d_X11_go_12 : decode m_X11_go.2.1 12 = .ok (.getfield 7, 3) := by decide +kernel
theorem d_X11_go_15 : decode m_X11_go.2.1 15 = .ok (.aload_n 0, 1) := by decide +kernel
theorem d_X11_go_16 : decode m_X11_go.2.1 16 = .ok (.getfield 119, 3) := by decide +kernel
theorem d_X11_go_19 : decode m_X11_go.2.1 19 = .ok (.iaload, 1) := by decide +kernel
theorem d_X11_go_20 : decode m_X11_go.2.1 20 = .ok (.bipush 32, 2) := by decide +kernel
theorem d_X11_go_22 : decode m_X11_go.2.1 22 = .ok (.if_icmp .eq 17, 3) := by decide +kernel
theorem d_X11_go_25 : decode m_X11_go.2.1 25 = .ok (.aload_n 0, 1) := by decide +kernel
theorem d_X11_go_26 : decode m_X11_go.2.1 26 = .ok (.getfield 7, 3) := by decide +kernel
theorem d_X11_go_29 : decode m_X11_go.2.1 29 = .ok (.aload_n 0, 1) := by decide +kernel
theorem d_X11_go_30 : decode m_X11_go.2.1 30 = .ok (.getfield 119, 3) := by decide +kernel
theorem d_X11_go_33 : decode m_X11_go.2.1 33 = .ok (.iaload, 1) := by decide +kernel
theorem d_X11_go_34 : decode m_X11_go.2.1 34 = .ok (.bipush 10, 2) := by decide +kernel
theorem d_X11_go_36 : decode m_X11_go.2.1 36 = .ok (.if_icmp .ne 16, 3) := by decide +kernel
theorem d_X11_go_39 : decode m_X11_go.2.1 39 = .ok (.aload_n 0, 1) := by decide +kernel
theorem d_X11_go_40 : decode m_X11_go.2.1 40 = .ok (.dup, 1) := by decide +kernel
theorem d_X11_go_41 : decode m_X11_go.2.1 41 = .ok (.getfield 119, 3) := by decide +kernel
theorem d_X11_go_44 : decode m_X11_go.2.1 44 = .ok (.iconst 1, 1) := by decide +kernel
theorem d_X11_go_45 : decode m_X11_go.2.1 45 = .ok (.iadd, 1) := by decide +kernel
theorem d_X11_go_46 : decode m_X11_go.2.1 46 = .ok (.putfield 119, 3) := by decide +kernel
theorem d_X11_go_49 : decode m_X11_go.2.1 49 = .ok (.goto (-49), 3) := by decide +kernel
theorem d_X11_go_52 : decode m_X11_go.2.1 52 = .ok (.aload_n 0, 1) := by decide +kernel
theorem d_X11_go_53 : decode m_X11_go.2.1 53 = .ok (.aload_n 0, 1) := by decide +kernel
theorem d_X11_go_54 : decode m_X11_go.2.1 54 = .ok (.getfield 119, 3) := by decide +kernel
theorem d_X11_go_57 : decode m_X11_go.2.1 57 = .ok (.putfield 122, 3) := by decide +kernel
theorem d_X11_go_60 : decode m_X11_go.2.1 60 = .ok (.aload_n 0, 1) := by decide +kernel
theorem d_X11_go_61 : decode m_X11_go.2.1 61 = .ok (.getfield 116, 3) := by decide +kernel
theorem d_X11_go_64 : decode m_X11_go.2.1 64 = .ok (.aload_n 0, 1) := by decide +kernel
theorem d_X11_go_65 : decode m_X11_go.2.1 65 = .ok (.getfield 125, 3) := by decide +kernel
theorem d_X11_go_68 : decode m_X11_go.2.1 68 = .ok (.if_icmp .le 28, 3) := by decide +kernel
theorem d_X11_go_71 : decode m_X11_go.2.1 71 = .ok (.aload_n 0, 1) := by decide +kernel
theorem d_X11_go_72 : decode m_X11_go.2.1 72 = .ok (.getfield 122, 3) := by decide +kernel
theorem d_X11_go_75 : decode m_X11_go.2.1 75 = .ok (.aload_n 0, 1) := by decide +kernel
theorem d_X11_go_76 : decode m_X11_go.2.1 76 = .ok (.getfield 125, 3) := by decide +kernel
theorem d_X11_go_79 : decode m_X11_go.2.1 79 = .ok (.if_icmp .lt 17, 3) := by decide +kernel
theorem d_X11_go_82 : decode m_X11_go.2.1 82 = .ok (.aload_n 0, 1) := by decide +kernel
theorem d_X11_go_83 : decode m_X11_go.2.1 83 = .ok (.aload_n 0, 1) := by decide +kernel
theorem d_X11_go_84 : decode m_X11_go.2.1 84 = .ok (.getfield 125, 3) := by decide +kernel
theorem d_X11_go_87 : decode m_X11_go.2.1 87 = .ok (.putfield 122, 3) := by decide +kernel
theorem d_X11_go_90 : decode m_X11_go.2.1 90 = .ok (.aload_n 0, 1) := by decide +kernel
theorem d_X11_go_91 : decode m_X11_go.2.1 91 = .ok (.iconst 1, 1) := by decide +kernel
theorem d_X11_go_92 : decode m_X11_go.2.1 92 = .ok (.putfield 128, 3) := by decide +kernel
theorem d_X11_go_95 : decode m_X11_go.2.1 95 = .ok (.return_, 1) := by decide +kernel
theorem d_X11_go_96 : decode m_X11_go.2.1 96 = .ok (.aload_n 0, 1) := by decide +kernel
theorem d_X11_go_97 : decode m_X11_go.2.1 97 = .ok (.getfield 119, 3) := by decide +kernel
theorem d_X11_go_100 : decode m_X11_go.2.1 100 = .ok (.aload_n 0, 1) := by decide +kernel
theorem d_X11_go_101 : decode m_X11_go.2.1 101 = .ok (.getfield 116, 3) := by decide +kernel
theorem d_X11_go_104 : decode m_X11_go.2.1 104 = .ok (.if_icmp .lt 9, 3) := by decide +kernel
theorem d_X11_go_107 : decode m_X11_go.2.1 107 = .ok (.aload_n 0, 1) := by decide +kernel
theorem d_X11_go_108 : decode m_X11_go.2.1 108 = .ok (.iconst 0, 1) := by decide +kernel
theorem d_X11_go_109 : decode m_X11_go.2.1 109 = .ok (.putfield 128, 3) := by decide +kernel
theorem d_X11_go_112 : decode m_X11_go.2.1 112 = .ok (.return_, 1) := by decide +kernel
theorem d_X11_go_113 : decode m_X11_go.2.1 113 = .ok (.aload_n 0, 1) := by decide +kernel
theorem d_X11_go_114 : decode m_X11_go.2.1 114 = .ok (.getfield 7, 3) := by decide +kernel
theorem d_X11_go_117 : decode m_X11_go.2.1 117 = .ok (.aload_n 0, 1) := by decide +kernel
theorem d_X11_go_118 : decode m_X11_go.2.1 118 = .ok (.getfield 119, 3) := by decide +kernel
theorem d_X11_go_121 : decode m_X11_go.2.1 121 = .ok (.iaload, 1) := by decide +kernel
theorem d_X11_go_122 : decode m_X11_go.2.1 122 = .ok (.istore_n 1, 1) := by decide +kernel
theorem d_X11_go_123 : decode m_X11_go.2.1 123 = .ok (.iload_n 1, 1) := by decide +kernel
theorem d_X11_go_124 : decode m_X11_go.2.1 124 = .ok (.invokestatic 131, 3) := by decide +kernel
theorem d_X11_go_127 : decode m_X11_go.2.1 127 = .ok (.ifCond .ne 71, 3) := by decide +kernel
theorem d_X11_go_130 : decode m_X11_go.2.1 130 = .ok (.iload_n 1, 1) := by decide +kernel
theorem d_X11_go_131 : decode m_X11_go.2.1 131 = .ok (.invokestatic 135, 3) := by decide +kernel
theorem d_X11_go_134 : decode m_X11_go.2.1 134 = .ok (.ifCond .ne 64, 3) := by decide +kernel
theorem d_X11_go_137 : decode m_X11_go.2.1 137 = .ok (.aload_n 0, 1) := by decide +kernel
theorem d_X11_go_138 : decode m_X11_go.2.1 138 = .ok (.iload_n 1, 1) := by decide +kernel
theorem d_X11_go_139 : decode m_X11_go.2.1 139 = .ok (.bipush 59, 2) := by decide +kernel
theorem d_X11_go_141 : decode m_X11_go.2.1 141 = .ok (.if_icmp .eq 33, 3) := by decide +kernel
theorem d_X11_go_144 : decode m_X11_go.2.1 144 = .ok (.iload_n 1, 1) := by decide +kernel
theorem d_X11_go_145 : decode m_X11_go.2.1 145 = .ok (.bipush 60, 2) := by decide +kernel
theorem d_X11_go_147 : decode m_X11_go.2.1 147 = .ok (.if_icmp .eq 27, 3) := by decide +kernel
theorem d_X11_go_150 : decode m_X11_go.2.1 150 = .ok (.iload_n 1, 1) := by decide +kernel
theorem d_X11_go_151 : decode m_X11_go.2.1 151 = .ok (.bipush 61, 2) := by decide +kernel
theorem d_X11_go_153 : decode m_X11_go.2.1 153 = .ok (.if_icmp .eq 21, 3) := by decide +kernel
theorem d_X11_go_156 : decode m_X11_go.2.1 156 = .ok (.iload_n 1, 1) := by decide +kernel
theorem d_X11_go_157 : decode m_X11_go.2.1 157 = .ok (.bipush 62, 2) := by decide +kernel
theorem d_X11_go_159 : decode m_X11_go.2.1 159 = .ok (.if_icmp .eq 15, 3) := by decide +kernel
theorem d_X11_go_162 : decode m_X11_go.2.1 162 = .ok (.iload_n 1, 1) := by decide +kernel
theorem d_X11_go_163 : decode m_X11_go.2.1 163 = .ok (.bipush 40, 2) := by decide +kernel
theorem d_X11_go_165 : decode m_X11_go.2.1 165 = .ok (.if_icmp .eq 9, 3) := by decide +kernel
theorem d_X11_go_168 : decode m_X11_go.2.1 168 = .ok (.iload_n 1, 1) := by decide +kernel
theorem d_X11_go_169 : decode m_X11_go.2.1 169 = .ok (.bipush 41, 2) := by decide +kernel
theorem d_X11_go_171 : decode m_X11_go.2.1 171 = .ok (.if_icmp .ne 7, 3) := by decide +kernel
theorem d_X11_go_174 : decode m_X11_go.2.1 174 = .ok (.iconst 4, 1) := by decide +kernel
theorem d_X11_go_175 : decode m_X11_go.2.1 175 = .ok (.goto 4, 3) := by decide +kernel
theorem d_X11_go_178 : decode m_X11_go.2.1 178 = .ok (.iconst 1, 1) := by decide +kernel
theorem d_X11_go_179 : decode m_X11_go.2.1 179 = .ok (.putfield 128, 3) := by decide +kernel
theorem d_X11_go_182 : decode m_X11_go.2.1 182 = .ok (.aload_n 0, 1) := by decide +kernel
theorem d_X11_go_183 : decode m_X11_go.2.1 183 = .ok (.iload_n 1, 1) := by decide +kernel
theorem d_X11_go_184 : decode m_X11_go.2.1 184 = .ok (.putfield 138, 3) := by decide +kernel
theorem d_X11_go_187 : decode m_X11_go.2.1 187 = .ok (.aload_n 0, 1) := by decide +kernel
theorem d_X11_go_188 : decode m_X11_go.2.1 188 = .ok (.dup, 1) := by decide +kernel
theorem d_X11_go_189 : decode m_X11_go.2.1 189 = .ok (.getfield 119, 3) := by decide +kernel
theorem d_X11_go_192 : decode m_X11_go.2.1 192 = .ok (.iconst 1, 1) := by decide +kernel
theorem d_X11_go_193 : decode m_X11_go.2.1 193 = .ok (.iadd, 1) := by decide +kernel
theorem d_X11_go_194 : decode m_X11_go.2.1 194 = .ok (.putfield 119, 3) := by decide +kernel
theorem d_X11_go_197 : decode m_X11_go.2.1 197 = .ok (.return_, 1) := by decide +kernel
theorem d_X11_go_198 : decode m_X11_go.2.1 198 = .ok (.iload_n 1, 1) := by decide +kernel
theorem d_X11_go_199 : decode m_X11_go.2.1 199 = .ok (.invokestatic 131, 3) := by decide +kernel
theorem d_X11_go_202 : decode m_X11_go.2.1 202 = .ok (.istore_n 2, 1) := by decide +kernel
theorem d_X11_go_203 : decode m_X11_go.2.1 203 = .ok (.iconst 1, 1) := by decide +kernel
theorem d_X11_go_204 : decode m_X11_go.2.1 204 = .ok (.istore_n 3, 1) := by decide +kernel
theorem d_X11_go_205 : decode m_X11_go.2.1 205 = .ok (.aload_n 0, 1) := by decide +kernel
theorem d_X11_go_206 : decode m_X11_go.2.1 206 = .ok (.lconst 0, 1) := by decide +kernel
theorem d_X11_go_207 : decode m_X11_go.2.1 207 = .ok (.putfield 141, 3) := by decide +kernel
theorem d_X11_go_210 : decode m_X11_go.2.1 210 = .ok (.aload_n 0, 1) := by decide +kernel
theorem d_X11_go_211 : decode m_X11_go.2.1 211 = .ok (.iconst 0, 1) := by decide +kernel
theorem d_X11_go_212 : decode m_X11_go.2.1 212 = .ok (.putfield 145, 3) := by decide +kernel
theorem d_X11_go_215 : decode m_X11_go.2.1 215 = .ok (.aload_n 0, 1) := by decide +kernel
theorem d_X11_go_216 : decode m_X11_go.2.1 216 = .ok (.aload_n 0, 1) := by decide +kernel
theorem d_X11_go_217 : decode m_X11_go.2.1 217 = .ok (.getfield 119, 3) := by decide +kernel
theorem d_X11_go_220 : decode m_X11_go.2.1 220 = .ok (.invokevirtual 148, 3) := by decide +kernel
theorem d_X11_go_223 : decode m_X11_go.2.1 223 = .ok (.invokestatic 131, 3) := by decide +kernel
theorem d_X11_go_226 : decode m_X11_go.2.1 226 = .ok (.ifCond .ne 17, 3) := by decide +kernel
theorem d_X11_go_229 : decode m_X11_go.2.1 229 = .ok (.aload_n 0, 1) := by decide +kernel
theorem d_X11_go_230 : decode m_X11_go.2.1 230 = .ok (.aload_n 0, 1) := by decide +kernel
theorem d_X11_go_231 : decode m_X11_go.2.1 231 = .ok (.getfield 119, 3) := by decide +kernel
theorem d_X11_go_234 : decode m_X11_go.2.1 234 = .ok (.invokevirtual 148, 3) := by decide +kernel
theorem d_X11_go_237 : decode m_X11_go.2.1 237 = .ok (.invokestatic 135, 3) := by decide +kernel
theorem d_X11_go_240 : decode m_X11_go.2.1 240 = .ok (.ifCond .eq 110, 3) := by decide +kernel
theorem d_X11_go_243 : decode m_X11_go.2.1 243 = .ok (.aload_n 0, 1) := by decide +kernel
theorem d_X11_go_244 : decode m_X11_go.2.1 244 = .ok (.getfield 7, 3) := by decide +kernel
theorem d_X11_go_247 : decode m_X11_go.2.1 247 = .ok (.aload_n 0, 1) := by decide +kernel
theorem d_X11_go_248 : decode m_X11_go.2.1 248 = .ok (.getfield 119, 3) := by decide +kernel
theorem d_X11_go_251 : decode m_X11_go.2.1 251 = .ok (.iaload, 1) := by decide +kernel
theorem d_X11_go_252 : decode m_X11_go.2.1 252 = .ok (.istore 4, 2) := by decide +kernel
theorem d_X11_go_254 : decode m_X11_go.2.1 254 = .ok (.iload_n 3, 1) := by decide +kernel
theorem d_X11_go_255 : decode m_X11_go.2.1 255 = .ok (.ifCond .eq 16, 3) := by decide +kernel
theorem d_X11_go_258 : decode m_X11_go.2.1 258 = .ok (.iload 4, 2) := by decide +kernel
theorem d_X11_go_260 : decode m_X11_go.2.1 260 = .ok (.invokestatic 131, 3) := by decide +kernel
theorem d_X11_go_263 : decode m_X11_go.2.1 263 = .ok (.iload_n 2, 1) := by decide +kernel
theorem d_X11_go_264 : decode m_X11_go.2.1 264 = .ok (.if_icmp .ne 7, 3) := by decide +kernel
theorem d_X11_go_267 : decode m_X11_go.2.1 267 = .ok (.iconst 1, 1) := by decide +kernel
theorem d_X11_go_268 : decode m_X11_go.2.1 268 = .ok (.goto 4, 3) := by decide +kernel
theorem d_X11_go_271 : decode m_X11_go.2.1 271 = .ok (.iconst 0, 1) := by decide +kernel
theorem d_X11_go_272 : decode m_X11_go.2.1 272 = .ok (.istore_n 3, 1) := by decide +kernel
theorem d_X11_go_273 : decode m_X11_go.2.1 273 = .ok (.aload_n 0, 1) := by decide +kernel
theorem d_X11_go_274 : decode m_X11_go.2.1 274 = .ok (.getfield 119, 3) := by decide +kernel
theorem d_X11_go_277 : decode m_X11_go.2.1 277 = .ok (.aload_n 0, 1) := by decide +kernel
theorem d_X11_go_278 : decode m_X11_go.2.1 278 = .ok (.getfield 122, 3) := by decide +kernel
theorem d_X11_go_281 : decode m_X11_go.2.1 281 = .ok (.isub, 1) := by decide +kernel
theorem d_X11_go_282 : decode m_X11_go.2.1 282 = .ok (.bipush 7, 2) := by decide +kernel
theorem d_X11_go_284 : decode m_X11_go.2.1 284 = .ok (.if_icmp .ge 23, 3) := by decide +kernel
theorem d_X11_go_287 : decode m_X11_go.2.1 287 = .ok (.aload_n 0, 1) := by decide +kernel
theorem d_X11_go_288 : decode m_X11_go.2.1 288 = .ok (.ldc2_w 152, 3) := by decide +kernel
theorem d_X11_go_291 : decode m_X11_go.2.1 291 = .ok (.aload_n 0, 1) := by decide +kernel
theorem d_X11_go_292 : decode m_X11_go.2.1 292 = .ok (.getfield 141, 3) := by decide +kernel
theorem d_X11_go_295 : decode m_X11_go.2.1 295 = .ok (.lmul, 1) := by decide +kernel
theorem d_X11_go_296 : decode m_X11_go.2.1 296 = .ok (.iload 4, 2) := by decide +kernel
theorem d_X11_go_298 : decode m_X11_go.2.1 298 = .ok (.i2l, 1) := by decide +kernel
theorem d_X11_go_299 : decode m_X11_go.2.1 299 = .ok (.ladd, 1) := by decide +kernel
theorem d_X11_go_300 : decode m_X11_go.2.1 300 = .ok (.ldc2_w 154, 3) := by decide +kernel
theorem d_X11_go_303 : decode m_X11_go.2.1 303 = .ok (.lsub, 1) := by decide +kernel
theorem d_X11_go_304 : decode m_X11_go.2.1 304 = .ok (.putfield 141, 3) := by decide +kernel
theorem d_X11_go_307 : decode m_X11_go.2.1 307 = .ok (.aload_n 0, 1) := by decide +kernel
theorem d_X11_go_308 : decode m_X11_go.2.1 308 = .ok (.getfield 119, 3) := by decide +kernel
theorem d_X11_go_311 : decode m_X11_go.2.1 311 = .ok (.aload_n 0, 1) := by decide +kernel
theorem d_X11_go_312 : decode m_X11_go.2.1 312 = .ok (.getfield 122, 3) := by decide +kernel
theorem d_X11_go_315 : decode m_X11_go.2.1 315 = .ok (.isub, 1) := by decide +kernel
theorem d_X11_go_316 : decode m_X11_go.2.1 316 = .ok (.iconst 3, 1) := by decide +kernel
theorem d_X11_go_317 : decode m_X11_go.2.1 317 = .ok (.if_icmp .ge 20, 3) := by decide +kernel
theorem d_X11_go_320 : decode m_X11_go.2.1 320 = .ok (.aload_n 0, 1) := by decide +kernel
theorem d_X11_go_321 : decode m_X11_go.2.1 321 = .ok (.bipush 10, 2) := by decide +kernel
theorem d_X11_go_323 : decode m_X11_go.2.1 323 = .ok (.aload_n 0, 1) := by decide +kernel
theorem d_X11_go_324 : decode m_X11_go.2.1 324 = .ok (.getfield 145, 3) := by decide +kernel
theorem d_X11_go_327 : decode m_X11_go.2.1 327 = .ok (.imul, 1) := by decide +kernel
theorem d_X11_go_328 : decode m_X11_go.2.1 328 = .ok (.iload 4, 2) := by decide +kernel
theorem d_X11_go_330 : decode m_X11_go.2.1 330 = .ok (.iadd, 1) := by decide +kernel
theorem d_X11_go_331 : decode m_X11_go.2.1 331 = .ok (.bipush 48, 2) := by decide +kernel
theorem d_X11_go_333 : decode m_X11_go.2.1 333 = .ok (.isub, 1) := by decide +kernel
theorem d_X11_go_334 : decode m_X11_go.2.1 334 = .ok (.putfield 145, 3) := by decide +kernel
theorem d_X11_go_337 : decode m_X11_go.2.1 337 = .ok (.aload_n 0, 1) := by decide +kernel
theorem d_X11_go_338 : decode m_X11_go.2.1 338 = .ok (.dup, 1) := by decide +kernel
theorem d_X11_go_339 : decode m_X11_go.2.1 339 = .ok (.getfield 119, 3) := by decide +kernel
theorem d_X11_go_342 : decode m_X11_go.2.1 342 = .ok (.iconst 1, 1) := by decide +kernel
theorem d_X11_go_343 : decode m_X11_go.2.1 343 = .ok (.iadd, 1) := by decide +kernel
theorem d_X11_go_344 : decode m_X11_go.2.1 344 = .ok (.putfield 119, 3) := by decide +kernel
theorem d_X11_go_347 : decode m_X11_go.2.1 347 = .ok (.goto (-132), 3) := by decide +kernel
theorem d_X11_go_350 : decode m_X11_go.2.1 350 = .ok (.aload_n 0, 1) := by decide +kernel
theorem d_X11_go_351 : decode m_X11_go.2.1 351 = .ok (.iload_n 3, 1) := by decide +kernel
theorem d_X11_go_352 : decode m_X11_go.2.1 352 = .ok (.ifCond .eq 25, 3) := by decide +kernel
theorem d_X11_go_355 : decode m_X11_go.2.1 355 = .ok (.aload_n 0, 1) := by decide +kernel
theorem d_X11_go_356 : decode m_X11_go.2.1 356 = .ok (.getfield 119, 3) := by decide +kernel
theorem d_X11_go_359 : decode m_X11_go.2.1 359 = .ok (.aload_n 0, 1) := by decide +kernel
theorem d_X11_go_360 : decode m_X11_go.2.1 360 = .ok (.getfield 122, 3) := by decide +kernel
theorem d_X11_go_363 : decode m_X11_go.2.1 363 = .ok (.isub, 1) := by decide +kernel
theorem d_X11_go_364 : decode m_X11_go.2.1 364 = .ok (.iload_n 2, 1) := by decide +kernel
theorem d_X11_go_365 : decode m_X11_go.2.1 365 = .ok (.ifCond .eq 8, 3) := by decide +kernel
theorem d_X11_go_368 : decode m_X11_go.2.1 368 = .ok (.bipush 7, 2) := by decide +kernel
theorem d_X11_go_370 : decode m_X11_go.2.1 370 = .ok (.goto 4, 3) := by decide +kernel
theorem d_X11_go_373 : decode m_X11_go.2.1 373 = .ok (.iconst 3, 1) := by decide +kernel
theorem d_X11_go_374 : decode m_X11_go.2.1 374 = .ok (.if_icmp .le 7, 3) := by decide +kernel
theorem d_X11_go_377 : decode m_X11_go.2.1 377 = .ok (.iconst 1, 1) := by decide +kernel
theorem d_X11_go_378 : decode m_X11_go.2.1 378 = .ok (.goto 12, 3) := by decide +kernel
theorem d_X11_go_381 : decode m_X11_go.2.1 381 = .ok (.iload_n 2, 1) := by decide +kernel
theorem d_X11_go_382 : decode m_X11_go.2.1 382 = .ok (.ifCond .eq 7, 3) := by decide +kernel
theorem d_X11_go_385 : decode m_X11_go.2.1 385 = .ok (.iconst 2, 1) := by decide +kernel
theorem d_X11_go_386 : decode m_X11_go.2.1 386 = .ok (.goto 4, 3) := by decide +kernel
theorem d_X11_go_389 : decode m_X11_go.2.1 389 = .ok (.iconst 3, 1) := by decide +kernel
theorem d_X11_go_390 : decode m_X11_go.2.1 390 = .ok (.putfield 128, 3) := by decide +kernel
theorem d_X11_go_393 : decode m_X11_go.2.1 393 = .ok (.return_, 1) := by decide +kernel
theorem e_X11_go {E : jm_E} {d : Nat} {μ : jm_M} {Q : Option jm_V → jm_M → Prop}  (h : (∀ v ∈ ([jm_R 133] : List jm_V), jm_ok v) → jg E m_X11_go d 0 [some (jm_R 133), none, none, none, none] [] μ Q) : jc E m_X11_go (d + 1) [jm_R 133] μ Q :=
  jm_Cl.of2 (by decide +kernel) (L0 := [some (jm_R 133), none, none, none, none]) rfl (Nat.le_of_ble_eq_true rfl) h
set_option maxRecDepth 20000 in
theorem r_X11_go_0 {E : jm_E} {d : Nat} {μ : jm_M} {Q : Option jm_V → jm_M → Prop}  (h :
  ((μ 133 3 ≤ μ 133 5 →
    jg E m_X11_go d 52 [some (jm_R 133), none, none, none, none] [] μ Q) ∧
   (¬ (μ 133 3 ≤ μ 133 5) →
    (0 ≤ μ 133 5 ∧ μ 133 5 < 940) ∧
    (((μ 134 (μ 133 5)) = 32 →
      jg E m_X11_go d 0 [some (jm_R 133), none, none, none, none] [] (jm_up μ 133 5 (jm_wr ((μ 133 5) + 1))) Q) ∧
     (¬ ((μ 134 (μ 133 5)) = 32) →
      (((μ 134 (μ 133 5)) ≠ 10 →
        jg E m_X11_go d 52 [some (jm_R 133), none, none, none, none] [] μ Q) ∧
       (¬ ((μ 134 (μ 133 5)) ≠ 10) →
        jg E m_X11_go d 0 [some (jm_R 133), none, none, none, none] [] (jm_up μ 133 5 (jm_wr ((μ 133 5) + 1))) Q))))))) : jg E m_X11_go d 0 [some (jm_R 133), none, none, none, none] [] μ Q := by
  refine jm_aloadn d_X11_go_0 rfl ?_
  refine jm_getI (k := 5) (ki := 5) cf_X11 (Nat.le_of_ble_eq_true rfl) f_X11_119 d_X11_go_1 rfl rfl is_133 rfl ?_
  refine jm_aloadn d_X11_go_4 rfl ?_
  refine jm_getI (k := 3) (ki := 3) cf_X11 (Nat.le_of_ble_eq_true rfl) f_X11_116 d_X11_go_5 rfl rfl is_133 rfl ?_
  refine jm_icmp_ge (tgt := 52) d_X11_go_8 (by decide) (fun c1 => ?_) (fun c1 => ?_)
  · have h := h.1 c1
    exact h
  · have h := h.2 c1
    refine jm_aloadn d_X11_go_11 rfl ?_
    refine jm_getF (k := 1) (ki := 1) rfl cf_X11 (Nat.le_of_ble_eq_true rfl) f_X11_7 d_X11_go_12 rfl rfl is_133 fr_133_1 ?_
    refine jm_aloadn d_X11_go_15 rfl ?_
    refine jm_getI (k := 5) (ki := 5) cf_X11 (Nat.le_of_ble_eq_true rfl) f_X11_119 d_X11_go_16 rfl rfl is_133 rfl ?_
    obtain ⟨f2, h⟩ := h
    refine jm_iaload d_X11_go_19 (ixl_134 f2.1 f2.2) ?_
    refine jm_bipush (v := 32) d_X11_go_20 rfl (jm_okI (by decide) (by decide)) ?_
    refine jm_icmp_eq (tgt := 39) d_X11_go_22 (by decide) (fun c3 => ?_) (fun c3 => ?_)
    · have h := h.1 c3
      refine jm_aloadn d_X11_go_39 rfl ?_
      refine jm_dup rfl d_X11_go_40 ?_
      refine jm_getI (k := 5) (ki := 5) cf_X11 (Nat.le_of_ble_eq_true rfl) f_X11_119 d_X11_go_41 rfl rfl is_133 rfl ?_
      refine jm_iconst (v := 1) d_X11_go_44 rfl (jm_okI (by decide) (by decide)) ?_
      refine jm_iadd d_X11_go_45 ?_
      refine jm_putI (k := 5) (ki := 5) cf_X11 (Nat.le_of_ble_eq_true rfl) f_X11_119 d_X11_go_46 (fun z => absurd z (by decide)) rfl rfl rfl (fun _ => rfl) is_133 ?_
      refine jm_goto (tgt := 0) d_X11_go_49 (by decide) ?_
      exact h
    · have h := h.2 c3
      refine jm_aloadn d_X11_go_25 rfl ?_
      refine jm_getF (k := 1) (ki := 1) rfl cf_X11 (Nat.le_of_ble_eq_true rfl) f_X11_7 d_X11_go_26 rfl rfl is_133 fr_133_1 ?_
      refine jm_aloadn d_X11_go_29 rfl ?_
      refine jm_getI (k := 5) (ki := 5) cf_X11 (Nat.le_of_ble_eq_true rfl) f_X11_119 d_X11_go_30 rfl rfl is_133 rfl ?_
      refine jm_iaload d_X11_go_33 (ixl_134 f2.1 f2.2) ?_
      refine jm_bipush (v := 10) d_X11_go_34 rfl (jm_okI (by decide) (by decide)) ?_
      refine jm_icmp_ne (tgt := 52) d_X11_go_36 (by decide) (fun c4 => ?_) (fun c4 => ?_)
      · have h := h.1 c4
        exact h
      · have h := h.2 c4
        refine jm_aloadn d_X11_go_39 rfl ?_
        refine jm_dup rfl d_X11_go_40 ?_
        refine jm_getI (k := 5) (ki := 5) cf_X11 (Nat.le_of_ble_eq_true rfl) f_X11_119 d_X11_go_41 rfl rfl is_133 rfl ?_
        refine jm_iconst (v := 1) d_X11_go_44 rfl (jm_okI (by decide) (by decide)) ?_
        refine jm_iadd d_X11_go_45 ?_
        refine jm_putI (k := 5) (ki := 5) cf_X11 (Nat.le_of_ble_eq_true rfl) f_X11_119 d_X11_go_46 (fun z => absurd z (by decide)) rfl rfl rfl (fun _ => rfl) is_133 ?_
        refine jm_goto (tgt := 0) d_X11_go_49 (by decide) ?_
        exact h
set_option maxRecDepth 20000 in
theorem r_X11_go_52 {E : jm_E} {d : Nat} {μ : jm_M} {Q : Option jm_V → jm_M → Prop}  (h :
  ((μ 133 3 ≤ μ 133 4 →
    jg E m_X11_go d 96 [some (jm_R 133), none, none, none, none] [] (jm_up μ 133 6 (μ 133 5)) Q) ∧
   (¬ (μ 133 3 ≤ μ 133 4) →
    ((μ 133 5 < μ 133 4 →
      jg E m_X11_go d 96 [some (jm_R 133), none, none, none, none] [] (jm_up μ 133 6 (μ 133 5)) Q) ∧
     (¬ (μ 133 5 < μ 133 4) →
      Q none (jm_up (jm_up (jm_up μ 133 6 (μ 133 5)) 133 6 (μ 133 4)) 133 7 1)))))) : jg E m_X11_go d 52 [some (jm_R 133), none, none, none, none] [] μ Q := by
  refine jm_aloadn d_X11_go_52 rfl ?_
  refine jm_aloadn d_X11_go_53 rfl ?_
  refine jm_getI (k := 5) (ki := 5) cf_X11 (Nat.le_of_ble_eq_true rfl) f_X11_119 d_X11_go_54 rfl rfl is_133 rfl ?_
  refine jm_putI (k := 6) (ki := 6) cf_X11 (Nat.le_of_ble_eq_true rfl) f_X11_122 d_X11_go_57 (fun z => absurd z (by decide)) rfl rfl rfl (fun _ => rfl) is_133 ?_
  refine jm_aloadn d_X11_go_60 rfl ?_
  refine jm_getI (k := 3) (ki := 3) cf_X11 (Nat.le_of_ble_eq_true rfl) f_X11_116 d_X11_go_61 rfl rfl is_133 ((jm_up_i (by decide)).trans rfl) ?_
  refine jm_aloadn d_X11_go_64 rfl ?_
  refine jm_getI (k := 4) (ki := 4) cf_X11 (Nat.le_of_ble_eq_true rfl) f_X11_125 d_X11_go_65 rfl rfl is_133 ((jm_up_i (by decide)).trans rfl) ?_
  refine jm_icmp_le (tgt := 96) d_X11_go_68 (by decide) (fun c1 => ?_) (fun c1 => ?_)
  · have h := h.1 c1
    exact h
  · have h := h.2 c1
    refine jm_aloadn d_X11_go_71 rfl ?_
    refine jm_getI (k := 6) (ki := 6) cf_X11 (Nat.le_of_ble_eq_true rfl) f_X11_122 d_X11_go_72 rfl rfl is_133 jm_up_at ?_
    refine jm_aloadn d_X11_go_75 rfl ?_
    refine jm_getI (k := 4) (ki := 4) cf_X11 (Nat.le_of_ble_eq_true rfl) f_X11_125 d_X11_go_76 rfl rfl is_133 ((jm_up_i (by decide)).trans rfl) ?_
    refine jm_icmp_lt (tgt := 96) d_X11_go_79 (by decide) (fun c2 => ?_) (fun c2 => ?_)
    · have h := h.1 c2
      exact h
    · have h := h.2 c2
      refine jm_aloadn d_X11_go_82 rfl ?_
      refine jm_aloadn d_X11_go_83 rfl ?_
      refine jm_getI (k := 4) (ki := 4) cf_X11 (Nat.le_of_ble_eq_true rfl) f_X11_125 d_X11_go_84 rfl rfl is_133 ((jm_up_i (by decide)).trans rfl) ?_
      refine jm_putI (k := 6) (ki := 6) cf_X11 (Nat.le_of_ble_eq_true rfl) f_X11_122 d_X11_go_87 (fun z => absurd z (by decide)) rfl rfl rfl (fun _ => rfl) is_133 ?_
      refine jm_aloadn d_X11_go_90 rfl ?_
      refine jm_iconst (v := 1) d_X11_go_91 rfl (jm_okI (by decide) (by decide)) ?_
      refine jm_putI (k := 7) (ki := 7) cf_X11 (Nat.le_of_ble_eq_true rfl) f_X11_128 d_X11_go_92 (fun z => absurd z (by decide)) rfl rfl rfl (fun _ => rfl) is_133 ?_
      exact jm_ret (o := none) d_X11_go_95 rfl ⟨Nat.le_refl _, Nat.le_refl _⟩ jm_r_V h rfl
set_option maxRecDepth 20000 in
theorem r_X11_go_96 {E : jm_E} {d : Nat} {μ : jm_M} {Q : Option jm_V → jm_M → Prop}  (h :
  ((μ 133 5 < μ 133 3 →
    (0 ≤ μ 133 5 ∧ μ 133 5 < 940) ∧
    ∀ x3 : Int, x3 = μ 134 (μ 133 5) →
    jc E m_X11_isLetter d [jm_I x3] μ (fun (o : Option jm_V) (m4 : jm_M) => ∀ r5 : Int, o = some (jm_I r5) → (r5 = 0 ∨ r5 = 1) →
    ((r5 ≠ 0 →
      jc E m_X11_isLetter d [jm_I x3] m4 (fun (o : Option jm_V) (m8 : jm_M) => ∀ r9 : Int, o = some (jm_I r9) → (r9 = 0 ∨ r9 = 1) →
      jg E m_X11_go d 215 [some (jm_R 133), none, some (jm_I r9), some (jm_I 1), none] [] (jm_up (jm_up m8 133 12 0) 133 8 0) Q)) ∧
     (¬ (r5 ≠ 0) →
      jc E m_X11_isDigit d [jm_I x3] m4 (fun (o : Option jm_V) (m11 : jm_M) => ∀ r12 : Int, o = some (jm_I r12) → (r12 = 0 ∨ r12 = 1) →
      ((r12 ≠ 0 →
        jc E m_X11_isLetter d [jm_I x3] m11 (fun (o : Option jm_V) (m15 : jm_M) => ∀ r16 : Int, o = some (jm_I r16) → (r16 = 0 ∨ r16 = 1) →
        jg E m_X11_go d 215 [some (jm_R 133), none, some (jm_I r16), some (jm_I 1), none] [] (jm_up (jm_up m15 133 12 0) 133 8 0) Q)) ∧
       (¬ (r12 ≠ 0) →
        ((x3 = 59 →
          Q none (jm_up (jm_up (jm_up m11 133 7 4) 133 9 x3) 133 5 (jm_wr ((m11 133 5) + 1)))) ∧
         (¬ (x3 = 59) →
          ((x3 = 60 →
            Q none (jm_up (jm_up (jm_up m11 133 7 4) 133 9 x3) 133 5 (jm_wr ((m11 133 5) + 1)))) ∧
           (¬ (x3 = 60) →
            ((x3 = 61 →
              Q none (jm_up (jm_up (jm_up m11 133 7 4) 133 9 x3) 133 5 (jm_wr ((m11 133 5) + 1)))) ∧
             (¬ (x3 = 61) →
              ((x3 = 62 →
                Q none (jm_up (jm_up (jm_up m11 133 7 4) 133 9 x3) 133 5 (jm_wr ((m11 133 5) + 1)))) ∧
               (¬ (x3 = 62) →
                ((x3 = 40 →
                  Q none (jm_up (jm_up (jm_up m11 133 7 4) 133 9 x3) 133 5 (jm_wr ((m11 133 5) + 1)))) ∧
                 (¬ (x3 = 40) →
                  ((x3 ≠ 41 →
                    Q none (jm_up (jm_up (jm_up m11 133 7 1) 133 9 x3) 133 5 (jm_wr ((m11 133 5) + 1)))) ∧
                   (¬ (x3 ≠ 41) →
                    Q none (jm_up (jm_up (jm_up m11 133 7 4) 133 9 x3) 133 5 (jm_wr ((m11 133 5) + 1)))))))))))))))))))))) ∧
   (¬ (μ 133 5 < μ 133 3) →
    Q none (jm_up μ 133 7 0)))) : jg E m_X11_go d 96 [some (jm_R 133), none, none, none, none] [] μ Q := by
  refine jm_aloadn d_X11_go_96 rfl ?_
  refine jm_getI (k := 5) (ki := 5) cf_X11 (Nat.le_of_ble_eq_true rfl) f_X11_119 d_X11_go_97 rfl rfl is_133 rfl ?_
  refine jm_aloadn d_X11_go_100 rfl ?_
  refine jm_getI (k := 3) (ki := 3) cf_X11 (Nat.le_of_ble_eq_true rfl) f_X11_116 d_X11_go_101 rfl rfl is_133 rfl ?_
  refine jm_icmp_lt (tgt := 113) d_X11_go_104 (by decide) (fun c1 => ?_) (fun c1 => ?_)
  · have h := h.1 c1
    refine jm_aloadn d_X11_go_113 rfl ?_
    refine jm_getF (k := 1) (ki := 1) rfl cf_X11 (Nat.le_of_ble_eq_true rfl) f_X11_7 d_X11_go_114 rfl rfl is_133 fr_133_1 ?_
    refine jm_aloadn d_X11_go_117 rfl ?_
    refine jm_getI (k := 5) (ki := 5) cf_X11 (Nat.le_of_ble_eq_true rfl) f_X11_119 d_X11_go_118 rfl rfl is_133 rfl ?_
    obtain ⟨f2, h⟩ := h
    refine jm_iaload d_X11_go_121 (ixl_134 f2.1 f2.2) ?_
    have h := h _ rfl
    refine jm_istoren (L' := [some (jm_R _), some (jm_I _), none, none, none]) d_X11_go_122 (Nat.le_of_ble_eq_true rfl) rfl ?_
    refine jm_iloadn d_X11_go_123 rfl ?_
    refine jm_invS (n1 := jm_N) (mc := 0) (ms := 0) (av := [jm_I _]) w_X11_isLetter l_X11_131 d_X11_go_124 rfl ⟨Nat.le_refl _, Nat.le_refl _⟩ (Nat.le_of_ble_eq_true rfl) rfl ?_
    refine jm_Cl.mono h (fun o m4 h hr _ => ?_)
    obtain ⟨r5, rfl, z6⟩ := jm_rokZ hr
    have h := h _ rfl z6
    refine jm_if_ne (tgt := 198) d_X11_go_127 (by decide) (fun c7 => ?_) (fun c7 => ?_)
    · have h := h.1 c7
      refine jm_iloadn d_X11_go_198 rfl ?_
      refine jm_invS (n1 := jm_N) (mc := 0) (ms := 0) (av := [jm_I _]) w_X11_isLetter l_X11_131 d_X11_go_199 rfl ⟨Nat.le_refl _, Nat.le_refl _⟩ (Nat.le_of_ble_eq_true rfl) rfl ?_
      refine jm_Cl.mono h (fun o m8 h hr _ => ?_)
      obtain ⟨r9, rfl, z10⟩ := jm_rokZ hr
      have h := h _ rfl z10
      refine jm_istoren (L' := [some (jm_R _), some (jm_I _), some (jm_I _), none, none]) d_X11_go_202 (Nat.le_of_ble_eq_true rfl) rfl ?_
      refine jm_iconst (v := 1) d_X11_go_203 rfl (jm_okI (by decide) (by decide)) ?_
      refine jm_istoren (L' := [some (jm_R _), some (jm_I _), some (jm_I _), some (jm_I _), none]) d_X11_go_204 (Nat.le_of_ble_eq_true rfl) rfl ?_
      refine jm_aloadn d_X11_go_205 rfl ?_
      refine jm_lconst (v := 0) d_X11_go_206 rfl (jm_okL (by decide) (by decide)) ?_
      refine jm_putL (k := 12) (ki := 12) cf_X11 (Nat.le_of_ble_eq_true rfl) f_X11_141 d_X11_go_207 (fun z => absurd z (by decide)) rfl rfl rfl (fun _ => rfl) is_133 ?_
      refine jm_aloadn d_X11_go_210 rfl ?_
      refine jm_iconst (v := 0) d_X11_go_211 rfl (jm_okI (by decide) (by decide)) ?_
      refine jm_putI (k := 8) (ki := 8) cf_X11 (Nat.le_of_ble_eq_true rfl) f_X11_145 d_X11_go_212 (fun z => absurd z (by decide)) rfl rfl rfl (fun _ => rfl) is_133 ?_
      exact jm_weak2 h (And.intro rfl (And.intro rfl (And.intro rfl trivial)))
    · have h := h.2 c7
      refine jm_iloadn d_X11_go_130 rfl ?_
      refine jm_invS (n1 := jm_N) (mc := 0) (ms := 0) (av := [jm_I _]) w_X11_isDigit l_X11_135 d_X11_go_131 rfl ⟨Nat.le_refl _, Nat.le_refl _⟩ (Nat.le_of_ble_eq_true rfl) rfl ?_
      refine jm_Cl.mono h (fun o m11 h hr _ => ?_)
      obtain ⟨r12, rfl, z13⟩ := jm_rokZ hr
      have h := h _ rfl z13
      refine jm_if_ne (tgt := 198) d_X11_go_134 (by decide) (fun c14 => ?_) (fun c14 => ?_)
      · have h := h.1 c14
        refine jm_iloadn d_X11_go_198 rfl ?_
        refine jm_invS (n1 := jm_N) (mc := 0) (ms := 0) (av := [jm_I _]) w_X11_isLetter l_X11_131 d_X11_go_199 rfl ⟨Nat.le_refl _, Nat.le_refl _⟩ (Nat.le_of_ble_eq_true rfl) rfl ?_
        refine jm_Cl.mono h (fun o m15 h hr _ => ?_)
        obtain ⟨r16, rfl, z17⟩ := jm_rokZ hr
        have h := h _ rfl z17
        refine jm_istoren (L' := [some (jm_R _), some (jm_I _), some (jm_I _), none, none]) d_X11_go_202 (Nat.le_of_ble_eq_true rfl) rfl ?_
        refine jm_iconst (v := 1) d_X11_go_203 rfl (jm_okI (by decide) (by decide)) ?_
        refine jm_istoren (L' := [some (jm_R _), some (jm_I _), some (jm_I _), some (jm_I _), none]) d_X11_go_204 (Nat.le_of_ble_eq_true rfl) rfl ?_
        refine jm_aloadn d_X11_go_205 rfl ?_
        refine jm_lconst (v := 0) d_X11_go_206 rfl (jm_okL (by decide) (by decide)) ?_
        refine jm_putL (k := 12) (ki := 12) cf_X11 (Nat.le_of_ble_eq_true rfl) f_X11_141 d_X11_go_207 (fun z => absurd z (by decide)) rfl rfl rfl (fun _ => rfl) is_133 ?_
        refine jm_aloadn d_X11_go_210 rfl ?_
        refine jm_iconst (v := 0) d_X11_go_211 rfl (jm_okI (by decide) (by decide)) ?_
        refine jm_putI (k := 8) (ki := 8) cf_X11 (Nat.le_of_ble_eq_true rfl) f_X11_145 d_X11_go_212 (fun z => absurd z (by decide)) rfl rfl rfl (fun _ => rfl) is_133 ?_
        exact jm_weak2 h (And.intro rfl (And.intro rfl (And.intro rfl trivial)))
      · have h := h.2 c14
        refine jm_aloadn d_X11_go_137 rfl ?_
        refine jm_iloadn d_X11_go_138 rfl ?_
        refine jm_bipush (v := 59) d_X11_go_139 rfl (jm_okI (by decide) (by decide)) ?_
        refine jm_icmp_eq (tgt := 174) d_X11_go_141 (by decide) (fun c18 => ?_) (fun c18 => ?_)
        · have h := h.1 c18
          refine jm_iconst (v := 4) d_X11_go_174 rfl (jm_okI (by decide) (by decide)) ?_
          refine jm_goto (tgt := 179) d_X11_go_175 (by decide) ?_
          refine jm_putI (k := 7) (ki := 7) cf_X11 (Nat.le_of_ble_eq_true rfl) f_X11_128 d_X11_go_179 (fun z => absurd z (by decide)) rfl rfl rfl (fun _ => rfl) is_133 ?_
          refine jm_aloadn d_X11_go_182 rfl ?_
          refine jm_iloadn d_X11_go_183 rfl ?_
          refine jm_putI (k := 9) (ki := 9) cf_X11 (Nat.le_of_ble_eq_true rfl) f_X11_138 d_X11_go_184 (fun z => absurd z (by decide)) rfl rfl rfl (fun _ => rfl) is_133 ?_
          refine jm_aloadn d_X11_go_187 rfl ?_
          refine jm_dup rfl d_X11_go_188 ?_
          refine jm_getI (k := 5) (ki := 5) cf_X11 (Nat.le_of_ble_eq_true rfl) f_X11_119 d_X11_go_189 rfl rfl is_133 ((jm_up_i (by decide)).trans ((jm_up_i (by decide)).trans rfl)) ?_
          refine jm_iconst (v := 1) d_X11_go_192 rfl (jm_okI (by decide) (by decide)) ?_
          refine jm_iadd d_X11_go_193 ?_
          refine jm_putI (k := 5) (ki := 5) cf_X11 (Nat.le_of_ble_eq_true rfl) f_X11_119 d_X11_go_194 (fun z => absurd z (by decide)) rfl rfl rfl (fun _ => rfl) is_133 ?_
          exact jm_ret (o := none) d_X11_go_197 rfl ⟨Nat.le_refl _, Nat.le_refl _⟩ jm_r_V h rfl
        · have h := h.2 c18
          refine jm_iloadn d_X11_go_144 rfl ?_
          refine jm_bipush (v := 60) d_X11_go_145 rfl (jm_okI (by decide) (by decide)) ?_
          refine jm_icmp_eq (tgt := 174) d_X11_go_147 (by decide) (fun c19 => ?_) (fun c19 => ?_)
          · have h := h.1 c19
            refine jm_iconst (v := 4) d_X11_go_174 rfl (jm_okI (by decide) (by decide)) ?_
            refine jm_goto (tgt := 179) d_X11_go_175 (by decide) ?_
            refine jm_putI (k := 7) (ki := 7) cf_X11 (Nat.le_of_ble_eq_true rfl) f_X11_128 d_X11_go_179 (fun z => absurd z (by decide)) rfl rfl rfl (fun _ => rfl) is_133 ?_
            refine jm_aloadn d_X11_go_182 rfl ?_
            refine jm_iloadn d_X11_go_183 rfl ?_
            refine jm_putI (k := 9) (ki := 9) cf_X11 (Nat.le_of_ble_eq_true rfl) f_X11_138 d_X11_go_184 (fun z => absurd z (by decide)) rfl rfl rfl (fun _ => rfl) is_133 ?_
            refine jm_aloadn d_X11_go_187 rfl ?_
            refine jm_dup rfl d_X11_go_188 ?_
            refine jm_getI (k := 5) (ki := 5) cf_X11 (Nat.le_of_ble_eq_true rfl) f_X11_119 d_X11_go_189 rfl rfl is_133 ((jm_up_i (by decide)).trans ((jm_up_i (by decide)).trans rfl)) ?_
            refine jm_iconst (v := 1) d_X11_go_192 rfl (jm_okI (by decide) (by decide)) ?_
            refine jm_iadd d_X11_go_193 ?_
            refine jm_putI (k := 5) (ki := 5) cf_X11 (Nat.le_of_ble_eq_true rfl) f_X11_119 d_X11_go_194 (fun z => absurd z (by decide)) rfl rfl rfl (fun _ => rfl) is_133 ?_
            exact jm_ret (o := none) d_X11_go_197 rfl ⟨Nat.le_refl _, Nat.le_refl _⟩ jm_r_V h rfl
          · have h := h.2 c19
            refine jm_iloadn d_X11_go_150 rfl ?_
            refine jm_bipush (v := 61) d_X11_go_151 rfl (jm_okI (by decide) (by decide)) ?_
            refine jm_icmp_eq (tgt := 174) d_X11_go_153 (by decide) (fun c20 => ?_) (fun c20 => ?_)
            · have h := h.1 c20
              refine jm_iconst (v := 4) d_X11_go_174 rfl (jm_okI (by decide) (by decide)) ?_
              refine jm_goto (tgt := 179) d_X11_go_175 (by decide) ?_
              refine jm_putI (k := 7) (ki := 7) cf_X11 (Nat.le_of_ble_eq_true rfl) f_X11_128 d_X11_go_179 (fun z => absurd z (by decide)) rfl rfl rfl (fun _ => rfl) is_133 ?_
              refine jm_aloadn d_X11_go_182 rfl ?_
              refine jm_iloadn d_X11_go_183 rfl ?_
              refine jm_putI (k := 9) (ki := 9) cf_X11 (Nat.le_of_ble_eq_true rfl) f_X11_138 d_X11_go_184 (fun z => absurd z (by decide)) rfl rfl rfl (fun _ => rfl) is_133 ?_
              refine jm_aloadn d_X11_go_187 rfl ?_
              refine jm_dup rfl d_X11_go_188 ?_
              refine jm_getI (k := 5) (ki := 5) cf_X11 (Nat.le_of_ble_eq_true rfl) f_X11_119 d_X11_go_189 rfl rfl is_133 ((jm_up_i (by decide)).trans ((jm_up_i (by decide)).trans rfl)) ?_
              refine jm_iconst (v := 1) d_X11_go_192 rfl (jm_okI (by decide) (by decide)) ?_
              refine jm_iadd d_X11_go_193 ?_
              refine jm_putI (k := 5) (ki := 5) cf_X11 (Nat.le_of_ble_eq_true rfl) f_X11_119 d_X11_go_194 (fun z => absurd z (by decide)) rfl rfl rfl (fun _ => rfl) is_133 ?_
              exact jm_ret (o := none) d_X11_go_197 rfl ⟨Nat.le_refl _, Nat.le_refl _⟩ jm_r_V h rfl
            · have h := h.2 c20
              refine jm_iloadn d_X11_go_156 rfl ?_
              refine jm_bipush (v := 62) d_X11_go_157 rfl (jm_okI (by decide) (by decide)) ?_
              refine jm_icmp_eq (tgt := 174) d_X11_go_159 (by decide) (fun c21 => ?_) (fun c21 => ?_)
              · have h := h.1 c21
                refine jm_iconst (v := 4) d_X11_go_174 rfl (jm_okI (by decide) (by decide)) ?_
                refine jm_goto (tgt := 179) d_X11_go_175 (by decide) ?_
                refine jm_putI (k := 7) (ki := 7) cf_X11 (Nat.le_of_ble_eq_true rfl) f_X11_128 d_X11_go_179 (fun z => absurd z (by decide)) rfl rfl rfl (fun _ => rfl) is_133 ?_
                refine jm_aloadn d_X11_go_182 rfl ?_
                refine jm_iloadn d_X11_go_183 rfl ?_
                refine jm_putI (k := 9) (ki := 9) cf_X11 (Nat.le_of_ble_eq_true rfl) f_X11_138 d_X11_go_184 (fun z => absurd z (by decide)) rfl rfl rfl (fun _ => rfl) is_133 ?_
                refine jm_aloadn d_X11_go_187 rfl ?_
                refine jm_dup rfl d_X11_go_188 ?_
                refine jm_getI (k := 5) (ki := 5) cf_X11 (Nat.le_of_ble_eq_true rfl) f_X11_119 d_X11_go_189 rfl rfl is_133 ((jm_up_i (by decide)).trans ((jm_up_i (by decide)).trans rfl)) ?_
                refine jm_iconst (v := 1) d_X11_go_192 rfl (jm_okI (by decide) (by decide)) ?_
                refine jm_iadd d_X11_go_193 ?_
                refine jm_putI (k := 5) (ki := 5) cf_X11 (Nat.le_of_ble_eq_true rfl) f_X11_119 d_X11_go_194 (fun z => absurd z (by decide)) rfl rfl rfl (fun _ => rfl) is_133 ?_
                exact jm_ret (o := none) d_X11_go_197 rfl ⟨Nat.le_refl _, Nat.le_refl _⟩ jm_r_V h rfl
              · have h := h.2 c21
                refine jm_iloadn d_X11_go_162 rfl ?_
                refine jm_bipush (v := 40) d_X11_go_163 rfl (jm_okI (by decide) (by decide)) ?_
                refine jm_icmp_eq (tgt := 174) d_X11_go_165 (by decide) (fun c22 => ?_) (fun c22 => ?_)
                · have h := h.1 c22
                  refine jm_iconst (v := 4) d_X11_go_174 rfl (jm_okI (by decide) (by decide)) ?_
                  refine jm_goto (tgt := 179) d_X11_go_175 (by decide) ?_
                  refine jm_putI (k := 7) (ki := 7) cf_X11 (Nat.le_of_ble_eq_true rfl) f_X11_128 d_X11_go_179 (fun z => absurd z (by decide)) rfl rfl rfl (fun _ => rfl) is_133 ?_
                  refine jm_aloadn d_X11_go_182 rfl ?_
                  refine jm_iloadn d_X11_go_183 rfl ?_
                  refine jm_putI (k := 9) (ki := 9) cf_X11 (Nat.le_of_ble_eq_true rfl) f_X11_138 d_X11_go_184 (fun z => absurd z (by decide)) rfl rfl rfl (fun _ => rfl) is_133 ?_
                  refine jm_aloadn d_X11_go_187 rfl ?_
                  refine jm_dup rfl d_X11_go_188 ?_
                  refine jm_getI (k := 5) (ki := 5) cf_X11 (Nat.le_of_ble_eq_true rfl) f_X11_119 d_X11_go_189 rfl rfl is_133 ((jm_up_i (by decide)).trans ((jm_up_i (by decide)).trans rfl)) ?_
                  refine jm_iconst (v := 1) d_X11_go_192 rfl (jm_okI (by decide) (by decide)) ?_
                  refine jm_iadd d_X11_go_193 ?_
                  refine jm_putI (k := 5) (ki := 5) cf_X11 (Nat.le_of_ble_eq_true rfl) f_X11_119 d_X11_go_194 (fun z => absurd z (by decide)) rfl rfl rfl (fun _ => rfl) is_133 ?_
                  exact jm_ret (o := none) d_X11_go_197 rfl ⟨Nat.le_refl _, Nat.le_refl _⟩ jm_r_V h rfl
                · have h := h.2 c22
                  refine jm_iloadn d_X11_go_168 rfl ?_
                  refine jm_bipush (v := 41) d_X11_go_169 rfl (jm_okI (by decide) (by decide)) ?_
                  refine jm_icmp_ne (tgt := 178) d_X11_go_171 (by decide) (fun c23 => ?_) (fun c23 => ?_)
                  · have h := h.1 c23
                    refine jm_iconst (v := 1) d_X11_go_178 rfl (jm_okI (by decide) (by decide)) ?_
                    refine jm_putI (k := 7) (ki := 7) cf_X11 (Nat.le_of_ble_eq_true rfl) f_X11_128 d_X11_go_179 (fun z => absurd z (by decide)) rfl rfl rfl (fun _ => rfl) is_133 ?_
                    refine jm_aloadn d_X11_go_182 rfl ?_
                    refine jm_iloadn d_X11_go_183 rfl ?_
                    refine jm_putI (k := 9) (ki := 9) cf_X11 (Nat.le_of_ble_eq_true rfl) f_X11_138 d_X11_go_184 (fun z => absurd z (by decide)) rfl rfl rfl (fun _ => rfl) is_133 ?_
                    refine jm_aloadn d_X11_go_187 rfl ?_
                    refine jm_dup rfl d_X11_go_188 ?_
                    refine jm_getI (k := 5) (ki := 5) cf_X11 (Nat.le_of_ble_eq_true rfl) f_X11_119 d_X11_go_189 rfl rfl is_133 ((jm_up_i (by decide)).trans ((jm_up_i (by decide)).trans rfl)) ?_
                    refine jm_iconst (v := 1) d_X11_go_192 rfl (jm_okI (by decide) (by decide)) ?_
                    refine jm_iadd d_X11_go_193 ?_
                    refine jm_putI (k := 5) (ki := 5) cf_X11 (Nat.le_of_ble_eq_true rfl) f_X11_119 d_X11_go_194 (fun z => absurd z (by decide)) rfl rfl rfl (fun _ => rfl) is_133 ?_
                    exact jm_ret (o := none) d_X11_go_197 rfl ⟨Nat.le_refl _, Nat.le_refl _⟩ jm_r_V h rfl
                  · have h := h.2 c23
                    refine jm_iconst (v := 4) d_X11_go_174 rfl (jm_okI (by decide) (by decide)) ?_
                    refine jm_goto (tgt := 179) d_X11_go_175 (by decide) ?_
                    refine jm_putI (k := 7) (ki := 7) cf_X11 (Nat.le_of_ble_eq_true rfl) f_X11_128 d_X11_go_179 (fun z => absurd z (by decide)) rfl rfl rfl (fun _ => rfl) is_133 ?_
                    refine jm_aloadn d_X11_go_182 rfl ?_
                    refine jm_iloadn d_X11_go_183 rfl ?_
                    refine jm_putI (k := 9) (ki := 9) cf_X11 (Nat.le_of_ble_eq_true rfl) f_X11_138 d_X11_go_184 (fun z => absurd z (by decide)) rfl rfl rfl (fun _ => rfl) is_133 ?_
                    refine jm_aloadn d_X11_go_187 rfl ?_
                    refine jm_dup rfl d_X11_go_188 ?_
                    refine jm_getI (k := 5) (ki := 5) cf_X11 (Nat.le_of_ble_eq_true rfl) f_X11_119 d_X11_go_189 rfl rfl is_133 ((jm_up_i (by decide)).trans ((jm_up_i (by decide)).trans rfl)) ?_
                    refine jm_iconst (v := 1) d_X11_go_192 rfl (jm_okI (by decide) (by decide)) ?_
                    refine jm_iadd d_X11_go_193 ?_
                    refine jm_putI (k := 5) (ki := 5) cf_X11 (Nat.le_of_ble_eq_true rfl) f_X11_119 d_X11_go_194 (fun z => absurd z (by decide)) rfl rfl rfl (fun _ => rfl) is_133 ?_
                    exact jm_ret (o := none) d_X11_go_197 rfl ⟨Nat.le_refl _, Nat.le_refl _⟩ jm_r_V h rfl
  · have h := h.2 c1
    refine jm_aloadn d_X11_go_107 rfl ?_
    refine jm_iconst (v := 0) d_X11_go_108 rfl (jm_okI (by decide) (by decide)) ?_
    refine jm_putI (k := 7) (ki := 7) cf_X11 (Nat.le_of_ble_eq_true rfl) f_X11_128 d_X11_go_109 (fun z => absurd z (by decide)) rfl rfl rfl (fun _ => rfl) is_133 ?_
    exact jm_ret (o := none) d_X11_go_112 rfl ⟨Nat.le_refl _, Nat.le_refl _⟩ jm_r_V h rfl
set_option maxRecDepth 20000 in
theorem r_X11_go_215 {E : jm_E} {d : Nat} {μ : jm_M} {Q : Option jm_V → jm_M → Prop} {v2 v3 : Int} (h :
  jc E m_X11_byteAt d [jm_R 133, jm_I (μ 133 5)] μ (fun (o : Option jm_V) (m1 : jm_M) => ∀ r2 : Int, o = some (jm_I r2) →
  jc E m_X11_isLetter d [jm_I r2] m1 (fun (o : Option jm_V) (m3 : jm_M) => ∀ r4 : Int, o = some (jm_I r4) → (r4 = 0 ∨ r4 = 1) →
  ((r4 ≠ 0 →
    jg E m_X11_go d 243 [some (jm_R 133), none, some (jm_I v2), some (jm_I v3), none] [] m3 Q) ∧
   (¬ (r4 ≠ 0) →
    jc E m_X11_byteAt d [jm_R 133, jm_I (m3 133 5)] m3 (fun (o : Option jm_V) (m7 : jm_M) => ∀ r8 : Int, o = some (jm_I r8) →
    jc E m_X11_isDigit d [jm_I r8] m7 (fun (o : Option jm_V) (m9 : jm_M) => ∀ r10 : Int, o = some (jm_I r10) → (r10 = 0 ∨ r10 = 1) →
    ((r10 = 0 →
      ((v3 = 0 →
        Q none (jm_up m9 133 7 1)) ∧
       (¬ (v3 = 0) →
        ((v2 = 0 →
          (((jm_wr ((m9 133 5) - (m9 133 6))) ≤ 3 →
            Q none (jm_up m9 133 7 3)) ∧
           (¬ ((jm_wr ((m9 133 5) - (m9 133 6))) ≤ 3) →
            Q none (jm_up m9 133 7 1)))) ∧
         (¬ (v2 = 0) →
          (((jm_wr ((m9 133 5) - (m9 133 6))) ≤ 7 →
            Q none (jm_up m9 133 7 2)) ∧
           (¬ ((jm_wr ((m9 133 5) - (m9 133 6))) ≤ 7) →
            Q none (jm_up m9 133 7 1)))))))) ∧
     (¬ (r10 = 0) →
      jg E m_X11_go d 243 [some (jm_R 133), none, some (jm_I v2), some (jm_I v3), none] [] m9 Q))))))))) : jg E m_X11_go d 215 [some (jm_R 133), none, some (jm_I v2), some (jm_I v3), none] [] μ Q := by
  refine jm_aloadn d_X11_go_215 rfl ?_
  refine jm_aloadn d_X11_go_216 rfl ?_
  refine jm_getI (k := 5) (ki := 5) cf_X11 (Nat.le_of_ble_eq_true rfl) f_X11_119 d_X11_go_217 rfl rfl is_133 rfl ?_
  refine jm_invV (n1 := jm_N) (mc := 0) (ms := 0) (av := [jm_I _]) w_X11_byteAt l_X11_148 d_X11_go_220 rfl is_133 ⟨_, _, rfl⟩ ⟨Nat.le_refl _, Nat.le_refl _⟩ (Nat.le_of_ble_eq_true rfl) rfl ?_
  refine jm_Cl.mono h (fun o m1 h hr _ => ?_)
  obtain ⟨r2, rfl⟩ := jm_rokI hr
  have h := h _ rfl
  refine jm_invS (n1 := jm_N) (mc := 0) (ms := 0) (av := [jm_I _]) w_X11_isLetter l_X11_131 d_X11_go_223 rfl ⟨Nat.le_refl _, Nat.le_refl _⟩ (Nat.le_of_ble_eq_true rfl) rfl ?_
  refine jm_Cl.mono h (fun o m3 h hr _ => ?_)
  obtain ⟨r4, rfl, z5⟩ := jm_rokZ hr
  have h := h _ rfl z5
  refine jm_if_ne (tgt := 243) d_X11_go_226 (by decide) (fun c6 => ?_) (fun c6 => ?_)
  · have h := h.1 c6
    exact h
  · have h := h.2 c6
    refine jm_aloadn d_X11_go_229 rfl ?_
    refine jm_aloadn d_X11_go_230 rfl ?_
    refine jm_getI (k := 5) (ki := 5) cf_X11 (Nat.le_of_ble_eq_true rfl) f_X11_119 d_X11_go_231 rfl rfl is_133 rfl ?_
    refine jm_invV (n1 := jm_N) (mc := 0) (ms := 0) (av := [jm_I _]) w_X11_byteAt l_X11_148 d_X11_go_234 rfl is_133 ⟨_, _, rfl⟩ ⟨Nat.le_refl _, Nat.le_refl _⟩ (Nat.le_of_ble_eq_true rfl) rfl ?_
    refine jm_Cl.mono h (fun o m7 h hr _ => ?_)
    obtain ⟨r8, rfl⟩ := jm_rokI hr
    have h := h _ rfl
    refine jm_invS (n1 := jm_N) (mc := 0) (ms := 0) (av := [jm_I _]) w_X11_isDigit l_X11_135 d_X11_go_237 rfl ⟨Nat.le_refl _, Nat.le_refl _⟩ (Nat.le_of_ble_eq_true rfl) rfl ?_
    refine jm_Cl.mono h (fun o m9 h hr _ => ?_)
    obtain ⟨r10, rfl, z11⟩ := jm_rokZ hr
    have h := h _ rfl z11
    refine jm_if_eq (tgt := 350) d_X11_go_240 (by decide) (fun c12 => ?_) (fun c12 => ?_)
    · have h := h.1 c12
      refine jm_aloadn d_X11_go_350 rfl ?_
      refine jm_iloadn d_X11_go_351 rfl ?_
      refine jm_if_eq (tgt := 377) d_X11_go_352 (by decide) (fun c13 => ?_) (fun c13 => ?_)
      · have h := h.1 c13
        refine jm_iconst (v := 1) d_X11_go_377 rfl (jm_okI (by decide) (by decide)) ?_
        refine jm_goto (tgt := 390) d_X11_go_378 (by decide) ?_
        refine jm_putI (k := 7) (ki := 7) cf_X11 (Nat.le_of_ble_eq_true rfl) f_X11_128 d_X11_go_390 (fun z => absurd z (by decide)) rfl rfl rfl (fun _ => rfl) is_133 ?_
        exact jm_ret (o := none) d_X11_go_393 rfl ⟨Nat.le_refl _, Nat.le_refl _⟩ jm_r_V h rfl
      · have h := h.2 c13
        refine jm_aloadn d_X11_go_355 rfl ?_
        refine jm_getI (k := 5) (ki := 5) cf_X11 (Nat.le_of_ble_eq_true rfl) f_X11_119 d_X11_go_356 rfl rfl is_133 rfl ?_
        refine jm_aloadn d_X11_go_359 rfl ?_
        refine jm_getI (k := 6) (ki := 6) cf_X11 (Nat.le_of_ble_eq_true rfl) f_X11_122 d_X11_go_360 rfl rfl is_133 rfl ?_
        refine jm_isub d_X11_go_363 ?_
        refine jm_iloadn d_X11_go_364 rfl ?_
        refine jm_if_eq (tgt := 373) d_X11_go_365 (by decide) (fun c14 => ?_) (fun c14 => ?_)
        · have h := h.1 c14
          refine jm_iconst (v := 3) d_X11_go_373 rfl (jm_okI (by decide) (by decide)) ?_
          refine jm_icmp_le (tgt := 381) d_X11_go_374 (by decide) (fun c15 => ?_) (fun c15 => ?_)
          · have h := h.1 c15
            refine jm_iloadn d_X11_go_381 rfl ?_
            refine jm_if_eq (tgt := 389) d_X11_go_382 (by decide) (fun _ => ?_) (fun c16 => absurd c14 c16)
            refine jm_iconst (v := 3) d_X11_go_389 rfl (jm_okI (by decide) (by decide)) ?_
            refine jm_putI (k := 7) (ki := 7) cf_X11 (Nat.le_of_ble_eq_true rfl) f_X11_128 d_X11_go_390 (fun z => absurd z (by decide)) rfl rfl rfl (fun _ => rfl) is_133 ?_
            exact jm_ret (o := none) d_X11_go_393 rfl ⟨Nat.le_refl _, Nat.le_refl _⟩ jm_r_V h rfl
          · have h := h.2 c15
            refine jm_iconst (v := 1) d_X11_go_377 rfl (jm_okI (by decide) (by decide)) ?_
            refine jm_goto (tgt := 390) d_X11_go_378 (by decide) ?_
            refine jm_putI (k := 7) (ki := 7) cf_X11 (Nat.le_of_ble_eq_true rfl) f_X11_128 d_X11_go_390 (fun z => absurd z (by decide)) rfl rfl rfl (fun _ => rfl) is_133 ?_
            exact jm_ret (o := none) d_X11_go_393 rfl ⟨Nat.le_refl _, Nat.le_refl _⟩ jm_r_V h rfl
        · have h := h.2 c14
          refine jm_bipush (v := 7) d_X11_go_368 rfl (jm_okI (by decide) (by decide)) ?_
          refine jm_goto (tgt := 374) d_X11_go_370 (by decide) ?_
          refine jm_icmp_le (tgt := 381) d_X11_go_374 (by decide) (fun c17 => ?_) (fun c17 => ?_)
          · have h := h.1 c17
            refine jm_iloadn d_X11_go_381 rfl ?_
            refine jm_if_eq (tgt := 389) d_X11_go_382 (by decide) (fun c18 => absurd c18 c14) (fun _ => ?_)
            refine jm_iconst (v := 2) d_X11_go_385 rfl (jm_okI (by decide) (by decide)) ?_
            refine jm_goto (tgt := 390) d_X11_go_386 (by decide) ?_
            refine jm_putI (k := 7) (ki := 7) cf_X11 (Nat.le_of_ble_eq_true rfl) f_X11_128 d_X11_go_390 (fun z => absurd z (by decide)) rfl rfl rfl (fun _ => rfl) is_133 ?_
            exact jm_ret (o := none) d_X11_go_393 rfl ⟨Nat.le_refl _, Nat.le_refl _⟩ jm_r_V h rfl
          · have h := h.2 c17
            refine jm_iconst (v := 1) d_X11_go_377 rfl (jm_okI (by decide) (by decide)) ?_
            refine jm_goto (tgt := 390) d_X11_go_378 (by decide) ?_
            refine jm_putI (k := 7) (ki := 7) cf_X11 (Nat.le_of_ble_eq_true rfl) f_X11_128 d_X11_go_390 (fun z => absurd z (by decide)) rfl rfl rfl (fun _ => rfl) is_133 ?_
            exact jm_ret (o := none) d_X11_go_393 rfl ⟨Nat.le_refl _, Nat.le_refl _⟩ jm_r_V h rfl
    · have h := h.2 c12
      exact h
set_option maxRecDepth 20000 in
theorem r_X11_go_243 {E : jm_E} {d : Nat} {μ : jm_M} {Q : Option jm_V → jm_M → Prop} {v2 v3 : Int} (h :
  (0 ≤ μ 133 5 ∧ μ 133 5 < 940) ∧
  ∀ x2 : Int, x2 = μ 134 (μ 133 5) →
  ((v3 = 0 →
    jg E m_X11_go d 271 [some (jm_R 133), none, some (jm_I v2), none, some (jm_I x2)] [] μ Q) ∧
   (¬ (v3 = 0) →
    jc E m_X11_isLetter d [jm_I x2] μ (fun (o : Option jm_V) (m4 : jm_M) => ∀ r5 : Int, o = some (jm_I r5) → (r5 = 0 ∨ r5 = 1) →
    ((r5 ≠ v2 →
      jg E m_X11_go d 271 [some (jm_R 133), none, some (jm_I v2), none, some (jm_I x2)] [] m4 Q) ∧
     (¬ (r5 ≠ v2) →
      ((7 ≤ (jm_wr ((m4 133 5) - (m4 133 6))) →
        jg E m_X11_go d 307 [some (jm_R 133), none, some (jm_I v2), some (jm_I 1), some (jm_I x2)] [] m4 Q) ∧
       (¬ (7 ≤ (jm_wr ((m4 133 5) - (m4 133 6)))) →
        ∀ x9 : Int, x9 = jm_wl ((jm_wl ((jm_wl (27 * (m4 133 12))) + x2)) - 96) →
        jg E m_X11_go d 307 [some (jm_R 133), none, some (jm_I v2), some (jm_I 1), some (jm_I x2)] [] (jm_up m4 133 12 x9) Q)))))))) : jg E m_X11_go d 243 [some (jm_R 133), none, some (jm_I v2), some (jm_I v3), none] [] μ Q := by
  refine jm_aloadn d_X11_go_243 rfl ?_
  refine jm_getF (k := 1) (ki := 1) rfl cf_X11 (Nat.le_of_ble_eq_true rfl) f_X11_7 d_X11_go_244 rfl rfl is_133 fr_133_1 ?_
  refine jm_aloadn d_X11_go_247 rfl ?_
  refine jm_getI (k := 5) (ki := 5) cf_X11 (Nat.le_of_ble_eq_true rfl) f_X11_119 d_X11_go_248 rfl rfl is_133 rfl ?_
  obtain ⟨f1, h⟩ := h
  refine jm_iaload d_X11_go_251 (ixl_134 f1.1 f1.2) ?_
  have h := h _ rfl
  refine jm_istore (L' := [some (jm_R _), none, some (jm_I _), some (jm_I _), some (jm_I _)]) d_X11_go_252 (Nat.le_of_ble_eq_true rfl) rfl ?_
  refine jm_iloadn d_X11_go_254 rfl ?_
  refine jm_if_eq (tgt := 271) d_X11_go_255 (by decide) (fun c3 => ?_) (fun c3 => ?_)
  · have h := h.1 c3
    exact jm_weak2 h (And.intro rfl (And.intro rfl (And.intro rfl trivial)))
  · have h := h.2 c3
    refine jm_iload d_X11_go_258 rfl ?_
    refine jm_invS (n1 := jm_N) (mc := 0) (ms := 0) (av := [jm_I _]) w_X11_isLetter l_X11_131 d_X11_go_260 rfl ⟨Nat.le_refl _, Nat.le_refl _⟩ (Nat.le_of_ble_eq_true rfl) rfl ?_
    refine jm_Cl.mono h (fun o m4 h hr _ => ?_)
    obtain ⟨r5, rfl, z6⟩ := jm_rokZ hr
    have h := h _ rfl z6
    refine jm_iloadn d_X11_go_263 rfl ?_
    refine jm_icmp_ne (tgt := 271) d_X11_go_264 (by decide) (fun c7 => ?_) (fun c7 => ?_)
    · have h := h.1 c7
      exact jm_weak2 h (And.intro rfl (And.intro rfl (And.intro rfl trivial)))
    · have h := h.2 c7
      refine jm_iconst (v := 1) d_X11_go_267 rfl (jm_okI (by decide) (by decide)) ?_
      refine jm_goto (tgt := 272) d_X11_go_268 (by decide) ?_
      refine jm_istoren (L' := [some (jm_R _), none, some (jm_I _), some (jm_I _), some (jm_I _)]) d_X11_go_272 (Nat.le_of_ble_eq_true rfl) rfl ?_
      refine jm_aloadn d_X11_go_273 rfl ?_
      refine jm_getI (k := 5) (ki := 5) cf_X11 (Nat.le_of_ble_eq_true rfl) f_X11_119 d_X11_go_274 rfl rfl is_133 rfl ?_
      refine jm_aloadn d_X11_go_277 rfl ?_
      refine jm_getI (k := 6) (ki := 6) cf_X11 (Nat.le_of_ble_eq_true rfl) f_X11_122 d_X11_go_278 rfl rfl is_133 rfl ?_
      refine jm_isub d_X11_go_281 ?_
      refine jm_bipush (v := 7) d_X11_go_282 rfl (jm_okI (by decide) (by decide)) ?_
      refine jm_icmp_ge (tgt := 307) d_X11_go_284 (by decide) (fun c8 => ?_) (fun c8 => ?_)
      · have h := h.1 c8
        exact h
      · have h := h.2 c8
        refine jm_aloadn d_X11_go_287 rfl ?_
        refine jm_ldc2 (v := 27) d_X11_go_288 k_X11_152 (jm_okL (by decide) (by decide)) ?_
        refine jm_aloadn d_X11_go_291 rfl ?_
        refine jm_getL (k := 12) (ki := 12) cf_X11 (Nat.le_of_ble_eq_true rfl) f_X11_141 d_X11_go_292 rfl rfl is_133 rfl ?_
        refine jm_lmul d_X11_go_295 ?_
        refine jm_iload d_X11_go_296 rfl ?_
        refine jm_i2l d_X11_go_298 ?_
        refine jm_ladd d_X11_go_299 ?_
        refine jm_ldc2 (v := 96) d_X11_go_300 k_X11_154 (jm_okL (by decide) (by decide)) ?_
        refine jm_lsub d_X11_go_303 ?_
        have h := h _ rfl
        refine jm_putL (k := 12) (ki := 12) cf_X11 (Nat.le_of_ble_eq_true rfl) f_X11_141 d_X11_go_304 (fun z => absurd z (by decide)) rfl rfl rfl (fun _ => rfl) is_133 ?_
        exact h
set_option maxRecDepth 20000 in
theorem r_X11_go_271 {E : jm_E} {d : Nat} {μ : jm_M} {Q : Option jm_V → jm_M → Prop} {v2 v4 : Int} (h :
  ((7 ≤ (jm_wr ((μ 133 5) - (μ 133 6))) →
    jg E m_X11_go d 307 [some (jm_R 133), none, some (jm_I v2), some (jm_I 0), some (jm_I v4)] [] μ Q) ∧
   (¬ (7 ≤ (jm_wr ((μ 133 5) - (μ 133 6)))) →
    ∀ x2 : Int, x2 = jm_wl ((jm_wl ((jm_wl (27 * (μ 133 12))) + v4)) - 96) →
    jg E m_X11_go d 307 [some (jm_R 133), none, some (jm_I v2), some (jm_I 0), some (jm_I v4)] [] (jm_up μ 133 12 x2) Q))) : jg E m_X11_go d 271 [some (jm_R 133), none, some (jm_I v2), none, some (jm_I v4)] [] μ Q := by
  refine jm_iconst (v := 0) d_X11_go_271 rfl (jm_okI (by decide) (by decide)) ?_
  refine jm_istoren (L' := [some (jm_R _), none, some (jm_I _), some (jm_I _), some (jm_I _)]) d_X11_go_272 (Nat.le_of_ble_eq_true rfl) rfl ?_
  refine jm_aloadn d_X11_go_273 rfl ?_
  refine jm_getI (k := 5) (ki := 5) cf_X11 (Nat.le_of_ble_eq_true rfl) f_X11_119 d_X11_go_274 rfl rfl is_133 rfl ?_
  refine jm_aloadn d_X11_go_277 rfl ?_
  refine jm_getI (k := 6) (ki := 6) cf_X11 (Nat.le_of_ble_eq_true rfl) f_X11_122 d_X11_go_278 rfl rfl is_133 rfl ?_
  refine jm_isub d_X11_go_281 ?_
  refine jm_bipush (v := 7) d_X11_go_282 rfl (jm_okI (by decide) (by decide)) ?_
  refine jm_icmp_ge (tgt := 307) d_X11_go_284 (by decide) (fun c1 => ?_) (fun c1 => ?_)
  · have h := h.1 c1
    exact h
  · have h := h.2 c1
    refine jm_aloadn d_X11_go_287 rfl ?_
    refine jm_ldc2 (v := 27) d_X11_go_288 k_X11_152 (jm_okL (by decide) (by decide)) ?_
    refine jm_aloadn d_X11_go_291 rfl ?_
    refine jm_getL (k := 12) (ki := 12) cf_X11 (Nat.le_of_ble_eq_true rfl) f_X11_141 d_X11_go_292 rfl rfl is_133 rfl ?_
    refine jm_lmul d_X11_go_295 ?_
    refine jm_iload d_X11_go_296 rfl ?_
    refine jm_i2l d_X11_go_298 ?_
    refine jm_ladd d_X11_go_299 ?_
    refine jm_ldc2 (v := 96) d_X11_go_300 k_X11_154 (jm_okL (by decide) (by decide)) ?_
    refine jm_lsub d_X11_go_303 ?_
    have h := h _ rfl
    refine jm_putL (k := 12) (ki := 12) cf_X11 (Nat.le_of_ble_eq_true rfl) f_X11_141 d_X11_go_304 (fun z => absurd z (by decide)) rfl rfl rfl (fun _ => rfl) is_133 ?_
    exact h
set_option maxRecDepth 20000 in
theorem r_X11_go_307 {E : jm_E} {d : Nat} {μ : jm_M} {Q : Option jm_V → jm_M → Prop} {v2 v3 v4 : Int} (h :
  ((3 ≤ (jm_wr ((μ 133 5) - (μ 133 6))) →
    jg E m_X11_go d 215 [some (jm_R 133), none, some (jm_I v2), some (jm_I v3), none] [] (jm_up μ 133 5 (jm_wr ((μ 133 5) + 1))) Q) ∧
   (¬ (3 ≤ (jm_wr ((μ 133 5) - (μ 133 6)))) →
    ∀ x2 : Int, x2 = jm_wr ((jm_wr ((jm_wr (10 * (μ 133 8))) + v4)) - 48) →
    jg E m_X11_go d 215 [some (jm_R 133), none, some (jm_I v2), some (jm_I v3), none] [] (jm_up (jm_up μ 133 8 x2) 133 5 (jm_wr ((μ 133 5) + 1))) Q))) : jg E m_X11_go d 307 [some (jm_R 133), none, some (jm_I v2), some (jm_I v3), some (jm_I v4)] [] μ Q := by
  refine jm_aloadn d_X11_go_307 rfl ?_
  refine jm_getI (k := 5) (ki := 5) cf_X11 (Nat.le_of_ble_eq_true rfl) f_X11_119 d_X11_go_308 rfl rfl is_133 rfl ?_
  refine jm_aloadn d_X11_go_311 rfl ?_
  refine jm_getI (k := 6) (ki := 6) cf_X11 (Nat.le_of_ble_eq_true rfl) f_X11_122 d_X11_go_312 rfl rfl is_133 rfl ?_
  refine jm_isub d_X11_go_315 ?_
  refine jm_iconst (v := 3) d_X11_go_316 rfl (jm_okI (by decide) (by decide)) ?_
  refine jm_icmp_ge (tgt := 337) d_X11_go_317 (by decide) (fun c1 => ?_) (fun c1 => ?_)
  · have h := h.1 c1
    refine jm_aloadn d_X11_go_337 rfl ?_
    refine jm_dup rfl d_X11_go_338 ?_
    refine jm_getI (k := 5) (ki := 5) cf_X11 (Nat.le_of_ble_eq_true rfl) f_X11_119 d_X11_go_339 rfl rfl is_133 rfl ?_
    refine jm_iconst (v := 1) d_X11_go_342 rfl (jm_okI (by decide) (by decide)) ?_
    refine jm_iadd d_X11_go_343 ?_
    refine jm_putI (k := 5) (ki := 5) cf_X11 (Nat.le_of_ble_eq_true rfl) f_X11_119 d_X11_go_344 (fun z => absurd z (by decide)) rfl rfl rfl (fun _ => rfl) is_133 ?_
    refine jm_goto (tgt := 215) d_X11_go_347 (by decide) ?_
    exact jm_weak2 h (And.intro rfl (And.intro rfl (And.intro rfl trivial)))
  · have h := h.2 c1
    refine jm_aloadn d_X11_go_320 rfl ?_
    refine jm_bipush (v := 10) d_X11_go_321 rfl (jm_okI (by decide) (by decide)) ?_
    refine jm_aloadn d_X11_go_323 rfl ?_
    refine jm_getI (k := 8) (ki := 8) cf_X11 (Nat.le_of_ble_eq_true rfl) f_X11_145 d_X11_go_324 rfl rfl is_133 rfl ?_
    refine jm_imul d_X11_go_327 ?_
    refine jm_iload d_X11_go_328 rfl ?_
    refine jm_iadd d_X11_go_330 ?_
    refine jm_bipush (v := 48) d_X11_go_331 rfl (jm_okI (by decide) (by decide)) ?_
    refine jm_isub d_X11_go_333 ?_
    have h := h _ rfl
    refine jm_putI (k := 8) (ki := 8) cf_X11 (Nat.le_of_ble_eq_true rfl) f_X11_145 d_X11_go_334 (fun z => absurd z (by decide)) rfl rfl rfl (fun _ => rfl) is_133 ?_
    refine jm_aloadn d_X11_go_337 rfl ?_
    refine jm_dup rfl d_X11_go_338 ?_
    refine jm_getI (k := 5) (ki := 5) cf_X11 (Nat.le_of_ble_eq_true rfl) f_X11_119 d_X11_go_339 rfl rfl is_133 ((jm_up_i (by decide)).trans rfl) ?_
    refine jm_iconst (v := 1) d_X11_go_342 rfl (jm_okI (by decide) (by decide)) ?_
    refine jm_iadd d_X11_go_343 ?_
    refine jm_putI (k := 5) (ki := 5) cf_X11 (Nat.le_of_ble_eq_true rfl) f_X11_119 d_X11_go_344 (fun z => absurd z (by decide)) rfl rfl rfl (fun _ => rfl) is_133 ?_
    refine jm_goto (tgt := 215) d_X11_go_347 (by decide) ?_
    exact jm_weak2 h (And.intro rfl (And.intro rfl (And.intro rfl trivial)))
/-! ('CombTableModel', 'spelt', '(IIII)J') -/
theorem d_X11_spelt_0 : decode m_X11_spelt.2.1 0 = .ok (.ldc2_w 152, 3) := by decide +kernel
theorem d_X11_spelt_3 : decode m_X11_spelt.2.1 3 = .ok (.iload_n 0, 1) := by decide +kernel
theorem d_X11_spelt_4 : decode m_X11_spelt.2.1 4 = .ok (.i2l, 1) := by decide +kernel
theorem d_X11_spelt_5 : decode m_X11_spelt.2.1 5 = .ok (.ldc2_w 154, 3) := by decide +kernel
theorem d_X11_spelt_8 : decode m_X11_spelt.2.1 8 = .ok (.lsub, 1) := by decide +kernel
theorem d_X11_spelt_9 : decode m_X11_spelt.2.1 9 = .ok (.lmul, 1) := by decide +kernel
theorem d_X11_spelt_10 : decode m_X11_spelt.2.1 10 = .ok (.iload_n 1, 1) := by decide +kernel
theorem d_X11_spelt_11 : decode m_X11_spelt.2.1 11 = .ok (.i2l, 1) := by decide +kernel
theorem d_X11_spelt_12 : decode m_X11_spelt.2.1 12 = .ok (.ladd, 1) := by decide +kernel
theorem d_X11_spelt_13 : decode m_X11_spelt.2.1 13 = .ok (.ldc2_w 154, 3) := by decide +kernel
theorem d_X11_spelt_16 : decode m_X11_spelt.2.1 16 = .ok (.lsub, 1) := by decide +kernel
theorem d_X11_spelt_17 : decode m_X11_spelt.2.1 17 = .ok (.lstore 4, 2) := by decide +kernel
theorem d_X11_spelt_19 : decode m_X11_spelt.2.1 19 = .ok (.iload_n 2, 1) := by decide +kernel
theorem d_X11_spelt_20 : decode m_X11_spelt.2.1 20 = .ok (.ifCond .le 18, 3) := by decide +kernel
theorem d_X11_spelt_23 : decode m_X11_spelt.2.1 23 = .ok (.ldc2_w 152, 3) := by decide +kernel
theorem d_X11_spelt_26 : decode m_X11_spelt.2.1 26 = .ok (.lload 4, 2) := by decide +kernel
theorem d_X11_spelt_28 : decode m_X11_spelt.2.1 28 = .ok (.lmul, 1) := by decide +kernel
theorem d_X11_spelt_29 : decode m_X11_spelt.2.1 29 = .ok (.iload_n 2, 1) := by decide +kernel
theorem d_X11_spelt_30 : decode m_X11_spelt.2.1 30 = .ok (.i2l, 1) := by decide +kernel
theorem d_X11_spelt_31 : decode m_X11_spelt.2.1 31 = .ok (.ladd, 1) := by decide +kernel
theorem d_X11_spelt_32 : decode m_X11_spelt.2.1 32 = .ok (.ldc2_w 154, 3) := by decide +kernel
theorem d_X11_spelt_35 : decode m_X11_spelt.2.1 35 = .ok (.lsub, 1) := by decide +kernel
theorem d_X11_spelt_36 : decode m_X11_spelt.2.1 36 = .ok (.lstore 4, 2) := by decide +kernel
theorem d_X11_spelt_38 : decode m_X11_spelt.2.1 38 = .ok (.iload_n 3, 1) := by decide +kernel
theorem d_X11_spelt_39 : decode m_X11_spelt.2.1 39 = .ok (.ifCond .le 19, 3) := by decide +kernel
theorem d_X11_spelt_42 : decode m_X11_spelt.2.1 42 = .ok (.ldc2_w 152, 3) := by decide +kernel
theorem d_X11_spelt_45 : decode m_X11_spelt.2.1 45 = .ok (.lload 4, 2) := by decide +kernel
theorem d_X11_spelt_47 : decode m_X11_spelt.2.1 47 = .ok (.lmul, 1) := by decide +kernel
theorem d_X11_spelt_48 : decode m_X11_spelt.2.1 48 = .ok (.iload_n 3, 1) := by decide +kernel
theorem d_X11_spelt_49 : decode m_X11_spelt.2.1 49 = .ok (.i2l, 1) := by decide +kernel
theorem d_X11_spelt_50 : decode m_X11_spelt.2.1 50 = .ok (.ladd, 1) := by decide +kernel
theorem d_X11_spelt_51 : decode m_X11_spelt.2.1 51 = .ok (.ldc2_w 154, 3) := by decide +kernel
theorem d_X11_spelt_54 : decode m_X11_spelt.2.1 54 = .ok (.lsub, 1) := by decide +kernel
theorem d_X11_spelt_55 : decode m_X11_spelt.2.1 55 = .ok (.goto 5, 3) := by decide +kernel
theorem d_X11_spelt_58 : decode m_X11_spelt.2.1 58 = .ok (.lload 4, 2) := by decide +kernel
theorem d_X11_spelt_60 : decode m_X11_spelt.2.1 60 = .ok (.lreturn, 1) := by decide +kernel
set_option maxRecDepth 20000 in
theorem e_X11_spelt {E : jm_E} {d : Nat} {μ : jm_M} {Q : Option jm_V → jm_M → Prop} {v0 v1 v2 v3 : Int} (h : (∀ v ∈ ([jm_I v0, jm_I v1, jm_I v2, jm_I v3] : List jm_V), jm_ok v) →
  ∀ x1 : Int, x1 = jm_wl ((jm_wl ((jm_wl (27 * (jm_wl (v0 - 96)))) + v1)) - 96) →
  ((v2 ≤ 0 →
    ((v3 ≤ 0 →
      Q (some (jm_L x1)) μ) ∧
     (¬ (v3 ≤ 0) →
      Q (some (jm_L (jm_wl ((jm_wl ((jm_wl (27 * x1)) + v3)) - 96)))) μ))) ∧
   (¬ (v2 ≤ 0) →
    ∀ x4 : Int, x4 = jm_wl ((jm_wl ((jm_wl (27 * x1)) + v2)) - 96) →
    ((v3 ≤ 0 →
      Q (some (jm_L x4)) μ) ∧
     (¬ (v3 ≤ 0) →
      Q (some (jm_L (jm_wl ((jm_wl ((jm_wl (27 * x4)) + v3)) - 96)))) μ))))) : jc E m_X11_spelt (d + 1) [jm_I v0, jm_I v1, jm_I v2, jm_I v3] μ Q := by
  refine jm_Cl.of2 (by decide +kernel) (L0 := [some (jm_I v0), some (jm_I v1), some (jm_I v2), some (jm_I v3), none, none]) rfl (Nat.le_of_ble_eq_true rfl) (fun hok => ?_)
  have h := h hok
  refine jm_ldc2 (v := 27) d_X11_spelt_0 k_X11_152 (jm_okL (by decide) (by decide)) ?_
  refine jm_iloadn d_X11_spelt_3 rfl ?_
  refine jm_i2l d_X11_spelt_4 ?_
  refine jm_ldc2 (v := 96) d_X11_spelt_5 k_X11_154 (jm_okL (by decide) (by decide)) ?_
  refine jm_lsub d_X11_spelt_8 ?_
  refine jm_lmul d_X11_spelt_9 ?_
  refine jm_iloadn d_X11_spelt_10 rfl ?_
  refine jm_i2l d_X11_spelt_11 ?_
  refine jm_ladd d_X11_spelt_12 ?_
  refine jm_ldc2 (v := 96) d_X11_spelt_13 k_X11_154 (jm_okL (by decide) (by decide)) ?_
  refine jm_lsub d_X11_spelt_16 ?_
  have h := h _ rfl
  refine jm_lstore (L' := [some (jm_I _), some (jm_I _), some (jm_I _), some (jm_I _), some (jm_L _), none]) d_X11_spelt_17 (Nat.le_of_ble_eq_true rfl) rfl ?_
  refine jm_iloadn d_X11_spelt_19 rfl ?_
  refine jm_if_le (tgt := 38) d_X11_spelt_20 (by decide) (fun c2 => ?_) (fun c2 => ?_)
  · have h := h.1 c2
    refine jm_iloadn d_X11_spelt_38 rfl ?_
    refine jm_if_le (tgt := 58) d_X11_spelt_39 (by decide) (fun c3 => ?_) (fun c3 => ?_)
    · have h := h.1 c3
      refine jm_lload d_X11_spelt_58 rfl ?_
      exact jm_ret (o := some (jm_L _)) d_X11_spelt_60 rfl ⟨Nat.le_refl _, Nat.le_refl _⟩ jm_r_L h rfl
    · have h := h.2 c3
      refine jm_ldc2 (v := 27) d_X11_spelt_42 k_X11_152 (jm_okL (by decide) (by decide)) ?_
      refine jm_lload d_X11_spelt_45 rfl ?_
      refine jm_lmul d_X11_spelt_47 ?_
      refine jm_iloadn d_X11_spelt_48 rfl ?_
      refine jm_i2l d_X11_spelt_49 ?_
      refine jm_ladd d_X11_spelt_50 ?_
      refine jm_ldc2 (v := 96) d_X11_spelt_51 k_X11_154 (jm_okL (by decide) (by decide)) ?_
      refine jm_lsub d_X11_spelt_54 ?_
      refine jm_goto (tgt := 60) d_X11_spelt_55 (by decide) ?_
      exact jm_ret (o := some (jm_L _)) d_X11_spelt_60 rfl ⟨Nat.le_refl _, Nat.le_refl _⟩ jm_r_L h rfl
  · have h := h.2 c2
    refine jm_ldc2 (v := 27) d_X11_spelt_23 k_X11_152 (jm_okL (by decide) (by decide)) ?_
    refine jm_lload d_X11_spelt_26 rfl ?_
    refine jm_lmul d_X11_spelt_28 ?_
    refine jm_iloadn d_X11_spelt_29 rfl ?_
    refine jm_i2l d_X11_spelt_30 ?_
    refine jm_ladd d_X11_spelt_31 ?_
    refine jm_ldc2 (v := 96) d_X11_spelt_32 k_X11_154 (jm_okL (by decide) (by decide)) ?_
    refine jm_lsub d_X11_spelt_35 ?_
    have h := h _ rfl
    refine jm_lstore (L' := [some (jm_I _), some (jm_I _), some (jm_I _), some (jm_I _), some (jm_L _), none]) d_X11_spelt_36 (Nat.le_of_ble_eq_true rfl) rfl ?_
    refine jm_iloadn d_X11_spelt_38 rfl ?_
    refine jm_if_le (tgt := 58) d_X11_spelt_39 (by decide) (fun c5 => ?_) (fun c5 => ?_)
    · have h := h.1 c5
      refine jm_lload d_X11_spelt_58 rfl ?_
      exact jm_ret (o := some (jm_L _)) d_X11_spelt_60 rfl ⟨Nat.le_refl _, Nat.le_refl _⟩ jm_r_L h rfl
    · have h := h.2 c5
      refine jm_ldc2 (v := 27) d_X11_spelt_42 k_X11_152 (jm_okL (by decide) (by decide)) ?_
      refine jm_lload d_X11_spelt_45 rfl ?_
      refine jm_lmul d_X11_spelt_47 ?_
      refine jm_iloadn d_X11_spelt_48 rfl ?_
      refine jm_i2l d_X11_spelt_49 ?_
      refine jm_ladd d_X11_spelt_50 ?_
      refine jm_ldc2 (v := 96) d_X11_spelt_51 k_X11_154 (jm_okL (by decide) (by decide)) ?_
      refine jm_lsub d_X11_spelt_54 ?_
      refine jm_goto (tgt := 60) d_X11_spelt_55 (by decide) ?_
      exact jm_ret (o := some (jm_L _)) d_X11_spelt_60 rfl ⟨Nat.le_refl _, Nat.le_refl _⟩ jm_r_L h rfl
/-! ('CombTableModel', 'on', '(JIII)J') -/
theorem d_X11_on_0 : decode m_X11_on.2.1 0 = .ok (.ldc2_w 152, 3) := by decide +kernel
theorem d_X11_on_3 : decode m_X11_on.2.1 3 = .ok (.lload_n 0, 1) := by decide +kernel
theorem d_X11_on_4 : decode m_X11_on.2.1 4 = .ok (.lmul, 1) := by decide +kernel
theorem d_X11_on_5 : decode m_X11_on.2.1 5 = .ok (.iload_n 2, 1) := by decide +kernel
theorem d_X11_on_6 : decode m_X11_on.2.1 6 = .ok (.i2l, 1) := by decide +kernel
theorem d_X11_on_7 : decode m_X11_on.2.1 7 = .ok (.ladd, 1) := by decide +kernel
theorem d_X11_on_8 : decode m_X11_on.2.1 8 = .ok (.ldc2_w 154, 3) := by decide +kernel
theorem d_X11_on_11 : decode m_X11_on.2.1 11 = .ok (.lsub, 1) := by decide +kernel
theorem d_X11_on_12 : decode m_X11_on.2.1 12 = .ok (.lstore 5, 2) := by decide +kernel
theorem d_X11_on_14 : decode m_X11_on.2.1 14 = .ok (.iload_n 3, 1) := by decide +kernel
theorem d_X11_on_15 : decode m_X11_on.2.1 15 = .ok (.ifCond .le 18, 3) := by decide +kernel
theorem d_X11_on_18 : decode m_X11_on.2.1 18 = .ok (.ldc2_w 152, 3) := by decide +kernel
theorem d_X11_on_21 : decode m_X11_on.2.1 21 = .ok (.lload 5, 2) := by decide +kernel
theorem d_X11_on_23 : decode m_X11_on.2.1 23 = .ok (.lmul, 1) := by decide +kernel
theorem d_X11_on_24 : decode m_X11_on.2.1 24 = .ok (.iload_n 3, 1) := by decide +kernel
theorem d_X11_on_25 : decode m_X11_on.2.1 25 = .ok (.i2l, 1) := by decide +kernel
theorem d_X11_on_26 : decode m_X11_on.2.1 26 = .ok (.ladd, 1) := by decide +kernel
theorem d_X11_on_27 : decode m_X11_on.2.1 27 = .ok (.ldc2_w 154, 3) := by decide +kernel
theorem d_X11_on_30 : decode m_X11_on.2.1 30 = .ok (.lsub, 1) := by decide +kernel
theorem d_X11_on_31 : decode m_X11_on.2.1 31 = .ok (.lstore 5, 2) := by decide +kernel
theorem d_X11_on_33 : decode m_X11_on.2.1 33 = .ok (.iload 4, 2) := by decide +kernel
theorem d_X11_on_35 : decode m_X11_on.2.1 35 = .ok (.ifCond .le 20, 3) := by decide +kernel
theorem d_X11_on_38 : decode m_X11_on.2.1 38 = .ok (.ldc2_w 152, 3) := by decide +kernel
theorem d_X11_on_41 : decode m_X11_on.2.1 41 = .ok (.lload 5, 2) := by decide +kernel
theorem d_X11_on_43 : decode m_X11_on.2.1 43 = .ok (.lmul, 1) := by decide +kernel
theorem d_X11_on_44 : decode m_X11_on.2.1 44 = .ok (.iload 4, 2) := by decide +kernel
theorem d_X11_on_46 : decode m_X11_on.2.1 46 = .ok (.i2l, 1) := by decide +kernel
theorem d_X11_on_47 : decode m_X11_on.2.1 47 = .ok (.ladd, 1) := by decide +kernel
theorem d_X11_on_48 : decode m_X11_on.2.1 48 = .ok (.ldc2_w 154, 3) := by decide +kernel
theorem d_X11_on_51 : decode m_X11_on.2.1 51 = .ok (.lsub, 1) := by decide +kernel
theorem d_X11_on_52 : decode m_X11_on.2.1 52 = .ok (.goto 5, 3) := by decide +kernel
theorem d_X11_on_55 : decode m_X11_on.2.1 55 = .ok (.lload 5, 2) := by decide +kernel
theorem d_X11_on_57 : decode m_X11_on.2.1 57 = .ok (.lreturn, 1) := by decide +kernel
set_option maxRecDepth 20000 in
theorem e_X11_on {E : jm_E} {d : Nat} {μ : jm_M} {Q : Option jm_V → jm_M → Prop} {v0 v2 v3 v4 : Int} (h : (∀ v ∈ ([jm_L v0, jm_I v2, jm_I v3, jm_I v4] : List jm_V), jm_ok v) →
  ∀ x1 : Int, x1 = jm_wl ((jm_wl ((jm_wl (27 * v0)) + v2)) - 96) →
  ((v3 ≤ 0 →
    ((v4 ≤ 0 →
      Q (some (jm_L x1)) μ) ∧
     (¬ (v4 ≤ 0) →
      Q (some (jm_L (jm_wl ((jm_wl ((jm_wl (27 * x1)) + v4)) - 96)))) μ))) ∧
   (¬ (v3 ≤ 0) →
    ∀ x4 : Int, x4 = jm_wl ((jm_wl ((jm_wl (27 * x1)) + v3)) - 96) →
    ((v4 ≤ 0 →
      Q (some (jm_L x4)) μ) ∧
     (¬ (v4 ≤ 0) →
      Q (some (jm_L (jm_wl ((jm_wl ((jm_wl (27 * x4)) + v4)) - 96)))) μ))))) : jc E m_X11_on (d + 1) [jm_L v0, jm_I v2, jm_I v3, jm_I v4] μ Q := by
  refine jm_Cl.of2 (by decide +kernel) (L0 := [some (jm_L v0), none, some (jm_I v2), some (jm_I v3), some (jm_I v4), none, none]) rfl (Nat.le_of_ble_eq_true rfl) (fun hok => ?_)
  have h := h hok
  refine jm_ldc2 (v := 27) d_X11_on_0 k_X11_152 (jm_okL (by decide) (by decide)) ?_
  refine jm_lloadn d_X11_on_3 rfl ?_
  refine jm_lmul d_X11_on_4 ?_
  refine jm_iloadn d_X11_on_5 rfl ?_
  refine jm_i2l d_X11_on_6 ?_
  refine jm_ladd d_X11_on_7 ?_
  refine jm_ldc2 (v := 96) d_X11_on_8 k_X11_154 (jm_okL (by decide) (by decide)) ?_
  refine jm_lsub d_X11_on_11 ?_
  have h := h _ rfl
  refine jm_lstore (L' := [some (jm_L _), none, some (jm_I _), some (jm_I _), some (jm_I _), some (jm_L _), none]) d_X11_on_12 (Nat.le_of_ble_eq_true rfl) rfl ?_
  refine jm_iloadn d_X11_on_14 rfl ?_
  refine jm_if_le (tgt := 33) d_X11_on_15 (by decide) (fun c2 => ?_) (fun c2 => ?_)
  · have h := h.1 c2
    refine jm_iload d_X11_on_33 rfl ?_
    refine jm_if_le (tgt := 55) d_X11_on_35 (by decide) (fun c3 => ?_) (fun c3 => ?_)
    · have h := h.1 c3
      refine jm_lload d_X11_on_55 rfl ?_
      exact jm_ret (o := some (jm_L _)) d_X11_on_57 rfl ⟨Nat.le_refl _, Nat.le_refl _⟩ jm_r_L h rfl
    · have h := h.2 c3
      refine jm_ldc2 (v := 27) d_X11_on_38 k_X11_152 (jm_okL (by decide) (by decide)) ?_
      refine jm_lload d_X11_on_41 rfl ?_
      refine jm_lmul d_X11_on_43 ?_
      refine jm_iload d_X11_on_44 rfl ?_
      refine jm_i2l d_X11_on_46 ?_
      refine jm_ladd d_X11_on_47 ?_
      refine jm_ldc2 (v := 96) d_X11_on_48 k_X11_154 (jm_okL (by decide) (by decide)) ?_
      refine jm_lsub d_X11_on_51 ?_
      refine jm_goto (tgt := 57) d_X11_on_52 (by decide) ?_
      exact jm_ret (o := some (jm_L _)) d_X11_on_57 rfl ⟨Nat.le_refl _, Nat.le_refl _⟩ jm_r_L h rfl
  · have h := h.2 c2
    refine jm_ldc2 (v := 27) d_X11_on_18 k_X11_152 (jm_okL (by decide) (by decide)) ?_
    refine jm_lload d_X11_on_21 rfl ?_
    refine jm_lmul d_X11_on_23 ?_
    refine jm_iloadn d_X11_on_24 rfl ?_
    refine jm_i2l d_X11_on_25 ?_
    refine jm_ladd d_X11_on_26 ?_
    refine jm_ldc2 (v := 96) d_X11_on_27 k_X11_154 (jm_okL (by decide) (by decide)) ?_
    refine jm_lsub d_X11_on_30 ?_
    have h := h _ rfl
    refine jm_lstore (L' := [some (jm_L _), none, some (jm_I _), some (jm_I _), some (jm_I _), some (jm_L _), none]) d_X11_on_31 (Nat.le_of_ble_eq_true rfl) rfl ?_
    refine jm_iload d_X11_on_33 rfl ?_
    refine jm_if_le (tgt := 55) d_X11_on_35 (by decide) (fun c5 => ?_) (fun c5 => ?_)
    · have h := h.1 c5
      refine jm_lload d_X11_on_55 rfl ?_
      exact jm_ret (o := some (jm_L _)) d_X11_on_57 rfl ⟨Nat.le_refl _, Nat.le_refl _⟩ jm_r_L h rfl
    · have h := h.2 c5
      refine jm_ldc2 (v := 27) d_X11_on_38 k_X11_152 (jm_okL (by decide) (by decide)) ?_
      refine jm_lload d_X11_on_41 rfl ?_
      refine jm_lmul d_X11_on_43 ?_
      refine jm_iload d_X11_on_44 rfl ?_
      refine jm_i2l d_X11_on_46 ?_
      refine jm_ladd d_X11_on_47 ?_
      refine jm_ldc2 (v := 96) d_X11_on_48 k_X11_154 (jm_okL (by decide) (by decide)) ?_
      refine jm_lsub d_X11_on_51 ?_
      refine jm_goto (tgt := 57) d_X11_on_52 (by decide) ?_
      exact jm_ret (o := some (jm_L _)) d_X11_on_57 rfl ⟨Nat.le_refl _, Nat.le_refl _⟩ jm_r_L h rfl
/-! ('CombTableModel', 'wordOf', '(I)J') -/
theorem d_X11_wordOf_0 : decode m_X11_wordOf.2.1 0 = .ok (.iload_n 0, 1) := by decide +kernel
theorem d_X11_wordOf_1 : decode m_X11_wordOf.2.1 1 = .ok (.tableswitch 476 0 23 #[111, 122, 134, 145, 157, 176, 195, 214, 234, 246, 266, 287, 306, 326, 345, 356, 366, 377, 388, 398, 408, 418, 437, 457], 111) := by decide +kernel
theorem d_X11_wordOf_112 : decode m_X11_wordOf.2.1 112 = .ok (.bipush 119, 2) := by decide +kernel
theorem d_X11_wordOf_114 : decode m_X11_wordOf.2.1 114 = .ok (.bipush 104, 2) := by decide +kernel
theorem d_X11_wordOf_116 : decode m_X11_wordOf.2.1 116 = .ok (.bipush 111, 2) := by decide +kernel
theorem d_X11_wordOf_118 : decode m_X11_wordOf.2.1 118 = .ok (.iconst 0, 1) := by decide +kernel
theorem d_X11_wordOf_119 : decode m_X11_wordOf.2.1 119 = .ok (.invokestatic 156, 3) := by decide +kernel
theorem d_X11_wordOf_122 : decode m_X11_wordOf.2.1 122 = .ok (.lreturn, 1) := by decide +kernel
theorem d_X11_wordOf_123 : decode m_X11_wordOf.2.1 123 = .ok (.bipush 107, 2) := by decide +kernel
theorem d_X11_wordOf_125 : decode m_X11_wordOf.2.1 125 = .ok (.bipush 105, 2) := by decide +kernel
theorem d_X11_wordOf_127 : decode m_X11_wordOf.2.1 127 = .ok (.bipush 110, 2) := by decide +kernel
theorem d_X11_wordOf_129 : decode m_X11_wordOf.2.1 129 = .ok (.bipush 100, 2) := by decide +kernel
theorem d_X11_wordOf_131 : decode m_X11_wordOf.2.1 131 = .ok (.invokestatic 156, 3) := by decide +kernel
theorem d_X11_wordOf_134 : decode m_X11_wordOf.2.1 134 = .ok (.lreturn, 1) := by decide +kernel
theorem d_X11_wordOf_135 : decode m_X11_wordOf.2.1 135 = .ok (.bipush 109, 2) := by decide +kernel
theorem d_X11_wordOf_137 : decode m_X11_wordOf.2.1 137 = .ok (.bipush 97, 2) := by decide +kernel
theorem d_X11_wordOf_139 : decode m_X11_wordOf.2.1 139 = .ok (.bipush 121, 2) := by decide +kernel
theorem d_X11_wordOf_141 : decode m_X11_wordOf.2.1 141 = .ok (.iconst 0, 1) := by decide +kernel
theorem d_X11_wordOf_142 : decode m_X11_wordOf.2.1 142 = .ok (.invokestatic 156, 3) := by decide +kernel
theorem d_X11_wordOf_145 : decode m_X11_wordOf.2.1 145 = .ok (.lreturn, 1) := by decide +kernel
theorem d_X11_wordOf_146 : decode m_X11_wordOf.2.1 146 = .ok (.bipush 99, 2) := by decide +kernel
theorem d_X11_wordOf_148 : decode m_X11_wordOf.2.1 148 = .ok (.bipush 111, 2) := by decide +kernel
theorem d_X11_wordOf_150 : decode m_X11_wordOf.2.1 150 = .ok (.bipush 109, 2) := by decide +kernel
theorem d_X11_wordOf_152 : decode m_X11_wordOf.2.1 152 = .ok (.bipush 98, 2) := by decide +kernel
theorem d_X11_wordOf_154 : decode m_X11_wordOf.2.1 154 = .ok (.invokestatic 156, 3) := by decide +kernel
theorem d_X11_wordOf_157 : decode m_X11_wordOf.2.1 157 = .ok (.lreturn, 1) := by decide +kernel
theorem d_X11_wordOf_158 : decode m_X11_wordOf.2.1 158 = .ok (.bipush 114, 2) := by decide +kernel
theorem d_X11_wordOf_160 : decode m_X11_wordOf.2.1 160 = .ok (.bipush 97, 2) := by decide +kernel
theorem d_X11_wordOf_162 : decode m_X11_wordOf.2.1 162 = .ok (.bipush 110, 2) := by decide +kernel
theorem d_X11_wordOf_164 : decode m_X11_wordOf.2.1 164 = .ok (.bipush 107, 2) := by decide +kernel
theorem d_X11_wordOf_166 : decode m_X11_wordOf.2.1 166 = .ok (.invokestatic 156, 3) := by decide +kernel
theorem d_X11_wordOf_169 : decode m_X11_wordOf.2.1 169 = .ok (.bipush 115, 2) := by decide +kernel
theorem d_X11_wordOf_171 : decode m_X11_wordOf.2.1 171 = .ok (.iconst 0, 1) := by decide +kernel
theorem d_X11_wordOf_172 : decode m_X11_wordOf.2.1 172 = .ok (.iconst 0, 1) := by decide +kernel
theorem d_X11_wordOf_173 : decode m_X11_wordOf.2.1 173 = .ok (.invokestatic 160, 3) := by decide +kernel
theorem d_X11_wordOf_176 : decode m_X11_wordOf.2.1 176 = .ok (.lreturn, 1) := by decide +kernel
theorem d_X11_wordOf_177 : decode m_X11_wordOf.2.1 177 = .ok (.bipush 116, 2) := by decide +kernel
theorem d_X11_wordOf_179 : decode m_X11_wordOf.2.1 179 = .ok (.bipush 119, 2) := by decide +kernel
theorem d_X11_wordOf_181 : decode m_X11_wordOf.2.1 181 = .ok (.bipush 105, 2) := by decide +kernel
theorem d_X11_wordOf_183 : decode m_X11_wordOf.2.1 183 = .ok (.bipush 99, 2) := by decide +kernel
theorem d_X11_wordOf_185 : decode m_X11_wordOf.2.1 185 = .ok (.invokestatic 156, 3) := by decide +kernel
theorem d_X11_wordOf_188 : decode m_X11_wordOf.2.1 188 = .ok (.bipush 101, 2) := by decide +kernel
theorem d_X11_wordOf_190 : decode m_X11_wordOf.2.1 190 = .ok (.iconst 0, 1) := by decide +kernel
theorem d_X11_wordOf_191 : decode m_X11_wordOf.2.1 191 = .ok (.iconst 0, 1) := by decide +kernel
theorem d_X11_wordOf_192 : decode m_X11_wordOf.2.1 192 = .ok (.invokestatic 160, 3) := by decide +kernel
theorem d_X11_wordOf_195 : decode m_X11_wordOf.2.1 195 = .ok (.lreturn, 1) := by decide +kernel
theorem d_X11_wordOf_196 : decode m_X11_wordOf.2.1 196 = .ok (.bipush 111, 2) := by decide +kernel
theorem d_X11_wordOf_198 : decode m_X11_wordOf.2.1 198 = .ok (.bipush 112, 2) := by decide +kernel
theorem d_X11_wordOf_200 : decode m_X11_wordOf.2.1 200 = .ok (.bipush 101, 2) := by decide +kernel
theorem d_X11_wordOf_202 : decode m_X11_wordOf.2.1 202 = .ok (.bipush 110, 2) := by decide +kernel
theorem d_X11_wordOf_204 : decode m_X11_wordOf.2.1 204 = .ok (.invokestatic 156, 3) := by decide +kernel
theorem d_X11_wordOf_207 : decode m_X11_wordOf.2.1 207 = .ok (.bipush 115, 2) := by decide +kernel
theorem d_X11_wordOf_209 : decode m_X11_wordOf.2.1 209 = .ok (.iconst 0, 1) := by decide +kernel
theorem d_X11_wordOf_210 : decode m_X11_wordOf.2.1 210 = .ok (.iconst 0, 1) := by decide +kernel
theorem d_X11_wordOf_211 : decode m_X11_wordOf.2.1 211 = .ok (.invokestatic 160, 3) := by decide +kernel
theorem d_X11_wordOf_214 : decode m_X11_wordOf.2.1 214 = .ok (.lreturn, 1) := by decide +kernel
theorem d_X11_wordOf_215 : decode m_X11_wordOf.2.1 215 = .ok (.bipush 98, 2) := by decide +kernel
theorem d_X11_wordOf_217 : decode m_X11_wordOf.2.1 217 = .ok (.bipush 101, 2) := by decide +kernel
theorem d_X11_wordOf_219 : decode m_X11_wordOf.2.1 219 = .ok (.bipush 103, 2) := by decide +kernel
theorem d_X11_wordOf_221 : decode m_X11_wordOf.2.1 221 = .ok (.bipush 105, 2) := by decide +kernel
theorem d_X11_wordOf_223 : decode m_X11_wordOf.2.1 223 = .ok (.invokestatic 156, 3) := by decide +kernel
theorem d_X11_wordOf_226 : decode m_X11_wordOf.2.1 226 = .ok (.bipush 110, 2) := by decide +kernel
theorem d_X11_wordOf_228 : decode m_X11_wordOf.2.1 228 = .ok (.bipush 115, 2) := by decide +kernel
theorem d_X11_wordOf_230 : decode m_X11_wordOf.2.1 230 = .ok (.iconst 0, 1) := by decide +kernel
theorem d_X11_wordOf_231 : decode m_X11_wordOf.2.1 231 = .ok (.invokestatic 160, 3) := by decide +kernel
theorem d_X11_wordOf_234 : decode m_X11_wordOf.2.1 234 = .ok (.lreturn, 1) := by decide +kernel
theorem d_X11_wordOf_235 : decode m_X11_wordOf.2.1 235 = .ok (.bipush 97, 2) := by decide +kernel
theorem d_X11_wordOf_237 : decode m_X11_wordOf.2.1 237 = .ok (.bipush 115, 2) := by decide +kernel
theorem d_X11_wordOf_239 : decode m_X11_wordOf.2.1 239 = .ok (.bipush 107, 2) := by decide +kernel
theorem d_X11_wordOf_241 : decode m_X11_wordOf.2.1 241 = .ok (.bipush 115, 2) := by decide +kernel
theorem d_X11_wordOf_243 : decode m_X11_wordOf.2.1 243 = .ok (.invokestatic 156, 3) := by decide +kernel
theorem d_X11_wordOf_246 : decode m_X11_wordOf.2.1 246 = .ok (.lreturn, 1) := by decide +kernel
theorem d_X11_wordOf_247 : decode m_X11_wordOf.2.1 247 = .ok (.bipush 103, 2) := by decide +kernel
theorem d_X11_wordOf_249 : decode m_X11_wordOf.2.1 249 = .ok (.bipush 114, 2) := by decide +kernel
theorem d_X11_wordOf_251 : decode m_X11_wordOf.2.1 251 = .ok (.bipush 97, 2) := by decide +kernel
theorem d_X11_wordOf_253 : decode m_X11_wordOf.2.1 253 = .ok (.bipush 110, 2) := by decide +kernel
theorem d_X11_wordOf_255 : decode m_X11_wordOf.2.1 255 = .ok (.invokestatic 156, 3) := by decide +kernel
theorem d_X11_wordOf_258 : decode m_X11_wordOf.2.1 258 = .ok (.bipush 116, 2) := by decide +kernel
theorem d_X11_wordOf_260 : decode m_X11_wordOf.2.1 260 = .ok (.bipush 115, 2) := by decide +kernel
theorem d_X11_wordOf_262 : decode m_X11_wordOf.2.1 262 = .ok (.iconst 0, 1) := by decide +kernel
theorem d_X11_wordOf_263 : decode m_X11_wordOf.2.1 263 = .ok (.invokestatic 160, 3) := by decide +kernel
theorem d_X11_wordOf_266 : decode m_X11_wordOf.2.1 266 = .ok (.lreturn, 1) := by decide +kernel
theorem d_X11_wordOf_267 : decode m_X11_wordOf.2.1 267 = .ok (.bipush 114, 2) := by decide +kernel
theorem d_X11_wordOf_269 : decode m_X11_wordOf.2.1 269 = .ok (.bipush 101, 2) := by decide +kernel
theorem d_X11_wordOf_271 : decode m_X11_wordOf.2.1 271 = .ok (.bipush 102, 2) := by decide +kernel
theorem d_X11_wordOf_273 : decode m_X11_wordOf.2.1 273 = .ok (.bipush 117, 2) := by decide +kernel
theorem d_X11_wordOf_275 : decode m_X11_wordOf.2.1 275 = .ok (.invokestatic 156, 3) := by decide +kernel
theorem d_X11_wordOf_278 : decode m_X11_wordOf.2.1 278 = .ok (.bipush 115, 2) := by decide +kernel
theorem d_X11_wordOf_280 : decode m_X11_wordOf.2.1 280 = .ok (.bipush 101, 2) := by decide +kernel
theorem d_X11_wordOf_282 : decode m_X11_wordOf.2.1 282 = .ok (.bipush 115, 2) := by decide +kernel
theorem d_X11_wordOf_284 : decode m_X11_wordOf.2.1 284 = .ok (.invokestatic 160, 3) := by decide +kernel
theorem d_X11_wordOf_287 : decode m_X11_wordOf.2.1 287 = .ok (.lreturn, 1) := by decide +kernel
theorem d_X11_wordOf_288 : decode m_X11_wordOf.2.1 288 = .ok (.bipush 107, 2) := by decide +kernel
theorem d_X11_wordOf_290 : decode m_X11_wordOf.2.1 290 = .ok (.bipush 101, 2) := by decide +kernel
theorem d_X11_wordOf_292 : decode m_X11_wordOf.2.1 292 = .ok (.bipush 101, 2) := by decide +kernel
theorem d_X11_wordOf_294 : decode m_X11_wordOf.2.1 294 = .ok (.bipush 112, 2) := by decide +kernel
theorem d_X11_wordOf_296 : decode m_X11_wordOf.2.1 296 = .ok (.invokestatic 156, 3) := by decide +kernel
theorem d_X11_wordOf_299 : decode m_X11_wordOf.2.1 299 = .ok (.bipush 115, 2) := by decide +kernel
theorem d_X11_wordOf_301 : decode m_X11_wordOf.2.1 301 = .ok (.iconst 0, 1) := by decide +kernel
theorem d_X11_wordOf_302 : decode m_X11_wordOf.2.1 302 = .ok (.iconst 0, 1) := by decide +kernel
theorem d_X11_wordOf_303 : decode m_X11_wordOf.2.1 303 = .ok (.invokestatic 160, 3) := by decide +kernel
theorem d_X11_wordOf_306 : decode m_X11_wordOf.2.1 306 = .ok (.lreturn, 1) := by decide +kernel
theorem d_X11_wordOf_307 : decode m_X11_wordOf.2.1 307 = .ok (.bipush 98, 2) := by decide +kernel
theorem d_X11_wordOf_309 : decode m_X11_wordOf.2.1 309 = .ok (.bipush 114, 2) := by decide +kernel
theorem d_X11_wordOf_311 : decode m_X11_wordOf.2.1 311 = .ok (.bipush 101, 2) := by decide +kernel
theorem d_X11_wordOf_313 : decode m_X11_wordOf.2.1 313 = .ok (.bipush 97, 2) := by decide +kernel
theorem d_X11_wordOf_315 : decode m_X11_wordOf.2.1 315 = .ok (.invokestatic 156, 3) := by decide +kernel
theorem d_X11_wordOf_318 : decode m_X11_wordOf.2.1 318 = .ok (.bipush 107, 2) := by decide +kernel
theorem d_X11_wordOf_320 : decode m_X11_wordOf.2.1 320 = .ok (.bipush 115, 2) := by decide +kernel
theorem d_X11_wordOf_322 : decode m_X11_wordOf.2.1 322 = .ok (.iconst 0, 1) := by decide +kernel
theorem d_X11_wordOf_323 : decode m_X11_wordOf.2.1 323 = .ok (.invokestatic 160, 3) := by decide +kernel
theorem d_X11_wordOf_326 : decode m_X11_wordOf.2.1 326 = .ok (.lreturn, 1) := by decide +kernel
theorem d_X11_wordOf_327 : decode m_X11_wordOf.2.1 327 = .ok (.bipush 102, 2) := by decide +kernel
theorem d_X11_wordOf_329 : decode m_X11_wordOf.2.1 329 = .ok (.bipush 114, 2) := by decide +kernel
theorem d_X11_wordOf_331 : decode m_X11_wordOf.2.1 331 = .ok (.bipush 101, 2) := by decide +kernel
theorem d_X11_wordOf_333 : decode m_X11_wordOf.2.1 333 = .ok (.bipush 101, 2) := by decide +kernel
theorem d_X11_wordOf_335 : decode m_X11_wordOf.2.1 335 = .ok (.invokestatic 156, 3) := by decide +kernel
theorem d_X11_wordOf_338 : decode m_X11_wordOf.2.1 338 = .ok (.bipush 115, 2) := by decide +kernel
theorem d_X11_wordOf_340 : decode m_X11_wordOf.2.1 340 = .ok (.iconst 0, 1) := by decide +kernel
theorem d_X11_wordOf_341 : decode m_X11_wordOf.2.1 341 = .ok (.iconst 0, 1) := by decide +kernel
theorem d_X11_wordOf_342 : decode m_X11_wordOf.2.1 342 = .ok (.invokestatic 160, 3) := by decide +kernel
theorem d_X11_wordOf_345 : decode m_X11_wordOf.2.1 345 = .ok (.lreturn, 1) := by decide +kernel
theorem d_X11_wordOf_346 : decode m_X11_wordOf.2.1 346 = .ok (.bipush 97, 2) := by decide +kernel
theorem d_X11_wordOf_348 : decode m_X11_wordOf.2.1 348 = .ok (.bipush 110, 2) := by decide +kernel
theorem d_X11_wordOf_350 : decode m_X11_wordOf.2.1 350 = .ok (.bipush 121, 2) := by decide +kernel
theorem d_X11_wordOf_352 : decode m_X11_wordOf.2.1 352 = .ok (.iconst 0, 1) := by decide +kernel
theorem d_X11_wordOf_353 : decode m_X11_wordOf.2.1 353 = .ok (.invokestatic 156, 3) := by decide +kernel
theorem d_X11_wordOf_356 : decode m_X11_wordOf.2.1 356 = .ok (.lreturn, 1) := by decide +kernel
theorem d_X11_wordOf_357 : decode m_X11_wordOf.2.1 357 = .ok (.bipush 111, 2) := by decide +kernel
theorem d_X11_wordOf_359 : decode m_X11_wordOf.2.1 359 = .ok (.bipush 114, 2) := by decide +kernel
theorem d_X11_wordOf_361 : decode m_X11_wordOf.2.1 361 = .ok (.iconst 0, 1) := by decide +kernel
theorem d_X11_wordOf_362 : decode m_X11_wordOf.2.1 362 = .ok (.iconst 0, 1) := by decide +kernel
theorem d_X11_wordOf_363 : decode m_X11_wordOf.2.1 363 = .ok (.invokestatic 156, 3) := by decide +kernel
theorem d_X11_wordOf_366 : decode m_X11_wordOf.2.1 366 = .ok (.lreturn, 1) := by decide +kernel
theorem d_X11_wordOf_367 : decode m_X11_wordOf.2.1 367 = .ok (.bipush 97, 2) := by decide +kernel
theorem d_X11_wordOf_369 : decode m_X11_wordOf.2.1 369 = .ok (.bipush 110, 2) := by decide +kernel
theorem d_X11_wordOf_371 : decode m_X11_wordOf.2.1 371 = .ok (.bipush 100, 2) := by decide +kernel
theorem d_X11_wordOf_373 : decode m_X11_wordOf.2.1 373 = .ok (.iconst 0, 1) := by decide +kernel
theorem d_X11_wordOf_374 : decode m_X11_wordOf.2.1 374 = .ok (.invokestatic 156, 3) := by decide +kernel
theorem d_X11_wordOf_377 : decode m_X11_wordOf.2.1 377 = .ok (.lreturn, 1) := by decide +kernel
theorem d_X11_wordOf_378 : decode m_X11_wordOf.2.1 378 = .ok (.bipush 110, 2) := by decide +kernel
theorem d_X11_wordOf_380 : decode m_X11_wordOf.2.1 380 = .ok (.bipush 111, 2) := by decide +kernel
theorem d_X11_wordOf_382 : decode m_X11_wordOf.2.1 382 = .ok (.bipush 116, 2) := by decide +kernel
theorem d_X11_wordOf_384 : decode m_X11_wordOf.2.1 384 = .ok (.iconst 0, 1) := by decide +kernel
theorem d_X11_wordOf_385 : decode m_X11_wordOf.2.1 385 = .ok (.invokestatic 156, 3) := by decide +kernel
theorem d_X11_wordOf_388 : decode m_X11_wordOf.2.1 388 = .ok (.lreturn, 1) := by decide +kernel
theorem d_X11_wordOf_389 : decode m_X11_wordOf.2.1 389 = .ok (.bipush 98, 2) := by decide +kernel
theorem d_X11_wordOf_391 : decode m_X11_wordOf.2.1 391 = .ok (.bipush 121, 2) := by decide +kernel
theorem d_X11_wordOf_393 : decode m_X11_wordOf.2.1 393 = .ok (.iconst 0, 1) := by decide +kernel
theorem d_X11_wordOf_394 : decode m_X11_wordOf.2.1 394 = .ok (.iconst 0, 1) := by decide +kernel
theorem d_X11_wordOf_395 : decode m_X11_wordOf.2.1 395 = .ok (.invokestatic 156, 3) := by decide +kernel
theorem d_X11_wordOf_398 : decode m_X11_wordOf.2.1 398 = .ok (.lreturn, 1) := by decide +kernel
theorem d_X11_wordOf_399 : decode m_X11_wordOf.2.1 399 = .ok (.bipush 116, 2) := by decide +kernel
theorem d_X11_wordOf_401 : decode m_X11_wordOf.2.1 401 = .ok (.bipush 111, 2) := by decide +kernel
theorem d_X11_wordOf_403 : decode m_X11_wordOf.2.1 403 = .ok (.iconst 0, 1) := by decide +kernel
theorem d_X11_wordOf_404 : decode m_X11_wordOf.2.1 404 = .ok (.iconst 0, 1) := by decide +kernel
theorem d_X11_wordOf_405 : decode m_X11_wordOf.2.1 405 = .ok (.invokestatic 156, 3) := by decide +kernel
theorem d_X11_wordOf_408 : decode m_X11_wordOf.2.1 408 = .ok (.lreturn, 1) := by decide +kernel
theorem d_X11_wordOf_409 : decode m_X11_wordOf.2.1 409 = .ok (.bipush 105, 2) := by decide +kernel
theorem d_X11_wordOf_411 : decode m_X11_wordOf.2.1 411 = .ok (.bipush 115, 2) := by decide +kernel
theorem d_X11_wordOf_413 : decode m_X11_wordOf.2.1 413 = .ok (.iconst 0, 1) := by decide +kernel
theorem d_X11_wordOf_414 : decode m_X11_wordOf.2.1 414 = .ok (.iconst 0, 1) := by decide +kernel
theorem d_X11_wordOf_415 : decode m_X11_wordOf.2.1 415 = .ok (.invokestatic 156, 3) := by decide +kernel
theorem d_X11_wordOf_418 : decode m_X11_wordOf.2.1 418 = .ok (.lreturn, 1) := by decide +kernel
theorem d_X11_wordOf_419 : decode m_X11_wordOf.2.1 419 = .ok (.bipush 112, 2) := by decide +kernel
theorem d_X11_wordOf_421 : decode m_X11_wordOf.2.1 421 = .ok (.bipush 108, 2) := by decide +kernel
theorem d_X11_wordOf_423 : decode m_X11_wordOf.2.1 423 = .ok (.bipush 97, 2) := by decide +kernel
theorem d_X11_wordOf_425 : decode m_X11_wordOf.2.1 425 = .ok (.bipush 99, 2) := by decide +kernel
theorem d_X11_wordOf_427 : decode m_X11_wordOf.2.1 427 = .ok (.invokestatic 156, 3) := by decide +kernel
theorem d_X11_wordOf_430 : decode m_X11_wordOf.2.1 430 = .ok (.bipush 101, 2) := by decide +kernel
theorem d_X11_wordOf_432 : decode m_X11_wordOf.2.1 432 = .ok (.iconst 0, 1) := by decide +kernel
theorem d_X11_wordOf_433 : decode m_X11_wordOf.2.1 433 = .ok (.iconst 0, 1) := by decide +kernel
theorem d_X11_wordOf_434 : decode m_X11_wordOf.2.1 434 = .ok (.invokestatic 160, 3) := by decide +kernel
theorem d_X11_wordOf_437 : decode m_X11_wordOf.2.1 437 = .ok (.lreturn, 1) := by decide +kernel
theorem d_X11_wordOf_438 : decode m_X11_wordOf.2.1 438 = .ok (.bipush 116, 2) := by decide +kernel
theorem d_X11_wordOf_440 : decode m_X11_wordOf.2.1 440 = .ok (.bipush 104, 2) := by decide +kernel
theorem d_X11_wordOf_442 : decode m_X11_wordOf.2.1 442 = .ok (.bipush 114, 2) := by decide +kernel
theorem d_X11_wordOf_444 : decode m_X11_wordOf.2.1 444 = .ok (.bipush 101, 2) := by decide +kernel
theorem d_X11_wordOf_446 : decode m_X11_wordOf.2.1 446 = .ok (.invokestatic 156, 3) := by decide +kernel
theorem d_X11_wordOf_449 : decode m_X11_wordOf.2.1 449 = .ok (.bipush 97, 2) := by decide +kernel
theorem d_X11_wordOf_451 : decode m_X11_wordOf.2.1 451 = .ok (.bipush 100, 2) := by decide +kernel
theorem d_X11_wordOf_453 : decode m_X11_wordOf.2.1 453 = .ok (.iconst 0, 1) := by decide +kernel
theorem d_X11_wordOf_454 : decode m_X11_wordOf.2.1 454 = .ok (.invokestatic 160, 3) := by decide +kernel
theorem d_X11_wordOf_457 : decode m_X11_wordOf.2.1 457 = .ok (.lreturn, 1) := by decide +kernel
theorem d_X11_wordOf_458 : decode m_X11_wordOf.2.1 458 = .ok (.bipush 100, 2) := by decide +kernel
theorem d_X11_wordOf_460 : decode m_X11_wordOf.2.1 460 = .ok (.bipush 101, 2) := by decide +kernel
theorem d_X11_wordOf_462 : decode m_X11_wordOf.2.1 462 = .ok (.bipush 112, 2) := by decide +kernel
theorem d_X11_wordOf_464 : decode m_X11_wordOf.2.1 464 = .ok (.bipush 116, 2) := by decide +kernel
theorem d_X11_wordOf_466 : decode m_X11_wordOf.2.1 466 = .ok (.invokestatic 156, 3) := by decide +kernel
theorem d_X11_wordOf_469 : decode m_X11_wordOf.2.1 469 = .ok (.bipush 104, 2) := by decide +kernel
theorem d_X11_wordOf_471 : decode m_X11_wordOf.2.1 471 = .ok (.iconst 0, 1) := by decide +kernel
theorem d_X11_wordOf_472 : decode m_X11_wordOf.2.1 472 = .ok (.iconst 0, 1) := by decide +kernel
theorem d_X11_wordOf_473 : decode m_X11_wordOf.2.1 473 = .ok (.invokestatic 160, 3) := by decide +kernel
theorem d_X11_wordOf_476 : decode m_X11_wordOf.2.1 476 = .ok (.lreturn, 1) := by decide +kernel
theorem d_X11_wordOf_477 : decode m_X11_wordOf.2.1 477 = .ok (.bipush 115, 2) := by decide +kernel
theorem d_X11_wordOf_479 : decode m_X11_wordOf.2.1 479 = .ok (.bipush 116, 2) := by decide +kernel
theorem d_X11_wordOf_481 : decode m_X11_wordOf.2.1 481 = .ok (.bipush 97, 2) := by decide +kernel
theorem d_X11_wordOf_483 : decode m_X11_wordOf.2.1 483 = .ok (.bipush 116, 2) := by decide +kernel
theorem d_X11_wordOf_485 : decode m_X11_wordOf.2.1 485 = .ok (.invokestatic 156, 3) := by decide +kernel
theorem d_X11_wordOf_488 : decode m_X11_wordOf.2.1 488 = .ok (.bipush 101, 2) := by decide +kernel
theorem d_X11_wordOf_490 : decode m_X11_wordOf.2.1 490 = .ok (.iconst 0, 1) := by decide +kernel
theorem d_X11_wordOf_491 : decode m_X11_wordOf.2.1 491 = .ok (.iconst 0, 1) := by decide +kernel
theorem d_X11_wordOf_492 : decode m_X11_wordOf.2.1 492 = .ok (.invokestatic 160, 3) := by decide +kernel
theorem d_X11_wordOf_495 : decode m_X11_wordOf.2.1 495 = .ok (.lreturn, 1) := by decide +kernel
set_option maxRecDepth 20000 in
theorem e_X11_wordOf {E : jm_E} {d : Nat} {μ : jm_M} {Q : Option jm_V → jm_M → Prop} {v0 : Int} (h : (∀ v ∈ ([jm_I v0] : List jm_V), jm_ok v) →
  ((v0 = 0 →
    jc E m_X11_spelt d [jm_I 119, jm_I 104, jm_I 111, jm_I 0] μ (fun (o : Option jm_V) (m2 : jm_M) => ∀ r3 : Int, o = some (jm_L r3) →
    Q (some (jm_L r3)) m2)) ∧
   (¬ (v0 = 0) →
    ((v0 = 1 →
      jc E m_X11_spelt d [jm_I 107, jm_I 105, jm_I 110, jm_I 100] μ (fun (o : Option jm_V) (m5 : jm_M) => ∀ r6 : Int, o = some (jm_L r6) →
      Q (some (jm_L r6)) m5)) ∧
     (¬ (v0 = 1) →
      ((v0 = 2 →
        jc E m_X11_spelt d [jm_I 109, jm_I 97, jm_I 121, jm_I 0] μ (fun (o : Option jm_V) (m8 : jm_M) => ∀ r9 : Int, o = some (jm_L r9) →
        Q (some (jm_L r9)) m8)) ∧
       (¬ (v0 = 2) →
        ((v0 = 3 →
          jc E m_X11_spelt d [jm_I 99, jm_I 111, jm_I 109, jm_I 98] μ (fun (o : Option jm_V) (m11 : jm_M) => ∀ r12 : Int, o = some (jm_L r12) →
          Q (some (jm_L r12)) m11)) ∧
         (¬ (v0 = 3) →
          ((v0 = 4 →
            jc E m_X11_spelt d [jm_I 114, jm_I 97, jm_I 110, jm_I 107] μ (fun (o : Option jm_V) (m14 : jm_M) => ∀ r15 : Int, o = some (jm_L r15) →
            jc E m_X11_on d [jm_L r15, jm_I 115, jm_I 0, jm_I 0] m14 (fun (o : Option jm_V) (m16 : jm_M) => ∀ r17 : Int, o = some (jm_L r17) →
            Q (some (jm_L r17)) m16))) ∧
           (¬ (v0 = 4) →
            ((v0 = 5 →
              jc E m_X11_spelt d [jm_I 116, jm_I 119, jm_I 105, jm_I 99] μ (fun (o : Option jm_V) (m19 : jm_M) => ∀ r20 : Int, o = some (jm_L r20) →
              jc E m_X11_on d [jm_L r20, jm_I 101, jm_I 0, jm_I 0] m19 (fun (o : Option jm_V) (m21 : jm_M) => ∀ r22 : Int, o = some (jm_L r22) →
              Q (some (jm_L r22)) m21))) ∧
             (¬ (v0 = 5) →
              ((v0 = 6 →
                jc E m_X11_spelt d [jm_I 111, jm_I 112, jm_I 101, jm_I 110] μ (fun (o : Option jm_V) (m24 : jm_M) => ∀ r25 : Int, o = some (jm_L r25) →
                jc E m_X11_on d [jm_L r25, jm_I 115, jm_I 0, jm_I 0] m24 (fun (o : Option jm_V) (m26 : jm_M) => ∀ r27 : Int, o = some (jm_L r27) →
                Q (some (jm_L r27)) m26))) ∧
               (¬ (v0 = 6) →
                ((v0 = 7 →
                  jc E m_X11_spelt d [jm_I 98, jm_I 101, jm_I 103, jm_I 105] μ (fun (o : Option jm_V) (m29 : jm_M) => ∀ r30 : Int, o = some (jm_L r30) →
                  jc E m_X11_on d [jm_L r30, jm_I 110, jm_I 115, jm_I 0] m29 (fun (o : Option jm_V) (m31 : jm_M) => ∀ r32 : Int, o = some (jm_L r32) →
                  Q (some (jm_L r32)) m31))) ∧
                 (¬ (v0 = 7) →
                  ((v0 = 8 →
                    jc E m_X11_spelt d [jm_I 97, jm_I 115, jm_I 107, jm_I 115] μ (fun (o : Option jm_V) (m34 : jm_M) => ∀ r35 : Int, o = some (jm_L r35) →
                    Q (some (jm_L r35)) m34)) ∧
                   (¬ (v0 = 8) →
                    ((v0 = 9 →
                      jc E m_X11_spelt d [jm_I 103, jm_I 114, jm_I 97, jm_I 110] μ (fun (o : Option jm_V) (m37 : jm_M) => ∀ r38 : Int, o = some (jm_L r38) →
                      jc E m_X11_on d [jm_L r38, jm_I 116, jm_I 115, jm_I 0] m37 (fun (o : Option jm_V) (m39 : jm_M) => ∀ r40 : Int, o = some (jm_L r40) →
                      Q (some (jm_L r40)) m39))) ∧
                     (¬ (v0 = 9) →
                      ((v0 = 10 →
                        jc E m_X11_spelt d [jm_I 114, jm_I 101, jm_I 102, jm_I 117] μ (fun (o : Option jm_V) (m42 : jm_M) => ∀ r43 : Int, o = some (jm_L r43) →
                        jc E m_X11_on d [jm_L r43, jm_I 115, jm_I 101, jm_I 115] m42 (fun (o : Option jm_V) (m44 : jm_M) => ∀ r45 : Int, o = some (jm_L r45) →
                        Q (some (jm_L r45)) m44))) ∧
                       (¬ (v0 = 10) →
                        ((v0 = 11 →
                          jc E m_X11_spelt d [jm_I 107, jm_I 101, jm_I 101, jm_I 112] μ (fun (o : Option jm_V) (m47 : jm_M) => ∀ r48 : Int, o = some (jm_L r48) →
                          jc E m_X11_on d [jm_L r48, jm_I 115, jm_I 0, jm_I 0] m47 (fun (o : Option jm_V) (m49 : jm_M) => ∀ r50 : Int, o = some (jm_L r50) →
                          Q (some (jm_L r50)) m49))) ∧
                         (¬ (v0 = 11) →
                          ((v0 = 12 →
                            jc E m_X11_spelt d [jm_I 98, jm_I 114, jm_I 101, jm_I 97] μ (fun (o : Option jm_V) (m52 : jm_M) => ∀ r53 : Int, o = some (jm_L r53) →
                            jc E m_X11_on d [jm_L r53, jm_I 107, jm_I 115, jm_I 0] m52 (fun (o : Option jm_V) (m54 : jm_M) => ∀ r55 : Int, o = some (jm_L r55) →
                            Q (some (jm_L r55)) m54))) ∧
                           (¬ (v0 = 12) →
                            ((v0 = 13 →
                              jc E m_X11_spelt d [jm_I 102, jm_I 114, jm_I 101, jm_I 101] μ (fun (o : Option jm_V) (m57 : jm_M) => ∀ r58 : Int, o = some (jm_L r58) →
                              jc E m_X11_on d [jm_L r58, jm_I 115, jm_I 0, jm_I 0] m57 (fun (o : Option jm_V) (m59 : jm_M) => ∀ r60 : Int, o = some (jm_L r60) →
                              Q (some (jm_L r60)) m59))) ∧
                             (¬ (v0 = 13) →
                              ((v0 = 14 →
                                jc E m_X11_spelt d [jm_I 97, jm_I 110, jm_I 121, jm_I 0] μ (fun (o : Option jm_V) (m62 : jm_M) => ∀ r63 : Int, o = some (jm_L r63) →
                                Q (some (jm_L r63)) m62)) ∧
                               (¬ (v0 = 14) →
                                ((v0 = 15 →
                                  jc E m_X11_spelt d [jm_I 111, jm_I 114, jm_I 0, jm_I 0] μ (fun (o : Option jm_V) (m65 : jm_M) => ∀ r66 : Int, o = some (jm_L r66) →
                                  Q (some (jm_L r66)) m65)) ∧
                                 (¬ (v0 = 15) →
                                  ((v0 = 16 →
                                    jc E m_X11_spelt d [jm_I 97, jm_I 110, jm_I 100, jm_I 0] μ (fun (o : Option jm_V) (m68 : jm_M) => ∀ r69 : Int, o = some (jm_L r69) →
                                    Q (some (jm_L r69)) m68)) ∧
                                   (¬ (v0 = 16) →
                                    ((v0 = 17 →
                                      jc E m_X11_spelt d [jm_I 110, jm_I 111, jm_I 116, jm_I 0] μ (fun (o : Option jm_V) (m71 : jm_M) => ∀ r72 : Int, o = some (jm_L r72) →
                                      Q (some (jm_L r72)) m71)) ∧
                                     (¬ (v0 = 17) →
                                      ((v0 = 18 →
                                        jc E m_X11_spelt d [jm_I 98, jm_I 121, jm_I 0, jm_I 0] μ (fun (o : Option jm_V) (m74 : jm_M) => ∀ r75 : Int, o = some (jm_L r75) →
                                        Q (some (jm_L r75)) m74)) ∧
                                       (¬ (v0 = 18) →
                                        ((v0 = 19 →
                                          jc E m_X11_spelt d [jm_I 116, jm_I 111, jm_I 0, jm_I 0] μ (fun (o : Option jm_V) (m77 : jm_M) => ∀ r78 : Int, o = some (jm_L r78) →
                                          Q (some (jm_L r78)) m77)) ∧
                                         (¬ (v0 = 19) →
                                          ((v0 = 20 →
                                            jc E m_X11_spelt d [jm_I 105, jm_I 115, jm_I 0, jm_I 0] μ (fun (o : Option jm_V) (m80 : jm_M) => ∀ r81 : Int, o = some (jm_L r81) →
                                            Q (some (jm_L r81)) m80)) ∧
                                           (¬ (v0 = 20) →
                                            ((v0 = 21 →
                                              jc E m_X11_spelt d [jm_I 112, jm_I 108, jm_I 97, jm_I 99] μ (fun (o : Option jm_V) (m83 : jm_M) => ∀ r84 : Int, o = some (jm_L r84) →
                                              jc E m_X11_on d [jm_L r84, jm_I 101, jm_I 0, jm_I 0] m83 (fun (o : Option jm_V) (m85 : jm_M) => ∀ r86 : Int, o = some (jm_L r86) →
                                              Q (some (jm_L r86)) m85))) ∧
                                             (¬ (v0 = 21) →
                                              ((v0 = 22 →
                                                jc E m_X11_spelt d [jm_I 116, jm_I 104, jm_I 114, jm_I 101] μ (fun (o : Option jm_V) (m88 : jm_M) => ∀ r89 : Int, o = some (jm_L r89) →
                                                jc E m_X11_on d [jm_L r89, jm_I 97, jm_I 100, jm_I 0] m88 (fun (o : Option jm_V) (m90 : jm_M) => ∀ r91 : Int, o = some (jm_L r91) →
                                                Q (some (jm_L r91)) m90))) ∧
                                               (¬ (v0 = 22) →
                                                ((v0 = 23 →
                                                  jc E m_X11_spelt d [jm_I 100, jm_I 101, jm_I 112, jm_I 116] μ (fun (o : Option jm_V) (m93 : jm_M) => ∀ r94 : Int, o = some (jm_L r94) →
                                                  jc E m_X11_on d [jm_L r94, jm_I 104, jm_I 0, jm_I 0] m93 (fun (o : Option jm_V) (m95 : jm_M) => ∀ r96 : Int, o = some (jm_L r96) →
                                                  Q (some (jm_L r96)) m95))) ∧
                                                 (¬ (v0 = 23) →
                                                  jc E m_X11_spelt d [jm_I 115, jm_I 116, jm_I 97, jm_I 116] μ (fun (o : Option jm_V) (m97 : jm_M) => ∀ r98 : Int, o = some (jm_L r98) →
                                                  jc E m_X11_on d [jm_L r98, jm_I 101, jm_I 0, jm_I 0] m97 (fun (o : Option jm_V) (m99 : jm_M) => ∀ r100 : Int, o = some (jm_L r100) →
                                                  Q (some (jm_L r100)) m99))))))))))))))))))))))))))))))))))))))))))))))))))) : jc E m_X11_wordOf (d + 1) [jm_I v0] μ Q := by
  refine jm_Cl.of2 (by decide +kernel) (L0 := [some (jm_I v0)]) rfl (Nat.le_of_ble_eq_true rfl) (fun hok => ?_)
  have h := h hok
  refine jm_iloadn d_X11_wordOf_0 rfl ?_
  by_cases c1 : v0 = 0
  · have h := h.1 c1
    refine jm_table (tgt := 112) (off := 111) d_X11_wordOf_1 (by rw [c1]; decide) (by rw [c1]; decide) (by rw [c1]; rfl) (by decide) ?_
    refine jm_bipush (v := 119) d_X11_wordOf_112 rfl (jm_okI (by decide) (by decide)) ?_
    refine jm_bipush (v := 104) d_X11_wordOf_114 rfl (jm_okI (by decide) (by decide)) ?_
    refine jm_bipush (v := 111) d_X11_wordOf_116 rfl (jm_okI (by decide) (by decide)) ?_
    refine jm_iconst (v := 0) d_X11_wordOf_118 rfl (jm_okI (by decide) (by decide)) ?_
    refine jm_invS (n1 := jm_N) (mc := 0) (ms := 0) (av := [jm_I _, jm_I _, jm_I _, jm_I _]) w_X11_spelt l_X11_156 d_X11_wordOf_119 rfl ⟨Nat.le_refl _, Nat.le_refl _⟩ (Nat.le_of_ble_eq_true rfl) rfl ?_
    refine jm_Cl.mono h (fun o m2 h hr _ => ?_)
    obtain ⟨r3, rfl⟩ := jm_rokL hr
    have h := h _ rfl
    exact jm_ret (o := some (jm_L _)) d_X11_wordOf_122 rfl ⟨Nat.le_refl _, Nat.le_refl _⟩ jm_r_L h rfl
  · have h := h.2 c1
    by_cases c4 : v0 = 1
    · have h := h.1 c4
      refine jm_table (tgt := 123) (off := 122) d_X11_wordOf_1 (by rw [c4]; decide) (by rw [c4]; decide) (by rw [c4]; rfl) (by decide) ?_
      refine jm_bipush (v := 107) d_X11_wordOf_123 rfl (jm_okI (by decide) (by decide)) ?_
      refine jm_bipush (v := 105) d_X11_wordOf_125 rfl (jm_okI (by decide) (by decide)) ?_
      refine jm_bipush (v := 110) d_X11_wordOf_127 rfl (jm_okI (by decide) (by decide)) ?_
      refine jm_bipush (v := 100) d_X11_wordOf_129 rfl (jm_okI (by decide) (by decide)) ?_
      refine jm_invS (n1 := jm_N) (mc := 0) (ms := 0) (av := [jm_I _, jm_I _, jm_I _, jm_I _]) w_X11_spelt l_X11_156 d_X11_wordOf_131 rfl ⟨Nat.le_refl _, Nat.le_refl _⟩ (Nat.le_of_ble_eq_true rfl) rfl ?_
      refine jm_Cl.mono h (fun o m5 h hr _ => ?_)
      obtain ⟨r6, rfl⟩ := jm_rokL hr
      have h := h _ rfl
      exact jm_ret (o := some (jm_L _)) d_X11_wordOf_134 rfl ⟨Nat.le_refl _, Nat.le_refl _⟩ jm_r_L h rfl
    · have h := h.2 c4
      by_cases c7 : v0 = 2
      · have h := h.1 c7
        refine jm_table (tgt := 135) (off := 134) d_X11_wordOf_1 (by rw [c7]; decide) (by rw [c7]; decide) (by rw [c7]; rfl) (by decide) ?_
        refine jm_bipush (v := 109) d_X11_wordOf_135 rfl (jm_okI (by decide) (by decide)) ?_
        refine jm_bipush (v := 97) d_X11_wordOf_137 rfl (jm_okI (by decide) (by decide)) ?_
        refine jm_bipush (v := 121) d_X11_wordOf_139 rfl (jm_okI (by decide) (by decide)) ?_
        refine jm_iconst (v := 0) d_X11_wordOf_141 rfl (jm_okI (by decide) (by decide)) ?_
        refine jm_invS (n1 := jm_N) (mc := 0) (ms := 0) (av := [jm_I _, jm_I _, jm_I _, jm_I _]) w_X11_spelt l_X11_156 d_X11_wordOf_142 rfl ⟨Nat.le_refl _, Nat.le_refl _⟩ (Nat.le_of_ble_eq_true rfl) rfl ?_
        refine jm_Cl.mono h (fun o m8 h hr _ => ?_)
        obtain ⟨r9, rfl⟩ := jm_rokL hr
        have h := h _ rfl
        exact jm_ret (o := some (jm_L _)) d_X11_wordOf_145 rfl ⟨Nat.le_refl _, Nat.le_refl _⟩ jm_r_L h rfl
      · have h := h.2 c7
        by_cases c10 : v0 = 3
        · have h := h.1 c10
          refine jm_table (tgt := 146) (off := 145) d_X11_wordOf_1 (by rw [c10]; decide) (by rw [c10]; decide) (by rw [c10]; rfl) (by decide) ?_
          refine jm_bipush (v := 99) d_X11_wordOf_146 rfl (jm_okI (by decide) (by decide)) ?_
          refine jm_bipush (v := 111) d_X11_wordOf_148 rfl (jm_okI (by decide) (by decide)) ?_
          refine jm_bipush (v := 109) d_X11_wordOf_150 rfl (jm_okI (by decide) (by decide)) ?_
          refine jm_bipush (v := 98) d_X11_wordOf_152 rfl (jm_okI (by decide) (by decide)) ?_
          refine jm_invS (n1 := jm_N) (mc := 0) (ms := 0) (av := [jm_I _, jm_I _, jm_I _, jm_I _]) w_X11_spelt l_X11_156 d_X11_wordOf_154 rfl ⟨Nat.le_refl _, Nat.le_refl _⟩ (Nat.le_of_ble_eq_true rfl) rfl ?_
          refine jm_Cl.mono h (fun o m11 h hr _ => ?_)
          obtain ⟨r12, rfl⟩ := jm_rokL hr
          have h := h _ rfl
          exact jm_ret (o := some (jm_L _)) d_X11_wordOf_157 rfl ⟨Nat.le_refl _, Nat.le_refl _⟩ jm_r_L h rfl
        · have h := h.2 c10
          by_cases c13 : v0 = 4
          · have h := h.1 c13
            refine jm_table (tgt := 158) (off := 157) d_X11_wordOf_1 (by rw [c13]; decide) (by rw [c13]; decide) (by rw [c13]; rfl) (by decide) ?_
            refine jm_bipush (v := 114) d_X11_wordOf_158 rfl (jm_okI (by decide) (by decide)) ?_
            refine jm_bipush (v := 97) d_X11_wordOf_160 rfl (jm_okI (by decide) (by decide)) ?_
            refine jm_bipush (v := 110) d_X11_wordOf_162 rfl (jm_okI (by decide) (by decide)) ?_
            refine jm_bipush (v := 107) d_X11_wordOf_164 rfl (jm_okI (by decide) (by decide)) ?_
            refine jm_invS (n1 := jm_N) (mc := 0) (ms := 0) (av := [jm_I _, jm_I _, jm_I _, jm_I _]) w_X11_spelt l_X11_156 d_X11_wordOf_166 rfl ⟨Nat.le_refl _, Nat.le_refl _⟩ (Nat.le_of_ble_eq_true rfl) rfl ?_
            refine jm_Cl.mono h (fun o m14 h hr _ => ?_)
            obtain ⟨r15, rfl⟩ := jm_rokL hr
            have h := h _ rfl
            refine jm_bipush (v := 115) d_X11_wordOf_169 rfl (jm_okI (by decide) (by decide)) ?_
            refine jm_iconst (v := 0) d_X11_wordOf_171 rfl (jm_okI (by decide) (by decide)) ?_
            refine jm_iconst (v := 0) d_X11_wordOf_172 rfl (jm_okI (by decide) (by decide)) ?_
            refine jm_invS (n1 := jm_N) (mc := 0) (ms := 0) (av := [jm_L _, jm_I _, jm_I _, jm_I _]) w_X11_on l_X11_160 d_X11_wordOf_173 rfl ⟨Nat.le_refl _, Nat.le_refl _⟩ (Nat.le_of_ble_eq_true rfl) rfl ?_
            refine jm_Cl.mono h (fun o m16 h hr _ => ?_)
            obtain ⟨r17, rfl⟩ := jm_rokL hr
            have h := h _ rfl
            exact jm_ret (o := some (jm_L _)) d_X11_wordOf_176 rfl ⟨Nat.le_refl _, Nat.le_refl _⟩ jm_r_L h rfl
          · have h := h.2 c13
            by_cases c18 : v0 = 5
            · have h := h.1 c18
              refine jm_table (tgt := 177) (off := 176) d_X11_wordOf_1 (by rw [c18]; decide) (by rw [c18]; decide) (by rw [c18]; rfl) (by decide) ?_
              refine jm_bipush (v := 116) d_X11_wordOf_177 rfl (jm_okI (by decide) (by decide)) ?_
              refine jm_bipush (v := 119) d_X11_wordOf_179 rfl (jm_okI (by decide) (by decide)) ?_
              refine jm_bipush (v := 105) d_X11_wordOf_181 rfl (jm_okI (by decide) (by decide)) ?_
              refine jm_bipush (v := 99) d_X11_wordOf_183 rfl (jm_okI (by decide) (by decide)) ?_
              refine jm_invS (n1 := jm_N) (mc := 0) (ms := 0) (av := [jm_I _, jm_I _, jm_I _, jm_I _]) w_X11_spelt l_X11_156 d_X11_wordOf_185 rfl ⟨Nat.le_refl _, Nat.le_refl _⟩ (Nat.le_of_ble_eq_true rfl) rfl ?_
              refine jm_Cl.mono h (fun o m19 h hr _ => ?_)
              obtain ⟨r20, rfl⟩ := jm_rokL hr
              have h := h _ rfl
              refine jm_bipush (v := 101) d_X11_wordOf_188 rfl (jm_okI (by decide) (by decide)) ?_
              refine jm_iconst (v := 0) d_X11_wordOf_190 rfl (jm_okI (by decide) (by decide)) ?_
              refine jm_iconst (v := 0) d_X11_wordOf_191 rfl (jm_okI (by decide) (by decide)) ?_
              refine jm_invS (n1 := jm_N) (mc := 0) (ms := 0) (av := [jm_L _, jm_I _, jm_I _, jm_I _]) w_X11_on l_X11_160 d_X11_wordOf_192 rfl ⟨Nat.le_refl _, Nat.le_refl _⟩ (Nat.le_of_ble_eq_true rfl) rfl ?_
              refine jm_Cl.mono h (fun o m21 h hr _ => ?_)
              obtain ⟨r22, rfl⟩ := jm_rokL hr
              have h := h _ rfl
              exact jm_ret (o := some (jm_L _)) d_X11_wordOf_195 rfl ⟨Nat.le_refl _, Nat.le_refl _⟩ jm_r_L h rfl
            · have h := h.2 c18
              by_cases c23 : v0 = 6
              · have h := h.1 c23
                refine jm_table (tgt := 196) (off := 195) d_X11_wordOf_1 (by rw [c23]; decide) (by rw [c23]; decide) (by rw [c23]; rfl) (by decide) ?_
                refine jm_bipush (v := 111) d_X11_wordOf_196 rfl (jm_okI (by decide) (by decide)) ?_
                refine jm_bipush (v := 112) d_X11_wordOf_198 rfl (jm_okI (by decide) (by decide)) ?_
                refine jm_bipush (v := 101) d_X11_wordOf_200 rfl (jm_okI (by decide) (by decide)) ?_
                refine jm_bipush (v := 110) d_X11_wordOf_202 rfl (jm_okI (by decide) (by decide)) ?_
                refine jm_invS (n1 := jm_N) (mc := 0) (ms := 0) (av := [jm_I _, jm_I _, jm_I _, jm_I _]) w_X11_spelt l_X11_156 d_X11_wordOf_204 rfl ⟨Nat.le_refl _, Nat.le_refl _⟩ (Nat.le_of_ble_eq_true rfl) rfl ?_
                refine jm_Cl.mono h (fun o m24 h hr _ => ?_)
                obtain ⟨r25, rfl⟩ := jm_rokL hr
                have h := h _ rfl
                refine jm_bipush (v := 115) d_X11_wordOf_207 rfl (jm_okI (by decide) (by decide)) ?_
                refine jm_iconst (v := 0) d_X11_wordOf_209 rfl (jm_okI (by decide) (by decide)) ?_
                refine jm_iconst (v := 0) d_X11_wordOf_210 rfl (jm_okI (by decide) (by decide)) ?_
                refine jm_invS (n1 := jm_N) (mc := 0) (ms := 0) (av := [jm_L _, jm_I _, jm_I _, jm_I _]) w_X11_on l_X11_160 d_X11_wordOf_211 rfl ⟨Nat.le_refl _, Nat.le_refl _⟩ (Nat.le_of_ble_eq_true rfl) rfl ?_
                refine jm_Cl.mono h (fun o m26 h hr _ => ?_)
                obtain ⟨r27, rfl⟩ := jm_rokL hr
                have h := h _ rfl
                exact jm_ret (o := some (jm_L _)) d_X11_wordOf_214 rfl ⟨Nat.le_refl _, Nat.le_refl _⟩ jm_r_L h rfl
              · have h := h.2 c23
                by_cases c28 : v0 = 7
                · have h := h.1 c28
                  refine jm_table (tgt := 215) (off := 214) d_X11_wordOf_1 (by rw [c28]; decide) (by rw [c28]; decide) (by rw [c28]; rfl) (by decide) ?_
                  refine jm_bipush (v := 98) d_X11_wordOf_215 rfl (jm_okI (by decide) (by decide)) ?_
                  refine jm_bipush (v := 101) d_X11_wordOf_217 rfl (jm_okI (by decide) (by decide)) ?_
                  refine jm_bipush (v := 103) d_X11_wordOf_219 rfl (jm_okI (by decide) (by decide)) ?_
                  refine jm_bipush (v := 105) d_X11_wordOf_221 rfl (jm_okI (by decide) (by decide)) ?_
                  refine jm_invS (n1 := jm_N) (mc := 0) (ms := 0) (av := [jm_I _, jm_I _, jm_I _, jm_I _]) w_X11_spelt l_X11_156 d_X11_wordOf_223 rfl ⟨Nat.le_refl _, Nat.le_refl _⟩ (Nat.le_of_ble_eq_true rfl) rfl ?_
                  refine jm_Cl.mono h (fun o m29 h hr _ => ?_)
                  obtain ⟨r30, rfl⟩ := jm_rokL hr
                  have h := h _ rfl
                  refine jm_bipush (v := 110) d_X11_wordOf_226 rfl (jm_okI (by decide) (by decide)) ?_
                  refine jm_bipush (v := 115) d_X11_wordOf_228 rfl (jm_okI (by decide) (by decide)) ?_
                  refine jm_iconst (v := 0) d_X11_wordOf_230 rfl (jm_okI (by decide) (by decide)) ?_
                  refine jm_invS (n1 := jm_N) (mc := 0) (ms := 0) (av := [jm_L _, jm_I _, jm_I _, jm_I _]) w_X11_on l_X11_160 d_X11_wordOf_231 rfl ⟨Nat.le_refl _, Nat.le_refl _⟩ (Nat.le_of_ble_eq_true rfl) rfl ?_
                  refine jm_Cl.mono h (fun o m31 h hr _ => ?_)
                  obtain ⟨r32, rfl⟩ := jm_rokL hr
                  have h := h _ rfl
                  exact jm_ret (o := some (jm_L _)) d_X11_wordOf_234 rfl ⟨Nat.le_refl _, Nat.le_refl _⟩ jm_r_L h rfl
                · have h := h.2 c28
                  by_cases c33 : v0 = 8
                  · have h := h.1 c33
                    refine jm_table (tgt := 235) (off := 234) d_X11_wordOf_1 (by rw [c33]; decide) (by rw [c33]; decide) (by rw [c33]; rfl) (by decide) ?_
                    refine jm_bipush (v := 97) d_X11_wordOf_235 rfl (jm_okI (by decide) (by decide)) ?_
                    refine jm_bipush (v := 115) d_X11_wordOf_237 rfl (jm_okI (by decide) (by decide)) ?_
                    refine jm_bipush (v := 107) d_X11_wordOf_239 rfl (jm_okI (by decide) (by decide)) ?_
                    refine jm_bipush (v := 115) d_X11_wordOf_241 rfl (jm_okI (by decide) (by decide)) ?_
                    refine jm_invS (n1 := jm_N) (mc := 0) (ms := 0) (av := [jm_I _, jm_I _, jm_I _, jm_I _]) w_X11_spelt l_X11_156 d_X11_wordOf_243 rfl ⟨Nat.le_refl _, Nat.le_refl _⟩ (Nat.le_of_ble_eq_true rfl) rfl ?_
                    refine jm_Cl.mono h (fun o m34 h hr _ => ?_)
                    obtain ⟨r35, rfl⟩ := jm_rokL hr
                    have h := h _ rfl
                    exact jm_ret (o := some (jm_L _)) d_X11_wordOf_246 rfl ⟨Nat.le_refl _, Nat.le_refl _⟩ jm_r_L h rfl
                  · have h := h.2 c33
                    by_cases c36 : v0 = 9
                    · have h := h.1 c36
                      refine jm_table (tgt := 247) (off := 246) d_X11_wordOf_1 (by rw [c36]; decide) (by rw [c36]; decide) (by rw [c36]; rfl) (by decide) ?_
                      refine jm_bipush (v := 103) d_X11_wordOf_247 rfl (jm_okI (by decide) (by decide)) ?_
                      refine jm_bipush (v := 114) d_X11_wordOf_249 rfl (jm_okI (by decide) (by decide)) ?_
                      refine jm_bipush (v := 97) d_X11_wordOf_251 rfl (jm_okI (by decide) (by decide)) ?_
                      refine jm_bipush (v := 110) d_X11_wordOf_253 rfl (jm_okI (by decide) (by decide)) ?_
                      refine jm_invS (n1 := jm_N) (mc := 0) (ms := 0) (av := [jm_I _, jm_I _, jm_I _, jm_I _]) w_X11_spelt l_X11_156 d_X11_wordOf_255 rfl ⟨Nat.le_refl _, Nat.le_refl _⟩ (Nat.le_of_ble_eq_true rfl) rfl ?_
                      refine jm_Cl.mono h (fun o m37 h hr _ => ?_)
                      obtain ⟨r38, rfl⟩ := jm_rokL hr
                      have h := h _ rfl
                      refine jm_bipush (v := 116) d_X11_wordOf_258 rfl (jm_okI (by decide) (by decide)) ?_
                      refine jm_bipush (v := 115) d_X11_wordOf_260 rfl (jm_okI (by decide) (by decide)) ?_
                      refine jm_iconst (v := 0) d_X11_wordOf_262 rfl (jm_okI (by decide) (by decide)) ?_
                      refine jm_invS (n1 := jm_N) (mc := 0) (ms := 0) (av := [jm_L _, jm_I _, jm_I _, jm_I _]) w_X11_on l_X11_160 d_X11_wordOf_263 rfl ⟨Nat.le_refl _, Nat.le_refl _⟩ (Nat.le_of_ble_eq_true rfl) rfl ?_
                      refine jm_Cl.mono h (fun o m39 h hr _ => ?_)
                      obtain ⟨r40, rfl⟩ := jm_rokL hr
                      have h := h _ rfl
                      exact jm_ret (o := some (jm_L _)) d_X11_wordOf_266 rfl ⟨Nat.le_refl _, Nat.le_refl _⟩ jm_r_L h rfl
                    · have h := h.2 c36
                      by_cases c41 : v0 = 10
                      · have h := h.1 c41
                        refine jm_table (tgt := 267) (off := 266) d_X11_wordOf_1 (by rw [c41]; decide) (by rw [c41]; decide) (by rw [c41]; rfl) (by decide) ?_
                        refine jm_bipush (v := 114) d_X11_wordOf_267 rfl (jm_okI (by decide) (by decide)) ?_
                        refine jm_bipush (v := 101) d_X11_wordOf_269 rfl (jm_okI (by decide) (by decide)) ?_
                        refine jm_bipush (v := 102) d_X11_wordOf_271 rfl (jm_okI (by decide) (by decide)) ?_
                        refine jm_bipush (v := 117) d_X11_wordOf_273 rfl (jm_okI (by decide) (by decide)) ?_
                        refine jm_invS (n1 := jm_N) (mc := 0) (ms := 0) (av := [jm_I _, jm_I _, jm_I _, jm_I _]) w_X11_spelt l_X11_156 d_X11_wordOf_275 rfl ⟨Nat.le_refl _, Nat.le_refl _⟩ (Nat.le_of_ble_eq_true rfl) rfl ?_
                        refine jm_Cl.mono h (fun o m42 h hr _ => ?_)
                        obtain ⟨r43, rfl⟩ := jm_rokL hr
                        have h := h _ rfl
                        refine jm_bipush (v := 115) d_X11_wordOf_278 rfl (jm_okI (by decide) (by decide)) ?_
                        refine jm_bipush (v := 101) d_X11_wordOf_280 rfl (jm_okI (by decide) (by decide)) ?_
                        refine jm_bipush (v := 115) d_X11_wordOf_282 rfl (jm_okI (by decide) (by decide)) ?_
                        refine jm_invS (n1 := jm_N) (mc := 0) (ms := 0) (av := [jm_L _, jm_I _, jm_I _, jm_I _]) w_X11_on l_X11_160 d_X11_wordOf_284 rfl ⟨Nat.le_refl _, Nat.le_refl _⟩ (Nat.le_of_ble_eq_true rfl) rfl ?_
                        refine jm_Cl.mono h (fun o m44 h hr _ => ?_)
                        obtain ⟨r45, rfl⟩ := jm_rokL hr
                        have h := h _ rfl
                        exact jm_ret (o := some (jm_L _)) d_X11_wordOf_287 rfl ⟨Nat.le_refl _, Nat.le_refl _⟩ jm_r_L h rfl
                      · have h := h.2 c41
                        by_cases c46 : v0 = 11
                        · have h := h.1 c46
                          refine jm_table (tgt := 288) (off := 287) d_X11_wordOf_1 (by rw [c46]; decide) (by rw [c46]; decide) (by rw [c46]; rfl) (by decide) ?_
                          refine jm_bipush (v := 107) d_X11_wordOf_288 rfl (jm_okI (by decide) (by decide)) ?_
                          refine jm_bipush (v := 101) d_X11_wordOf_290 rfl (jm_okI (by decide) (by decide)) ?_
                          refine jm_bipush (v := 101) d_X11_wordOf_292 rfl (jm_okI (by decide) (by decide)) ?_
                          refine jm_bipush (v := 112) d_X11_wordOf_294 rfl (jm_okI (by decide) (by decide)) ?_
                          refine jm_invS (n1 := jm_N) (mc := 0) (ms := 0) (av := [jm_I _, jm_I _, jm_I _, jm_I _]) w_X11_spelt l_X11_156 d_X11_wordOf_296 rfl ⟨Nat.le_refl _, Nat.le_refl _⟩ (Nat.le_of_ble_eq_true rfl) rfl ?_
                          refine jm_Cl.mono h (fun o m47 h hr _ => ?_)
                          obtain ⟨r48, rfl⟩ := jm_rokL hr
                          have h := h _ rfl
                          refine jm_bipush (v := 115) d_X11_wordOf_299 rfl (jm_okI (by decide) (by decide)) ?_
                          refine jm_iconst (v := 0) d_X11_wordOf_301 rfl (jm_okI (by decide) (by decide)) ?_
                          refine jm_iconst (v := 0) d_X11_wordOf_302 rfl (jm_okI (by decide) (by decide)) ?_
                          refine jm_invS (n1 := jm_N) (mc := 0) (ms := 0) (av := [jm_L _, jm_I _, jm_I _, jm_I _]) w_X11_on l_X11_160 d_X11_wordOf_303 rfl ⟨Nat.le_refl _, Nat.le_refl _⟩ (Nat.le_of_ble_eq_true rfl) rfl ?_
                          refine jm_Cl.mono h (fun o m49 h hr _ => ?_)
                          obtain ⟨r50, rfl⟩ := jm_rokL hr
                          have h := h _ rfl
                          exact jm_ret (o := some (jm_L _)) d_X11_wordOf_306 rfl ⟨Nat.le_refl _, Nat.le_refl _⟩ jm_r_L h rfl
                        · have h := h.2 c46
                          by_cases c51 : v0 = 12
                          · have h := h.1 c51
                            refine jm_table (tgt := 307) (off := 306) d_X11_wordOf_1 (by rw [c51]; decide) (by rw [c51]; decide) (by rw [c51]; rfl) (by decide) ?_
                            refine jm_bipush (v := 98) d_X11_wordOf_307 rfl (jm_okI (by decide) (by decide)) ?_
                            refine jm_bipush (v := 114) d_X11_wordOf_309 rfl (jm_okI (by decide) (by decide)) ?_
                            refine jm_bipush (v := 101) d_X11_wordOf_311 rfl (jm_okI (by decide) (by decide)) ?_
                            refine jm_bipush (v := 97) d_X11_wordOf_313 rfl (jm_okI (by decide) (by decide)) ?_
                            refine jm_invS (n1 := jm_N) (mc := 0) (ms := 0) (av := [jm_I _, jm_I _, jm_I _, jm_I _]) w_X11_spelt l_X11_156 d_X11_wordOf_315 rfl ⟨Nat.le_refl _, Nat.le_refl _⟩ (Nat.le_of_ble_eq_true rfl) rfl ?_
                            refine jm_Cl.mono h (fun o m52 h hr _ => ?_)
                            obtain ⟨r53, rfl⟩ := jm_rokL hr
                            have h := h _ rfl
                            refine jm_bipush (v := 107) d_X11_wordOf_318 rfl (jm_okI (by decide) (by decide)) ?_
                            refine jm_bipush (v := 115) d_X11_wordOf_320 rfl (jm_okI (by decide) (by decide)) ?_
                            refine jm_iconst (v := 0) d_X11_wordOf_322 rfl (jm_okI (by decide) (by decide)) ?_
                            refine jm_invS (n1 := jm_N) (mc := 0) (ms := 0) (av := [jm_L _, jm_I _, jm_I _, jm_I _]) w_X11_on l_X11_160 d_X11_wordOf_323 rfl ⟨Nat.le_refl _, Nat.le_refl _⟩ (Nat.le_of_ble_eq_true rfl) rfl ?_
                            refine jm_Cl.mono h (fun o m54 h hr _ => ?_)
                            obtain ⟨r55, rfl⟩ := jm_rokL hr
                            have h := h _ rfl
                            exact jm_ret (o := some (jm_L _)) d_X11_wordOf_326 rfl ⟨Nat.le_refl _, Nat.le_refl _⟩ jm_r_L h rfl
                          · have h := h.2 c51
                            by_cases c56 : v0 = 13
                            · have h := h.1 c56
                              refine jm_table (tgt := 327) (off := 326) d_X11_wordOf_1 (by rw [c56]; decide) (by rw [c56]; decide) (by rw [c56]; rfl) (by decide) ?_
                              refine jm_bipush (v := 102) d_X11_wordOf_327 rfl (jm_okI (by decide) (by decide)) ?_
                              refine jm_bipush (v := 114) d_X11_wordOf_329 rfl (jm_okI (by decide) (by decide)) ?_
                              refine jm_bipush (v := 101) d_X11_wordOf_331 rfl (jm_okI (by decide) (by decide)) ?_
                              refine jm_bipush (v := 101) d_X11_wordOf_333 rfl (jm_okI (by decide) (by decide)) ?_
                              refine jm_invS (n1 := jm_N) (mc := 0) (ms := 0) (av := [jm_I _, jm_I _, jm_I _, jm_I _]) w_X11_spelt l_X11_156 d_X11_wordOf_335 rfl ⟨Nat.le_refl _, Nat.le_refl _⟩ (Nat.le_of_ble_eq_true rfl) rfl ?_
                              refine jm_Cl.mono h (fun o m57 h hr _ => ?_)
                              obtain ⟨r58, rfl⟩ := jm_rokL hr
                              have h := h _ rfl
                              refine jm_bipush (v := 115) d_X11_wordOf_338 rfl (jm_okI (by decide) (by decide)) ?_
                              refine jm_iconst (v := 0) d_X11_wordOf_340 rfl (jm_okI (by decide) (by decide)) ?_
                              refine jm_iconst (v := 0) d_X11_wordOf_341 rfl (jm_okI (by decide) (by decide)) ?_
                              refine jm_invS (n1 := jm_N) (mc := 0) (ms := 0) (av := [jm_L _, jm_I _, jm_I _, jm_I _]) w_X11_on l_X11_160 d_X11_wordOf_342 rfl ⟨Nat.le_refl _, Nat.le_refl _⟩ (Nat.le_of_ble_eq_true rfl) rfl ?_
                              refine jm_Cl.mono h (fun o m59 h hr _ => ?_)
                              obtain ⟨r60, rfl⟩ := jm_rokL hr
                              have h := h _ rfl
                              exact jm_ret (o := some (jm_L _)) d_X11_wordOf_345 rfl ⟨Nat.le_refl _, Nat.le_refl _⟩ jm_r_L h rfl
                            · have h := h.2 c56
                              by_cases c61 : v0 = 14
                              · have h := h.1 c61
                                refine jm_table (tgt := 346) (off := 345) d_X11_wordOf_1 (by rw [c61]; decide) (by rw [c61]; decide) (by rw [c61]; rfl) (by decide) ?_
                                refine jm_bipush (v := 97) d_X11_wordOf_346 rfl (jm_okI (by decide) (by decide)) ?_
                                refine jm_bipush (v := 110) d_X11_wordOf_348 rfl (jm_okI (by decide) (by decide)) ?_
                                refine jm_bipush (v := 121) d_X11_wordOf_350 rfl (jm_okI (by decide) (by decide)) ?_
                                refine jm_iconst (v := 0) d_X11_wordOf_352 rfl (jm_okI (by decide) (by decide)) ?_
                                refine jm_invS (n1 := jm_N) (mc := 0) (ms := 0) (av := [jm_I _, jm_I _, jm_I _, jm_I _]) w_X11_spelt l_X11_156 d_X11_wordOf_353 rfl ⟨Nat.le_refl _, Nat.le_refl _⟩ (Nat.le_of_ble_eq_true rfl) rfl ?_
                                refine jm_Cl.mono h (fun o m62 h hr _ => ?_)
                                obtain ⟨r63, rfl⟩ := jm_rokL hr
                                have h := h _ rfl
                                exact jm_ret (o := some (jm_L _)) d_X11_wordOf_356 rfl ⟨Nat.le_refl _, Nat.le_refl _⟩ jm_r_L h rfl
                              · have h := h.2 c61
                                by_cases c64 : v0 = 15
                                · have h := h.1 c64
                                  refine jm_table (tgt := 357) (off := 356) d_X11_wordOf_1 (by rw [c64]; decide) (by rw [c64]; decide) (by rw [c64]; rfl) (by decide) ?_
                                  refine jm_bipush (v := 111) d_X11_wordOf_357 rfl (jm_okI (by decide) (by decide)) ?_
                                  refine jm_bipush (v := 114) d_X11_wordOf_359 rfl (jm_okI (by decide) (by decide)) ?_
                                  refine jm_iconst (v := 0) d_X11_wordOf_361 rfl (jm_okI (by decide) (by decide)) ?_
                                  refine jm_iconst (v := 0) d_X11_wordOf_362 rfl (jm_okI (by decide) (by decide)) ?_
                                  refine jm_invS (n1 := jm_N) (mc := 0) (ms := 0) (av := [jm_I _, jm_I _, jm_I _, jm_I _]) w_X11_spelt l_X11_156 d_X11_wordOf_363 rfl ⟨Nat.le_refl _, Nat.le_refl _⟩ (Nat.le_of_ble_eq_true rfl) rfl ?_
                                  refine jm_Cl.mono h (fun o m65 h hr _ => ?_)
                                  obtain ⟨r66, rfl⟩ := jm_rokL hr
                                  have h := h _ rfl
                                  exact jm_ret (o := some (jm_L _)) d_X11_wordOf_366 rfl ⟨Nat.le_refl _, Nat.le_refl _⟩ jm_r_L h rfl
                                · have h := h.2 c64
                                  by_cases c67 : v0 = 16
                                  · have h := h.1 c67
                                    refine jm_table (tgt := 367) (off := 366) d_X11_wordOf_1 (by rw [c67]; decide) (by rw [c67]; decide) (by rw [c67]; rfl) (by decide) ?_
                                    refine jm_bipush (v := 97) d_X11_wordOf_367 rfl (jm_okI (by decide) (by decide)) ?_
                                    refine jm_bipush (v := 110) d_X11_wordOf_369 rfl (jm_okI (by decide) (by decide)) ?_
                                    refine jm_bipush (v := 100) d_X11_wordOf_371 rfl (jm_okI (by decide) (by decide)) ?_
                                    refine jm_iconst (v := 0) d_X11_wordOf_373 rfl (jm_okI (by decide) (by decide)) ?_
                                    refine jm_invS (n1 := jm_N) (mc := 0) (ms := 0) (av := [jm_I _, jm_I _, jm_I _, jm_I _]) w_X11_spelt l_X11_156 d_X11_wordOf_374 rfl ⟨Nat.le_refl _, Nat.le_refl _⟩ (Nat.le_of_ble_eq_true rfl) rfl ?_
                                    refine jm_Cl.mono h (fun o m68 h hr _ => ?_)
                                    obtain ⟨r69, rfl⟩ := jm_rokL hr
                                    have h := h _ rfl
                                    exact jm_ret (o := some (jm_L _)) d_X11_wordOf_377 rfl ⟨Nat.le_refl _, Nat.le_refl _⟩ jm_r_L h rfl
                                  · have h := h.2 c67
                                    by_cases c70 : v0 = 17
                                    · have h := h.1 c70
                                      refine jm_table (tgt := 378) (off := 377) d_X11_wordOf_1 (by rw [c70]; decide) (by rw [c70]; decide) (by rw [c70]; rfl) (by decide) ?_
                                      refine jm_bipush (v := 110) d_X11_wordOf_378 rfl (jm_okI (by decide) (by decide)) ?_
                                      refine jm_bipush (v := 111) d_X11_wordOf_380 rfl (jm_okI (by decide) (by decide)) ?_
                                      refine jm_bipush (v := 116) d_X11_wordOf_382 rfl (jm_okI (by decide) (by decide)) ?_
                                      refine jm_iconst (v := 0) d_X11_wordOf_384 rfl (jm_okI (by decide) (by decide)) ?_
                                      refine jm_invS (n1 := jm_N) (mc := 0) (ms := 0) (av := [jm_I _, jm_I _, jm_I _, jm_I _]) w_X11_spelt l_X11_156 d_X11_wordOf_385 rfl ⟨Nat.le_refl _, Nat.le_refl _⟩ (Nat.le_of_ble_eq_true rfl) rfl ?_
                                      refine jm_Cl.mono h (fun o m71 h hr _ => ?_)
                                      obtain ⟨r72, rfl⟩ := jm_rokL hr
                                      have h := h _ rfl
                                      exact jm_ret (o := some (jm_L _)) d_X11_wordOf_388 rfl ⟨Nat.le_refl _, Nat.le_refl _⟩ jm_r_L h rfl
                                    · have h := h.2 c70
                                      by_cases c73 : v0 = 18
                                      · have h := h.1 c73
                                        refine jm_table (tgt := 389) (off := 388) d_X11_wordOf_1 (by rw [c73]; decide) (by rw [c73]; decide) (by rw [c73]; rfl) (by decide) ?_
                                        refine jm_bipush (v := 98) d_X11_wordOf_389 rfl (jm_okI (by decide) (by decide)) ?_
                                        refine jm_bipush (v := 121) d_X11_wordOf_391 rfl (jm_okI (by decide) (by decide)) ?_
                                        refine jm_iconst (v := 0) d_X11_wordOf_393 rfl (jm_okI (by decide) (by decide)) ?_
                                        refine jm_iconst (v := 0) d_X11_wordOf_394 rfl (jm_okI (by decide) (by decide)) ?_
                                        refine jm_invS (n1 := jm_N) (mc := 0) (ms := 0) (av := [jm_I _, jm_I _, jm_I _, jm_I _]) w_X11_spelt l_X11_156 d_X11_wordOf_395 rfl ⟨Nat.le_refl _, Nat.le_refl _⟩ (Nat.le_of_ble_eq_true rfl) rfl ?_
                                        refine jm_Cl.mono h (fun o m74 h hr _ => ?_)
                                        obtain ⟨r75, rfl⟩ := jm_rokL hr
                                        have h := h _ rfl
                                        exact jm_ret (o := some (jm_L _)) d_X11_wordOf_398 rfl ⟨Nat.le_refl _, Nat.le_refl _⟩ jm_r_L h rfl
                                      · have h := h.2 c73
                                        by_cases c76 : v0 = 19
                                        · have h := h.1 c76
                                          refine jm_table (tgt := 399) (off := 398) d_X11_wordOf_1 (by rw [c76]; decide) (by rw [c76]; decide) (by rw [c76]; rfl) (by decide) ?_
                                          refine jm_bipush (v := 116) d_X11_wordOf_399 rfl (jm_okI (by decide) (by decide)) ?_
                                          refine jm_bipush (v := 111) d_X11_wordOf_401 rfl (jm_okI (by decide) (by decide)) ?_
                                          refine jm_iconst (v := 0) d_X11_wordOf_403 rfl (jm_okI (by decide) (by decide)) ?_
                                          refine jm_iconst (v := 0) d_X11_wordOf_404 rfl (jm_okI (by decide) (by decide)) ?_
                                          refine jm_invS (n1 := jm_N) (mc := 0) (ms := 0) (av := [jm_I _, jm_I _, jm_I _, jm_I _]) w_X11_spelt l_X11_156 d_X11_wordOf_405 rfl ⟨Nat.le_refl _, Nat.le_refl _⟩ (Nat.le_of_ble_eq_true rfl) rfl ?_
                                          refine jm_Cl.mono h (fun o m77 h hr _ => ?_)
                                          obtain ⟨r78, rfl⟩ := jm_rokL hr
                                          have h := h _ rfl
                                          exact jm_ret (o := some (jm_L _)) d_X11_wordOf_408 rfl ⟨Nat.le_refl _, Nat.le_refl _⟩ jm_r_L h rfl
                                        · have h := h.2 c76
                                          by_cases c79 : v0 = 20
                                          · have h := h.1 c79
                                            refine jm_table (tgt := 409) (off := 408) d_X11_wordOf_1 (by rw [c79]; decide) (by rw [c79]; decide) (by rw [c79]; rfl) (by decide) ?_
                                            refine jm_bipush (v := 105) d_X11_wordOf_409 rfl (jm_okI (by decide) (by decide)) ?_
                                            refine jm_bipush (v := 115) d_X11_wordOf_411 rfl (jm_okI (by decide) (by decide)) ?_
                                            refine jm_iconst (v := 0) d_X11_wordOf_413 rfl (jm_okI (by decide) (by decide)) ?_
                                            refine jm_iconst (v := 0) d_X11_wordOf_414 rfl (jm_okI (by decide) (by decide)) ?_
                                            refine jm_invS (n1 := jm_N) (mc := 0) (ms := 0) (av := [jm_I _, jm_I _, jm_I _, jm_I _]) w_X11_spelt l_X11_156 d_X11_wordOf_415 rfl ⟨Nat.le_refl _, Nat.le_refl _⟩ (Nat.le_of_ble_eq_true rfl) rfl ?_
                                            refine jm_Cl.mono h (fun o m80 h hr _ => ?_)
                                            obtain ⟨r81, rfl⟩ := jm_rokL hr
                                            have h := h _ rfl
                                            exact jm_ret (o := some (jm_L _)) d_X11_wordOf_418 rfl ⟨Nat.le_refl _, Nat.le_refl _⟩ jm_r_L h rfl
                                          · have h := h.2 c79
                                            by_cases c82 : v0 = 21
                                            · have h := h.1 c82
                                              refine jm_table (tgt := 419) (off := 418) d_X11_wordOf_1 (by rw [c82]; decide) (by rw [c82]; decide) (by rw [c82]; rfl) (by decide) ?_
                                              refine jm_bipush (v := 112) d_X11_wordOf_419 rfl (jm_okI (by decide) (by decide)) ?_
                                              refine jm_bipush (v := 108) d_X11_wordOf_421 rfl (jm_okI (by decide) (by decide)) ?_
                                              refine jm_bipush (v := 97) d_X11_wordOf_423 rfl (jm_okI (by decide) (by decide)) ?_
                                              refine jm_bipush (v := 99) d_X11_wordOf_425 rfl (jm_okI (by decide) (by decide)) ?_
                                              refine jm_invS (n1 := jm_N) (mc := 0) (ms := 0) (av := [jm_I _, jm_I _, jm_I _, jm_I _]) w_X11_spelt l_X11_156 d_X11_wordOf_427 rfl ⟨Nat.le_refl _, Nat.le_refl _⟩ (Nat.le_of_ble_eq_true rfl) rfl ?_
                                              refine jm_Cl.mono h (fun o m83 h hr _ => ?_)
                                              obtain ⟨r84, rfl⟩ := jm_rokL hr
                                              have h := h _ rfl
                                              refine jm_bipush (v := 101) d_X11_wordOf_430 rfl (jm_okI (by decide) (by decide)) ?_
                                              refine jm_iconst (v := 0) d_X11_wordOf_432 rfl (jm_okI (by decide) (by decide)) ?_
                                              refine jm_iconst (v := 0) d_X11_wordOf_433 rfl (jm_okI (by decide) (by decide)) ?_
                                              refine jm_invS (n1 := jm_N) (mc := 0) (ms := 0) (av := [jm_L _, jm_I _, jm_I _, jm_I _]) w_X11_on l_X11_160 d_X11_wordOf_434 rfl ⟨Nat.le_refl _, Nat.le_refl _⟩ (Nat.le_of_ble_eq_true rfl) rfl ?_
                                              refine jm_Cl.mono h (fun o m85 h hr _ => ?_)
                                              obtain ⟨r86, rfl⟩ := jm_rokL hr
                                              have h := h _ rfl
                                              exact jm_ret (o := some (jm_L _)) d_X11_wordOf_437 rfl ⟨Nat.le_refl _, Nat.le_refl _⟩ jm_r_L h rfl
                                            · have h := h.2 c82
                                              by_cases c87 : v0 = 22
                                              · have h := h.1 c87
                                                refine jm_table (tgt := 438) (off := 437) d_X11_wordOf_1 (by rw [c87]; decide) (by rw [c87]; decide) (by rw [c87]; rfl) (by decide) ?_
                                                refine jm_bipush (v := 116) d_X11_wordOf_438 rfl (jm_okI (by decide) (by decide)) ?_
                                                refine jm_bipush (v := 104) d_X11_wordOf_440 rfl (jm_okI (by decide) (by decide)) ?_
                                                refine jm_bipush (v := 114) d_X11_wordOf_442 rfl (jm_okI (by decide) (by decide)) ?_
                                                refine jm_bipush (v := 101) d_X11_wordOf_444 rfl (jm_okI (by decide) (by decide)) ?_
                                                refine jm_invS (n1 := jm_N) (mc := 0) (ms := 0) (av := [jm_I _, jm_I _, jm_I _, jm_I _]) w_X11_spelt l_X11_156 d_X11_wordOf_446 rfl ⟨Nat.le_refl _, Nat.le_refl _⟩ (Nat.le_of_ble_eq_true rfl) rfl ?_
                                                refine jm_Cl.mono h (fun o m88 h hr _ => ?_)
                                                obtain ⟨r89, rfl⟩ := jm_rokL hr
                                                have h := h _ rfl
                                                refine jm_bipush (v := 97) d_X11_wordOf_449 rfl (jm_okI (by decide) (by decide)) ?_
                                                refine jm_bipush (v := 100) d_X11_wordOf_451 rfl (jm_okI (by decide) (by decide)) ?_
                                                refine jm_iconst (v := 0) d_X11_wordOf_453 rfl (jm_okI (by decide) (by decide)) ?_
                                                refine jm_invS (n1 := jm_N) (mc := 0) (ms := 0) (av := [jm_L _, jm_I _, jm_I _, jm_I _]) w_X11_on l_X11_160 d_X11_wordOf_454 rfl ⟨Nat.le_refl _, Nat.le_refl _⟩ (Nat.le_of_ble_eq_true rfl) rfl ?_
                                                refine jm_Cl.mono h (fun o m90 h hr _ => ?_)
                                                obtain ⟨r91, rfl⟩ := jm_rokL hr
                                                have h := h _ rfl
                                                exact jm_ret (o := some (jm_L _)) d_X11_wordOf_457 rfl ⟨Nat.le_refl _, Nat.le_refl _⟩ jm_r_L h rfl
                                              · have h := h.2 c87
                                                by_cases c92 : v0 = 23
                                                · have h := h.1 c92
                                                  refine jm_table (tgt := 458) (off := 457) d_X11_wordOf_1 (by rw [c92]; decide) (by rw [c92]; decide) (by rw [c92]; rfl) (by decide) ?_
                                                  refine jm_bipush (v := 100) d_X11_wordOf_458 rfl (jm_okI (by decide) (by decide)) ?_
                                                  refine jm_bipush (v := 101) d_X11_wordOf_460 rfl (jm_okI (by decide) (by decide)) ?_
                                                  refine jm_bipush (v := 112) d_X11_wordOf_462 rfl (jm_okI (by decide) (by decide)) ?_
                                                  refine jm_bipush (v := 116) d_X11_wordOf_464 rfl (jm_okI (by decide) (by decide)) ?_
                                                  refine jm_invS (n1 := jm_N) (mc := 0) (ms := 0) (av := [jm_I _, jm_I _, jm_I _, jm_I _]) w_X11_spelt l_X11_156 d_X11_wordOf_466 rfl ⟨Nat.le_refl _, Nat.le_refl _⟩ (Nat.le_of_ble_eq_true rfl) rfl ?_
                                                  refine jm_Cl.mono h (fun o m93 h hr _ => ?_)
                                                  obtain ⟨r94, rfl⟩ := jm_rokL hr
                                                  have h := h _ rfl
                                                  refine jm_bipush (v := 104) d_X11_wordOf_469 rfl (jm_okI (by decide) (by decide)) ?_
                                                  refine jm_iconst (v := 0) d_X11_wordOf_471 rfl (jm_okI (by decide) (by decide)) ?_
                                                  refine jm_iconst (v := 0) d_X11_wordOf_472 rfl (jm_okI (by decide) (by decide)) ?_
                                                  refine jm_invS (n1 := jm_N) (mc := 0) (ms := 0) (av := [jm_L _, jm_I _, jm_I _, jm_I _]) w_X11_on l_X11_160 d_X11_wordOf_473 rfl ⟨Nat.le_refl _, Nat.le_refl _⟩ (Nat.le_of_ble_eq_true rfl) rfl ?_
                                                  refine jm_Cl.mono h (fun o m95 h hr _ => ?_)
                                                  obtain ⟨r96, rfl⟩ := jm_rokL hr
                                                  have h := h _ rfl
                                                  exact jm_ret (o := some (jm_L _)) d_X11_wordOf_476 rfl ⟨Nat.le_refl _, Nat.le_refl _⟩ jm_r_L h rfl
                                                · have h := h.2 c92
                                                  refine jm_tableD (tgt := 477) d_X11_wordOf_1 (jm_tb2 (jm_tb1 (jm_tb1 (jm_tb1 (jm_tb1 (jm_tb1 (jm_tb1 (jm_tb1 (jm_tb1 (jm_tb1 (jm_tb1 (jm_tb1 (jm_tb1 (jm_tb1 (jm_tb1 (jm_tb1 (jm_tb1 (jm_tb1 (jm_tb1 (jm_tb1 (jm_tb1 (jm_tb1 (jm_tb1 (jm_tb1 (jm_tb1 (jm_tb0 0) c1) c4) c7) c10) c13) c18) c23) c28) c33) c36) c41) c46) c51) c56) c61) c64) c67) c70) c73) c76) c79) c82) c87) c92) rfl) (by decide) ?_
                                                  refine jm_bipush (v := 115) d_X11_wordOf_477 rfl (jm_okI (by decide) (by decide)) ?_
                                                  refine jm_bipush (v := 116) d_X11_wordOf_479 rfl (jm_okI (by decide) (by decide)) ?_
                                                  refine jm_bipush (v := 97) d_X11_wordOf_481 rfl (jm_okI (by decide) (by decide)) ?_
                                                  refine jm_bipush (v := 116) d_X11_wordOf_483 rfl (jm_okI (by decide) (by decide)) ?_
                                                  refine jm_invS (n1 := jm_N) (mc := 0) (ms := 0) (av := [jm_I _, jm_I _, jm_I _, jm_I _]) w_X11_spelt l_X11_156 d_X11_wordOf_485 rfl ⟨Nat.le_refl _, Nat.le_refl _⟩ (Nat.le_of_ble_eq_true rfl) rfl ?_
                                                  refine jm_Cl.mono h (fun o m97 h hr _ => ?_)
                                                  obtain ⟨r98, rfl⟩ := jm_rokL hr
                                                  have h := h _ rfl
                                                  refine jm_bipush (v := 101) d_X11_wordOf_488 rfl (jm_okI (by decide) (by decide)) ?_
                                                  refine jm_iconst (v := 0) d_X11_wordOf_490 rfl (jm_okI (by decide) (by decide)) ?_
                                                  refine jm_iconst (v := 0) d_X11_wordOf_491 rfl (jm_okI (by decide) (by decide)) ?_
                                                  refine jm_invS (n1 := jm_N) (mc := 0) (ms := 0) (av := [jm_L _, jm_I _, jm_I _, jm_I _]) w_X11_on l_X11_160 d_X11_wordOf_492 rfl ⟨Nat.le_refl _, Nat.le_refl _⟩ (Nat.le_of_ble_eq_true rfl) rfl ?_
                                                  refine jm_Cl.mono h (fun o m99 h hr _ => ?_)
                                                  obtain ⟨r100, rfl⟩ := jm_rokL hr
                                                  have h := h _ rfl
                                                  exact jm_ret (o := some (jm_L _)) d_X11_wordOf_495 rfl ⟨Nat.le_refl _, Nat.le_refl _⟩ jm_r_L h rfl
/-! ('CombTableModel', 'isWord', '(I)Z') -/
theorem d_X11_isWord_0 : decode m_X11_isWord.2.1 0 = .ok (.aload_n 0, 1) := by decide +kernel
theorem d_X11_isWord_1 : decode m_X11_isWord.2.1 1 = .ok (.getfield 128, 3) := by decide +kernel
theorem d_X11_isWord_4 : decode m_X11_isWord.2.1 4 = .ok (.iconst 2, 1) := by decide +kernel
theorem d_X11_isWord_5 : decode m_X11_isWord.2.1 5 = .ok (.if_icmp .ne 19, 3) := by decide +kernel
theorem d_X11_isWord_8 : decode m_X11_isWord.2.1 8 = .ok (.aload_n 0, 1) := by decide +kernel
theorem d_X11_isWord_9 : decode m_X11_isWord.2.1 9 = .ok (.getfield 141, 3) := by decide +kernel
theorem d_X11_isWord_12 : decode m_X11_isWord.2.1 12 = .ok (.iload_n 1, 1) := by decide +kernel
theorem d_X11_isWord_13 : decode m_X11_isWord.2.1 13 = .ok (.invokestatic 164, 3) := by decide +kernel
theorem d_X11_isWord_16 : decode m_X11_isWord.2.1 16 = .ok (.lcmp, 1) := by decide +kernel
theorem d_X11_isWord_17 : decode m_X11_isWord.2.1 17 = .ok (.ifCond .ne 7, 3) := by decide +kernel
theorem d_X11_isWord_20 : decode m_X11_isWord.2.1 20 = .ok (.iconst 1, 1) := by decide +kernel
theorem d_X11_isWord_21 : decode m_X11_isWord.2.1 21 = .ok (.goto 4, 3) := by decide +kernel
theorem d_X11_isWord_24 : decode m_X11_isWord.2.1 24 = .ok (.iconst 0, 1) := by decide +kernel
theorem d_X11_isWord_25 : decode m_X11_isWord.2.1 25 = .ok (.ireturn, 1) := by decide +kernel
set_option maxRecDepth 20000 in
theorem e_X11_isWord {E : jm_E} {d : Nat} {μ : jm_M} {Q : Option jm_V → jm_M → Prop} {v1 : Int} (h : (∀ v ∈ ([jm_R 133, jm_I v1] : List jm_V), jm_ok v) →
  ((μ 133 7 ≠ 2 →
    Q (some (jm_I 0)) μ) ∧
   (¬ (μ 133 7 ≠ 2) →
    jc E m_X11_wordOf d [jm_I v1] μ (fun (o : Option jm_V) (m2 : jm_M) => ∀ r3 : Int, o = some (jm_L r3) →
    (((jm_cmp (μ 133 12) r3) ≠ 0 →
      Q (some (jm_I 0)) m2) ∧
     (¬ ((jm_cmp (μ 133 12) r3) ≠ 0) →
      Q (some (jm_I 1)) m2)))))) : jc E m_X11_isWord (d + 1) [jm_R 133, jm_I v1] μ Q := by
  refine jm_Cl.of2 (by decide +kernel) (L0 := [some (jm_R 133), some (jm_I v1)]) rfl (Nat.le_of_ble_eq_true rfl) (fun hok => ?_)
  have h := h hok
  refine jm_aloadn d_X11_isWord_0 rfl ?_
  refine jm_getI (k := 7) (ki := 7) cf_X11 (Nat.le_of_ble_eq_true rfl) f_X11_128 d_X11_isWord_1 rfl rfl is_133 rfl ?_
  refine jm_iconst (v := 2) d_X11_isWord_4 rfl (jm_okI (by decide) (by decide)) ?_
  refine jm_icmp_ne (tgt := 24) d_X11_isWord_5 (by decide) (fun c1 => ?_) (fun c1 => ?_)
  · have h := h.1 c1
    refine jm_iconst (v := 0) d_X11_isWord_24 rfl (jm_okI (by decide) (by decide)) ?_
    exact jm_ret (o := some (jm_I _)) d_X11_isWord_25 rfl ⟨Nat.le_refl _, Nat.le_refl _⟩ (jm_r_Z (by decide)) h rfl
  · have h := h.2 c1
    refine jm_aloadn d_X11_isWord_8 rfl ?_
    refine jm_getL (k := 12) (ki := 12) cf_X11 (Nat.le_of_ble_eq_true rfl) f_X11_141 d_X11_isWord_9 rfl rfl is_133 rfl ?_
    refine jm_iloadn d_X11_isWord_12 rfl ?_
    refine jm_invS (n1 := jm_N) (mc := 0) (ms := 0) (av := [jm_I _]) w_X11_wordOf l_X11_164 d_X11_isWord_13 rfl ⟨Nat.le_refl _, Nat.le_refl _⟩ (Nat.le_of_ble_eq_true rfl) rfl ?_
    refine jm_Cl.mono h (fun o m2 h hr _ => ?_)
    obtain ⟨r3, rfl⟩ := jm_rokL hr
    have h := h _ rfl
    refine jm_lcmp d_X11_isWord_16 ?_
    refine jm_if_ne (tgt := 24) d_X11_isWord_17 (by decide) (fun c4 => ?_) (fun c4 => ?_)
    · have h := h.1 c4
      refine jm_iconst (v := 0) d_X11_isWord_24 rfl (jm_okI (by decide) (by decide)) ?_
      exact jm_ret (o := some (jm_I _)) d_X11_isWord_25 rfl ⟨Nat.le_refl _, Nat.le_refl _⟩ (jm_r_Z (by decide)) h rfl
    · have h := h.2 c4
      refine jm_iconst (v := 1) d_X11_isWord_20 rfl (jm_okI (by decide) (by decide)) ?_
      refine jm_goto (tgt := 25) d_X11_isWord_21 (by decide) ?_
      exact jm_ret (o := some (jm_I _)) d_X11_isWord_25 rfl ⟨Nat.le_refl _, Nat.le_refl _⟩ (jm_r_Z (by decide)) h rfl
/-! ('CombTableModel', 'isSign', '(I)Z') -/
theorem d_X11_isSign_0 : decode m_X11_isSign.2.1 0 = .ok (.aload_n 0, 1) := by decide +kernel
theorem d_X11_isSign_1 : decode m_X11_isSign.2.1 1 = .ok (.getfield 128, 3) := by decide +kernel
theorem d_X11_isSign_4 : decode m_X11_isSign.2.1 4 = .ok (.iconst 4, 1) := by decide +kernel
theorem d_X11_isSign_5 : decode m_X11_isSign.2.1 5 = .ok (.if_icmp .ne 15, 3) := by decide +kernel
theorem d_X11_isSign_8 : decode m_X11_isSign.2.1 8 = .ok (.aload_n 0, 1) := by decide +kernel
theorem d_X11_isSign_9 : decode m_X11_isSign.2.1 9 = .ok (.getfield 138, 3) := by decide +kernel
theorem d_X11_isSign_12 : decode m_X11_isSign.2.1 12 = .ok (.iload_n 1, 1) := by decide +kernel
theorem d_X11_isSign_13 : decode m_X11_isSign.2.1 13 = .ok (.if_icmp .ne 7, 3) := by decide +kernel
theorem d_X11_isSign_16 : decode m_X11_isSign.2.1 16 = .ok (.iconst 1, 1) := by decide +kernel
theorem d_X11_isSign_17 : decode m_X11_isSign.2.1 17 = .ok (.goto 4, 3) := by decide +kernel
theorem d_X11_isSign_20 : decode m_X11_isSign.2.1 20 = .ok (.iconst 0, 1) := by decide +kernel
theorem d_X11_isSign_21 : decode m_X11_isSign.2.1 21 = .ok (.ireturn, 1) := by decide +kernel
set_option maxRecDepth 20000 in
theorem e_X11_isSign {E : jm_E} {d : Nat} {μ : jm_M} {Q : Option jm_V → jm_M → Prop} {v1 : Int} (h : (∀ v ∈ ([jm_R 133, jm_I v1] : List jm_V), jm_ok v) →
  ((μ 133 7 ≠ 4 →
    Q (some (jm_I 0)) μ) ∧
   (¬ (μ 133 7 ≠ 4) →
    ((μ 133 9 ≠ v1 →
      Q (some (jm_I 0)) μ) ∧
     (¬ (μ 133 9 ≠ v1) →
      Q (some (jm_I 1)) μ))))) : jc E m_X11_isSign (d + 1) [jm_R 133, jm_I v1] μ Q := by
  refine jm_Cl.of2 (by decide +kernel) (L0 := [some (jm_R 133), some (jm_I v1)]) rfl (Nat.le_of_ble_eq_true rfl) (fun hok => ?_)
  have h := h hok
  refine jm_aloadn d_X11_isSign_0 rfl ?_
  refine jm_getI (k := 7) (ki := 7) cf_X11 (Nat.le_of_ble_eq_true rfl) f_X11_128 d_X11_isSign_1 rfl rfl is_133 rfl ?_
  refine jm_iconst (v := 4) d_X11_isSign_4 rfl (jm_okI (by decide) (by decide)) ?_
  refine jm_icmp_ne (tgt := 20) d_X11_isSign_5 (by decide) (fun c1 => ?_) (fun c1 => ?_)
  · have h := h.1 c1
    refine jm_iconst (v := 0) d_X11_isSign_20 rfl (jm_okI (by decide) (by decide)) ?_
    exact jm_ret (o := some (jm_I _)) d_X11_isSign_21 rfl ⟨Nat.le_refl _, Nat.le_refl _⟩ (jm_r_Z (by decide)) h rfl
  · have h := h.2 c1
    refine jm_aloadn d_X11_isSign_8 rfl ?_
    refine jm_getI (k := 9) (ki := 9) cf_X11 (Nat.le_of_ble_eq_true rfl) f_X11_138 d_X11_isSign_9 rfl rfl is_133 rfl ?_
    refine jm_iloadn d_X11_isSign_12 rfl ?_
    refine jm_icmp_ne (tgt := 20) d_X11_isSign_13 (by decide) (fun c2 => ?_) (fun c2 => ?_)
    · have h := h.1 c2
      refine jm_iconst (v := 0) d_X11_isSign_20 rfl (jm_okI (by decide) (by decide)) ?_
      exact jm_ret (o := some (jm_I _)) d_X11_isSign_21 rfl ⟨Nat.le_refl _, Nat.le_refl _⟩ (jm_r_Z (by decide)) h rfl
    · have h := h.2 c2
      refine jm_iconst (v := 1) d_X11_isSign_16 rfl (jm_okI (by decide) (by decide)) ?_
      refine jm_goto (tgt := 21) d_X11_isSign_17 (by decide) ?_
      exact jm_ret (o := some (jm_I _)) d_X11_isSign_21 rfl ⟨Nat.le_refl _, Nat.le_refl _⟩ (jm_r_Z (by decide)) h rfl
/-! ('CombTableModel', 'isName', '()Z') -/
theorem d_X11_isName_0 : decode m_X11_isName.2.1 0 = .ok (.aload_n 0, 1) := by decide +kernel
theorem d_X11_isName_1 : decode m_X11_isName.2.1 1 = .ok (.getfield 128, 3) := by decide +kernel
theorem d_X11_isName_4 : decode m_X11_isName.2.1 4 = .ok (.iconst 2, 1) := by decide +kernel
theorem d_X11_isName_5 : decode m_X11_isName.2.1 5 = .ok (.if_icmp .eq 5, 3) := by decide +kernel
theorem d_X11_isName_8 : decode m_X11_isName.2.1 8 = .ok (.iconst 0, 1) := by decide +kernel
theorem d_X11_isName_9 : decode m_X11_isName.2.1 9 = .ok (.ireturn, 1) := by decide +kernel
theorem d_X11_isName_10 : decode m_X11_isName.2.1 10 = .ok (.iconst 0, 1) := by decide +kernel
theorem d_X11_isName_11 : decode m_X11_isName.2.1 11 = .ok (.istore_n 1, 1) := by decide +kernel
theorem d_X11_isName_12 : decode m_X11_isName.2.1 12 = .ok (.iload_n 1, 1) := by decide +kernel
theorem d_X11_isName_13 : decode m_X11_isName.2.1 13 = .ok (.bipush 24, 2) := by decide +kernel
theorem d_X11_isName_15 : decode m_X11_isName.2.1 15 = .ok (.if_icmp .gt 23, 3) := by decide +kernel
theorem d_X11_isName_18 : decode m_X11_isName.2.1 18 = .ok (.aload_n 0, 1) := by decide +kernel
theorem d_X11_isName_19 : decode m_X11_isName.2.1 19 = .ok (.getfield 141, 3) := by decide +kernel
theorem d_X11_isName_22 : decode m_X11_isName.2.1 22 = .ok (.iload_n 1, 1) := by decide +kernel
theorem d_X11_isName_23 : decode m_X11_isName.2.1 23 = .ok (.invokestatic 164, 3) := by decide +kernel
theorem d_X11_isName_26 : decode m_X11_isName.2.1 26 = .ok (.lcmp, 1) := by decide +kernel
theorem d_X11_isName_27 : decode m_X11_isName.2.1 27 = .ok (.ifCond .ne 5, 3) := by decide +kernel
theorem d_X11_isName_30 : decode m_X11_isName.2.1 30 = .ok (.iconst 0, 1) := by decide +kernel
theorem d_X11_isName_31 : decode m_X11_isName.2.1 31 = .ok (.ireturn, 1) := by decide +kernel
theorem d_X11_isName_32 : decode m_X11_isName.2.1 32 = .ok (.iinc 1 1, 3) := by decide +kernel
theorem d_X11_isName_35 : decode m_X11_isName.2.1 35 = .ok (.goto (-23), 3) := by decide +kernel
theorem d_X11_isName_38 : decode m_X11_isName.2.1 38 = .ok (.iconst 1, 1) := by decide +kernel
theorem d_X11_isName_39 : decode m_X11_isName.2.1 39 = .ok (.ireturn, 1) := by decide +kernel
set_option maxRecDepth 20000 in
theorem e_X11_isName {E : jm_E} {d : Nat} {μ : jm_M} {Q : Option jm_V → jm_M → Prop}  (h : (∀ v ∈ ([jm_R 133] : List jm_V), jm_ok v) →
  ((μ 133 7 = 2 →
    jg E m_X11_isName d 12 [some (jm_R 133), some (jm_I 0)] [] μ Q) ∧
   (¬ (μ 133 7 = 2) →
    Q (some (jm_I 0)) μ))) : jc E m_X11_isName (d + 1) [jm_R 133] μ Q := by
  refine jm_Cl.of2 (by decide +kernel) (L0 := [some (jm_R 133), none]) rfl (Nat.le_of_ble_eq_true rfl) (fun hok => ?_)
  have h := h hok
  refine jm_aloadn d_X11_isName_0 rfl ?_
  refine jm_getI (k := 7) (ki := 7) cf_X11 (Nat.le_of_ble_eq_true rfl) f_X11_128 d_X11_isName_1 rfl rfl is_133 rfl ?_
  refine jm_iconst (v := 2) d_X11_isName_4 rfl (jm_okI (by decide) (by decide)) ?_
  refine jm_icmp_eq (tgt := 10) d_X11_isName_5 (by decide) (fun c1 => ?_) (fun c1 => ?_)
  · have h := h.1 c1
    refine jm_iconst (v := 0) d_X11_isName_10 rfl (jm_okI (by decide) (by decide)) ?_
    refine jm_istoren (L' := [some (jm_R _), some (jm_I _)]) d_X11_isName_11 (Nat.le_of_ble_eq_true rfl) rfl ?_
    exact h
  · have h := h.2 c1
    refine jm_iconst (v := 0) d_X11_isName_8 rfl (jm_okI (by decide) (by decide)) ?_
    exact jm_ret (o := some (jm_I _)) d_X11_isName_9 rfl ⟨Nat.le_refl _, Nat.le_refl _⟩ (jm_r_Z (by decide)) h rfl
set_option maxRecDepth 20000 in
theorem r_X11_isName_12 {E : jm_E} {d : Nat} {μ : jm_M} {Q : Option jm_V → jm_M → Prop} {v1 : Int} (h :
  ((24 < v1 →
    Q (some (jm_I 1)) μ) ∧
   (¬ (24 < v1) →
    jc E m_X11_wordOf d [jm_I v1] μ (fun (o : Option jm_V) (m2 : jm_M) => ∀ r3 : Int, o = some (jm_L r3) →
    (((jm_cmp (μ 133 12) r3) ≠ 0 →
      jg E m_X11_isName d 12 [some (jm_R 133), some (jm_I (jm_wr (v1 + 1)))] [] m2 Q) ∧
     (¬ ((jm_cmp (μ 133 12) r3) ≠ 0) →
      Q (some (jm_I 0)) m2)))))) : jg E m_X11_isName d 12 [some (jm_R 133), some (jm_I v1)] [] μ Q := by
  refine jm_iloadn d_X11_isName_12 rfl ?_
  refine jm_bipush (v := 24) d_X11_isName_13 rfl (jm_okI (by decide) (by decide)) ?_
  refine jm_icmp_gt (tgt := 38) d_X11_isName_15 (by decide) (fun c1 => ?_) (fun c1 => ?_)
  · have h := h.1 c1
    refine jm_iconst (v := 1) d_X11_isName_38 rfl (jm_okI (by decide) (by decide)) ?_
    exact jm_ret (o := some (jm_I _)) d_X11_isName_39 rfl ⟨Nat.le_refl _, Nat.le_refl _⟩ (jm_r_Z (by decide)) h rfl
  · have h := h.2 c1
    refine jm_aloadn d_X11_isName_18 rfl ?_
    refine jm_getL (k := 12) (ki := 12) cf_X11 (Nat.le_of_ble_eq_true rfl) f_X11_141 d_X11_isName_19 rfl rfl is_133 rfl ?_
    refine jm_iloadn d_X11_isName_22 rfl ?_
    refine jm_invS (n1 := jm_N) (mc := 0) (ms := 0) (av := [jm_I _]) w_X11_wordOf l_X11_164 d_X11_isName_23 rfl ⟨Nat.le_refl _, Nat.le_refl _⟩ (Nat.le_of_ble_eq_true rfl) rfl ?_
    refine jm_Cl.mono h (fun o m2 h hr _ => ?_)
    obtain ⟨r3, rfl⟩ := jm_rokL hr
    have h := h _ rfl
    refine jm_lcmp d_X11_isName_26 ?_
    refine jm_if_ne (tgt := 32) d_X11_isName_27 (by decide) (fun c4 => ?_) (fun c4 => ?_)
    · have h := h.1 c4
      refine jm_iinc (L' := [some (jm_R _), some (jm_I _)]) d_X11_isName_32 rfl rfl (Nat.le_of_ble_eq_true rfl) rfl ?_
      refine jm_goto (tgt := 12) d_X11_isName_35 (by decide) ?_
      exact h
    · have h := h.2 c4
      refine jm_iconst (v := 0) d_X11_isName_30 rfl (jm_okI (by decide) (by decide)) ?_
      exact jm_ret (o := some (jm_I _)) d_X11_isName_31 rfl ⟨Nat.le_refl _, Nat.le_refl _⟩ (jm_r_Z (by decide)) h rfl
