/-! ('CombTableModel', 'isWhole', '()Z') -/
theorem d_X11_isWhole_0 : decode m_X11_isWhole.2.1 0 = .ok (.iconst 0, 1) := by decide +kernel
theorem d_X11_isWhole_1 : decode m_X11_isWhole.2.1 1 = .ok (.istore_n 1, 1) := by decide +kernel
theorem d_X11_isWhole_2 : decode m_X11_isWhole.2.1 2 = .ok (.iload_n 1, 1) := by decide +kernel
theorem d_X11_isWhole_3 : decode m_X11_isWhole.2.1 3 = .ok (.iconst 2, 1) := by decide +kernel
theorem d_X11_isWhole_4 : decode m_X11_isWhole.2.1 4 = .ok (.aload_n 0, 1) := by decide +kernel
theorem d_X11_isWhole_5 : decode m_X11_isWhole.2.1 5 = .ok (.getfield 13, 3) := by decide +kernel
theorem d_X11_isWhole_8 : decode m_X11_isWhole.2.1 8 = .ok (.sipush 861, 3) := by decide +kernel
theorem d_X11_isWhole_11 : decode m_X11_isWhole.2.1 11 = .ok (.iaload, 1) := by decide +kernel
theorem d_X11_isWhole_12 : decode m_X11_isWhole.2.1 12 = .ok (.imul, 1) := by decide +kernel
theorem d_X11_isWhole_13 : decode m_X11_isWhole.2.1 13 = .ok (.if_icmp .ge 25, 3) := by decide +kernel
theorem d_X11_isWhole_16 : decode m_X11_isWhole.2.1 16 = .ok (.aload_n 0, 1) := by decide +kernel
theorem d_X11_isWhole_17 : decode m_X11_isWhole.2.1 17 = .ok (.getfield 13, 3) := by decide +kernel
theorem d_X11_isWhole_20 : decode m_X11_isWhole.2.1 20 = .ok (.sipush 862, 3) := by decide +kernel
theorem d_X11_isWhole_23 : decode m_X11_isWhole.2.1 23 = .ok (.iload_n 1, 1) := by decide +kernel
theorem d_X11_isWhole_24 : decode m_X11_isWhole.2.1 24 = .ok (.iadd, 1) := by decide +kernel
theorem d_X11_isWhole_25 : decode m_X11_isWhole.2.1 25 = .ok (.iaload, 1) := by decide +kernel
theorem d_X11_isWhole_26 : decode m_X11_isWhole.2.1 26 = .ok (.iconst (-1), 1) := by decide +kernel
theorem d_X11_isWhole_27 : decode m_X11_isWhole.2.1 27 = .ok (.if_icmp .ne 5, 3) := by decide +kernel
theorem d_X11_isWhole_30 : decode m_X11_isWhole.2.1 30 = .ok (.iconst 0, 1) := by decide +kernel
theorem d_X11_isWhole_31 : decode m_X11_isWhole.2.1 31 = .ok (.ireturn, 1) := by decide +kernel
theorem d_X11_isWhole_32 : decode m_X11_isWhole.2.1 32 = .ok (.iinc 1 1, 3) := by decide +kernel
theorem d_X11_isWhole_35 : decode m_X11_isWhole.2.1 35 = .ok (.goto (-33), 3) := by decide +kernel
theorem d_X11_isWhole_38 : decode m_X11_isWhole.2.1 38 = .ok (.iconst 1, 1) := by decide +kernel
theorem d_X11_isWhole_39 : decode m_X11_isWhole.2.1 39 = .ok (.ireturn, 1) := by decide +kernel
set_option maxRecDepth 20000 in
theorem e_X11_isWhole {E : jm_E} {d : Nat} {μ : jm_M} {Q : Option jm_V → jm_M → Prop}  (h : (∀ v ∈ ([jm_R 133] : List jm_V), jm_ok v) →
  jg E m_X11_isWhole d 2 [some (jm_R 133), some (jm_I 0)] [] μ Q) : jc E m_X11_isWhole (d + 1) [jm_R 133] μ Q := by
  refine jm_Cl.of2 (by decide +kernel) (L0 := [some (jm_R 133), none]) rfl (Nat.le_of_ble_eq_true rfl) (fun hok => ?_)
  have h := h hok
  refine jm_iconst (v := 0) d_X11_isWhole_0 rfl (jm_okI (by decide) (by decide)) ?_
  refine jm_istoren (L' := [some (jm_R _), some (jm_I _)]) d_X11_isWhole_1 (Nat.le_of_ble_eq_true rfl) rfl ?_
  exact h
set_option maxRecDepth 20000 in
theorem r_X11_isWhole_2 {E : jm_E} {d : Nat} {μ : jm_M} {Q : Option jm_V → jm_M → Prop} {v1 : Int} (h :
  (((jm_wr (2 * (μ 135 861))) ≤ v1 →
    Q (some (jm_I 1)) μ) ∧
   (¬ ((jm_wr (2 * (μ 135 861))) ≤ v1) →
    (0 ≤ jm_wr (862 + v1) ∧ jm_wr (862 + v1) < 1152) ∧
    (((μ 135 (jm_wr (862 + v1))) ≠ ((-1)) →
      jg E m_X11_isWhole d 2 [some (jm_R 133), some (jm_I (jm_wr (v1 + 1)))] [] μ Q) ∧
     (¬ ((μ 135 (jm_wr (862 + v1))) ≠ ((-1))) →
      Q (some (jm_I 0)) μ))))) : jg E m_X11_isWhole d 2 [some (jm_R 133), some (jm_I v1)] [] μ Q := by
  refine jm_iloadn d_X11_isWhole_2 rfl ?_
  refine jm_iconst (v := 2) d_X11_isWhole_3 rfl (jm_okI (by decide) (by decide)) ?_
  refine jm_aloadn d_X11_isWhole_4 rfl ?_
  refine jm_getF (k := 14) (ki := 14) rfl cf_X11 (Nat.le_of_ble_eq_true rfl) f_X11_13 d_X11_isWhole_5 rfl rfl is_133 fr_133_14 ?_
  refine jm_sipush (v := 861) d_X11_isWhole_8 rfl (jm_okI (by decide) (by decide)) ?_
  refine jm_iaload d_X11_isWhole_11 (ixl_135 (by decide) (by decide)) ?_
  refine jm_imul d_X11_isWhole_12 ?_
  refine jm_icmp_ge (tgt := 38) d_X11_isWhole_13 (by decide) (fun c1 => ?_) (fun c1 => ?_)
  · have h := h.1 c1
    refine jm_iconst (v := 1) d_X11_isWhole_38 rfl (jm_okI (by decide) (by decide)) ?_
    exact jm_ret (o := some (jm_I _)) d_X11_isWhole_39 rfl ⟨Nat.le_refl _, Nat.le_refl _⟩ (jm_r_Z (by decide)) h rfl
  · have h := h.2 c1
    refine jm_aloadn d_X11_isWhole_16 rfl ?_
    refine jm_getF (k := 14) (ki := 14) rfl cf_X11 (Nat.le_of_ble_eq_true rfl) f_X11_13 d_X11_isWhole_17 rfl rfl is_133 fr_133_14 ?_
    refine jm_sipush (v := 862) d_X11_isWhole_20 rfl (jm_okI (by decide) (by decide)) ?_
    refine jm_iloadn d_X11_isWhole_23 rfl ?_
    refine jm_iadd d_X11_isWhole_24 ?_
    obtain ⟨f2, h⟩ := h
    refine jm_iaload d_X11_isWhole_25 (ixl_135 f2.1 f2.2) ?_
    refine jm_iconst (v := (-1)) d_X11_isWhole_26 rfl (jm_okI (by decide) (by decide)) ?_
    refine jm_icmp_ne (tgt := 32) d_X11_isWhole_27 (by decide) (fun c3 => ?_) (fun c3 => ?_)
    · have h := h.1 c3
      refine jm_iinc (L' := [some (jm_R _), some (jm_I _)]) d_X11_isWhole_32 rfl rfl (Nat.le_of_ble_eq_true rfl) rfl ?_
      refine jm_goto (tgt := 2) d_X11_isWhole_35 (by decide) ?_
      exact h
    · have h := h.2 c3
      refine jm_iconst (v := 0) d_X11_isWhole_30 rfl (jm_okI (by decide) (by decide)) ?_
      exact jm_ret (o := some (jm_I _)) d_X11_isWhole_31 rfl ⟨Nat.le_refl _, Nat.le_refl _⟩ (jm_r_Z (by decide)) h rfl
/-! ('CombTableModel', 'bits', '(I)I') -/
theorem d_X11_bits_0 : decode m_X11_bits.2.1 0 = .ok (.iconst 0, 1) := by decide +kernel
theorem d_X11_bits_1 : decode m_X11_bits.2.1 1 = .ok (.istore_n 1, 1) := by decide +kernel
theorem d_X11_bits_2 : decode m_X11_bits.2.1 2 = .ok (.iload_n 0, 1) := by decide +kernel
theorem d_X11_bits_3 : decode m_X11_bits.2.1 3 = .ok (.istore_n 2, 1) := by decide +kernel
theorem d_X11_bits_4 : decode m_X11_bits.2.1 4 = .ok (.iload_n 2, 1) := by decide +kernel
theorem d_X11_bits_5 : decode m_X11_bits.2.1 5 = .ok (.ifCond .eq 15, 3) := by decide +kernel
theorem d_X11_bits_8 : decode m_X11_bits.2.1 8 = .ok (.iinc 1 1, 3) := by decide +kernel
theorem d_X11_bits_11 : decode m_X11_bits.2.1 11 = .ok (.iload_n 2, 1) := by decide +kernel
theorem d_X11_bits_12 : decode m_X11_bits.2.1 12 = .ok (.iload_n 2, 1) := by decide +kernel
theorem d_X11_bits_13 : decode m_X11_bits.2.1 13 = .ok (.iconst 1, 1) := by decide +kernel
theorem d_X11_bits_14 : decode m_X11_bits.2.1 14 = .ok (.isub, 1) := by decide +kernel
theorem d_X11_bits_15 : decode m_X11_bits.2.1 15 = .ok (.iand, 1) := by decide +kernel
theorem d_X11_bits_16 : decode m_X11_bits.2.1 16 = .ok (.istore_n 2, 1) := by decide +kernel
theorem d_X11_bits_17 : decode m_X11_bits.2.1 17 = .ok (.goto (-13), 3) := by decide +kernel
theorem d_X11_bits_20 : decode m_X11_bits.2.1 20 = .ok (.iload_n 1, 1) := by decide +kernel
theorem d_X11_bits_21 : decode m_X11_bits.2.1 21 = .ok (.ireturn, 1) := by decide +kernel
set_option maxRecDepth 20000 in
theorem e_X11_bits {E : jm_E} {d : Nat} {μ : jm_M} {Q : Option jm_V → jm_M → Prop} {v0 : Int} (h : (∀ v ∈ ([jm_I v0] : List jm_V), jm_ok v) →
  jg E m_X11_bits d 4 [none, some (jm_I 0), some (jm_I v0)] [] μ Q) : jc E m_X11_bits (d + 1) [jm_I v0] μ Q := by
  refine jm_Cl.of2 (by decide +kernel) (L0 := [some (jm_I v0), none, none]) rfl (Nat.le_of_ble_eq_true rfl) (fun hok => ?_)
  have h := h hok
  refine jm_iconst (v := 0) d_X11_bits_0 rfl (jm_okI (by decide) (by decide)) ?_
  refine jm_istoren (L' := [some (jm_I _), some (jm_I _), none]) d_X11_bits_1 (Nat.le_of_ble_eq_true rfl) rfl ?_
  refine jm_iloadn d_X11_bits_2 rfl ?_
  refine jm_istoren (L' := [some (jm_I _), some (jm_I _), some (jm_I _)]) d_X11_bits_3 (Nat.le_of_ble_eq_true rfl) rfl ?_
  exact jm_weak2 h (And.intro rfl (And.intro rfl trivial))
set_option maxRecDepth 20000 in
theorem r_X11_bits_4 {E : jm_E} {d : Nat} {μ : jm_M} {Q : Option jm_V → jm_M → Prop} {v1 v2 : Int} (h :
  ((v2 = 0 →
    Q (some (jm_I v1)) μ) ∧
   (¬ (v2 = 0) →
    ∀ x2 : Int, x2 = jm_and v2 (jm_wr (v2 - 1)) →
    jg E m_X11_bits d 4 [none, some (jm_I (jm_wr (v1 + 1))), some (jm_I x2)] [] μ Q))) : jg E m_X11_bits d 4 [none, some (jm_I v1), some (jm_I v2)] [] μ Q := by
  refine jm_iloadn d_X11_bits_4 rfl ?_
  refine jm_if_eq (tgt := 20) d_X11_bits_5 (by decide) (fun c1 => ?_) (fun c1 => ?_)
  · have h := h.1 c1
    refine jm_iloadn d_X11_bits_20 rfl ?_
    exact jm_ret (o := some (jm_I _)) d_X11_bits_21 rfl ⟨Nat.le_refl _, Nat.le_refl _⟩ jm_r_I h rfl
  · have h := h.2 c1
    refine jm_iinc (L' := [none, some (jm_I _), some (jm_I _)]) d_X11_bits_8 rfl rfl (Nat.le_of_ble_eq_true rfl) rfl ?_
    refine jm_iloadn d_X11_bits_11 rfl ?_
    refine jm_iloadn d_X11_bits_12 rfl ?_
    refine jm_iconst (v := 1) d_X11_bits_13 rfl (jm_okI (by decide) (by decide)) ?_
    refine jm_isub d_X11_bits_14 ?_
    refine jm_iand d_X11_bits_15 ?_
    have h := h _ rfl
    refine jm_istoren (L' := [none, some (jm_I _), some (jm_I _)]) d_X11_bits_16 (Nat.le_of_ble_eq_true rfl) rfl ?_
    refine jm_goto (tgt := 4) d_X11_bits_17 (by decide) ?_
    exact h
/-! ('CombTableModel', 'isTalk', '(I)Z') -/
theorem d_X11_isTalk_0 : decode m_X11_isTalk.2.1 0 = .ok (.aload_n 0, 1) := by decide +kernel
theorem d_X11_isTalk_1 : decode m_X11_isTalk.2.1 1 = .ok (.iconst 0, 1) := by decide +kernel
theorem d_X11_isTalk_2 : decode m_X11_isTalk.2.1 2 = .ok (.aload_n 0, 1) := by decide +kernel
theorem d_X11_isTalk_3 : decode m_X11_isTalk.2.1 3 = .ok (.getfield 13, 3) := by decide +kernel
theorem d_X11_isTalk_6 : decode m_X11_isTalk.2.1 6 = .ok (.iconst 0, 1) := by decide +kernel
theorem d_X11_isTalk_7 : decode m_X11_isTalk.2.1 7 = .ok (.invokevirtual 262, 3) := by decide +kernel
theorem d_X11_isTalk_10 : decode m_X11_isTalk.2.1 10 = .ok (.iconst 0, 1) := by decide +kernel
theorem d_X11_isTalk_11 : decode m_X11_isTalk.2.1 11 = .ok (.istore_n 2, 1) := by decide +kernel
theorem d_X11_isTalk_12 : decode m_X11_isTalk.2.1 12 = .ok (.iload_n 2, 1) := by decide +kernel
theorem d_X11_isTalk_13 : decode m_X11_isTalk.2.1 13 = .ok (.aload_n 0, 1) := by decide +kernel
theorem d_X11_isTalk_14 : decode m_X11_isTalk.2.1 14 = .ok (.getfield 13, 3) := by decide +kernel
theorem d_X11_isTalk_17 : decode m_X11_isTalk.2.1 17 = .ok (.sipush 861, 3) := by decide +kernel
theorem d_X11_isTalk_20 : decode m_X11_isTalk.2.1 20 = .ok (.iaload, 1) := by decide +kernel
theorem d_X11_isTalk_21 : decode m_X11_isTalk.2.1 21 = .ok (.if_icmp .ge 87, 3) := by decide +kernel
theorem d_X11_isTalk_24 : decode m_X11_isTalk.2.1 24 = .ok (.iload_n 1, 1) := by decide +kernel
theorem d_X11_isTalk_25 : decode m_X11_isTalk.2.1 25 = .ok (.iload_n 2, 1) := by decide +kernel
theorem d_X11_isTalk_26 : decode m_X11_isTalk.2.1 26 = .ok (.invokestatic 215, 3) := by decide +kernel
theorem d_X11_isTalk_29 : decode m_X11_isTalk.2.1 29 = .ok (.ifCond .eq 6, 3) := by decide +kernel
theorem d_X11_isTalk_32 : decode m_X11_isTalk.2.1 32 = .ok (.goto 70, 3) := by decide +kernel
theorem d_X11_isTalk_35 : decode m_X11_isTalk.2.1 35 = .ok (.aload_n 0, 1) := by decide +kernel
theorem d_X11_isTalk_36 : decode m_X11_isTalk.2.1 36 = .ok (.iconst 0, 1) := by decide +kernel
theorem d_X11_isTalk_37 : decode m_X11_isTalk.2.1 37 = .ok (.aload_n 0, 1) := by decide +kernel
theorem d_X11_isTalk_38 : decode m_X11_isTalk.2.1 38 = .ok (.getfield 13, 3) := by decide +kernel
theorem d_X11_isTalk_41 : decode m_X11_isTalk.2.1 41 = .ok (.sipush 862, 3) := by decide +kernel
theorem d_X11_isTalk_44 : decode m_X11_isTalk.2.1 44 = .ok (.iconst 2, 1) := by decide +kernel
theorem d_X11_isTalk_45 : decode m_X11_isTalk.2.1 45 = .ok (.iload_n 2, 1) := by decide +kernel
theorem d_X11_isTalk_46 : decode m_X11_isTalk.2.1 46 = .ok (.imul, 1) := by decide +kernel
theorem d_X11_isTalk_47 : decode m_X11_isTalk.2.1 47 = .ok (.iadd, 1) := by decide +kernel
theorem d_X11_isTalk_48 : decode m_X11_isTalk.2.1 48 = .ok (.iaload, 1) := by decide +kernel
theorem d_X11_isTalk_49 : decode m_X11_isTalk.2.1 49 = .ok (.aload_n 0, 1) := by decide +kernel
theorem d_X11_isTalk_50 : decode m_X11_isTalk.2.1 50 = .ok (.getfield 13, 3) := by decide +kernel
theorem d_X11_isTalk_53 : decode m_X11_isTalk.2.1 53 = .ok (.sipush 862, 3) := by decide +kernel
theorem d_X11_isTalk_56 : decode m_X11_isTalk.2.1 56 = .ok (.iconst 2, 1) := by decide +kernel
theorem d_X11_isTalk_57 : decode m_X11_isTalk.2.1 57 = .ok (.iload_n 2, 1) := by decide +kernel
theorem d_X11_isTalk_58 : decode m_X11_isTalk.2.1 58 = .ok (.imul, 1) := by decide +kernel
theorem d_X11_isTalk_59 : decode m_X11_isTalk.2.1 59 = .ok (.iadd, 1) := by decide +kernel
theorem d_X11_isTalk_60 : decode m_X11_isTalk.2.1 60 = .ok (.iconst 1, 1) := by decide +kernel
theorem d_X11_isTalk_61 : decode m_X11_isTalk.2.1 61 = .ok (.iadd, 1) := by decide +kernel
theorem d_X11_isTalk_62 : decode m_X11_isTalk.2.1 62 = .ok (.iaload, 1) := by decide +kernel
theorem d_X11_isTalk_63 : decode m_X11_isTalk.2.1 63 = .ok (.invokevirtual 273, 3) := by decide +kernel
theorem d_X11_isTalk_66 : decode m_X11_isTalk.2.1 66 = .ok (.ifCond .eq 5, 3) := by decide +kernel
theorem d_X11_isTalk_69 : decode m_X11_isTalk.2.1 69 = .ok (.iconst 0, 1) := by decide +kernel
theorem d_X11_isTalk_70 : decode m_X11_isTalk.2.1 70 = .ok (.ireturn, 1) := by decide +kernel
theorem d_X11_isTalk_71 : decode m_X11_isTalk.2.1 71 = .ok (.aload_n 0, 1) := by decide +kernel
theorem d_X11_isTalk_72 : decode m_X11_isTalk.2.1 72 = .ok (.iconst 0, 1) := by decide +kernel
theorem d_X11_isTalk_73 : decode m_X11_isTalk.2.1 73 = .ok (.aload_n 0, 1) := by decide +kernel
theorem d_X11_isTalk_74 : decode m_X11_isTalk.2.1 74 = .ok (.getfield 13, 3) := by decide +kernel
theorem d_X11_isTalk_77 : decode m_X11_isTalk.2.1 77 = .ok (.sipush 862, 3) := by decide +kernel
theorem d_X11_isTalk_80 : decode m_X11_isTalk.2.1 80 = .ok (.iconst 2, 1) := by decide +kernel
theorem d_X11_isTalk_81 : decode m_X11_isTalk.2.1 81 = .ok (.iload_n 2, 1) := by decide +kernel
theorem d_X11_isTalk_82 : decode m_X11_isTalk.2.1 82 = .ok (.imul, 1) := by decide +kernel
theorem d_X11_isTalk_83 : decode m_X11_isTalk.2.1 83 = .ok (.iadd, 1) := by decide +kernel
theorem d_X11_isTalk_84 : decode m_X11_isTalk.2.1 84 = .ok (.iaload, 1) := by decide +kernel
theorem d_X11_isTalk_85 : decode m_X11_isTalk.2.1 85 = .ok (.aload_n 0, 1) := by decide +kernel
theorem d_X11_isTalk_86 : decode m_X11_isTalk.2.1 86 = .ok (.getfield 13, 3) := by decide +kernel
theorem d_X11_isTalk_89 : decode m_X11_isTalk.2.1 89 = .ok (.sipush 862, 3) := by decide +kernel
theorem d_X11_isTalk_92 : decode m_X11_isTalk.2.1 92 = .ok (.iconst 2, 1) := by decide +kernel
theorem d_X11_isTalk_93 : decode m_X11_isTalk.2.1 93 = .ok (.iload_n 2, 1) := by decide +kernel
theorem d_X11_isTalk_94 : decode m_X11_isTalk.2.1 94 = .ok (.imul, 1) := by decide +kernel
theorem d_X11_isTalk_95 : decode m_X11_isTalk.2.1 95 = .ok (.iadd, 1) := by decide +kernel
theorem d_X11_isTalk_96 : decode m_X11_isTalk.2.1 96 = .ok (.iconst 1, 1) := by decide +kernel
theorem d_X11_isTalk_97 : decode m_X11_isTalk.2.1 97 = .ok (.iadd, 1) := by decide +kernel
theorem d_X11_isTalk_98 : decode m_X11_isTalk.2.1 98 = .ok (.iaload, 1) := by decide +kernel
theorem d_X11_isTalk_99 : decode m_X11_isTalk.2.1 99 = .ok (.invokevirtual 266, 3) := by decide +kernel
theorem d_X11_isTalk_102 : decode m_X11_isTalk.2.1 102 = .ok (.iinc 2 1, 3) := by decide +kernel
theorem d_X11_isTalk_105 : decode m_X11_isTalk.2.1 105 = .ok (.goto (-93), 3) := by decide +kernel
theorem d_X11_isTalk_108 : decode m_X11_isTalk.2.1 108 = .ok (.iconst 1, 1) := by decide +kernel
theorem d_X11_isTalk_109 : decode m_X11_isTalk.2.1 109 = .ok (.ireturn, 1) := by decide +kernel
set_option maxRecDepth 20000 in
theorem e_X11_isTalk {E : jm_E} {d : Nat} {μ : jm_M} {Q : Option jm_V → jm_M → Prop} {v1 : Int} (h : (∀ v ∈ ([jm_R 133, jm_I v1] : List jm_V), jm_ok v) →
  jc E m_X11_layRules d [jm_R 133, jm_I 0, jm_R 135, jm_I 0] μ (fun (o : Option jm_V) (m1 : jm_M) => o = none →
  jg E m_X11_isTalk d 12 [some (jm_R 133), some (jm_I v1), some (jm_I 0)] [] m1 Q)) : jc E m_X11_isTalk (d + 1) [jm_R 133, jm_I v1] μ Q := by
  refine jm_Cl.of2 (by decide +kernel) (L0 := [some (jm_R 133), some (jm_I v1), none]) rfl (Nat.le_of_ble_eq_true rfl) (fun hok => ?_)
  have h := h hok
  refine jm_aloadn d_X11_isTalk_0 rfl ?_
  refine jm_iconst (v := 0) d_X11_isTalk_1 rfl (jm_okI (by decide) (by decide)) ?_
  refine jm_aloadn d_X11_isTalk_2 rfl ?_
  refine jm_getF (k := 14) (ki := 14) rfl cf_X11 (Nat.le_of_ble_eq_true rfl) f_X11_13 d_X11_isTalk_3 rfl rfl is_133 fr_133_14 ?_
  refine jm_iconst (v := 0) d_X11_isTalk_6 rfl (jm_okI (by decide) (by decide)) ?_
  refine jm_invV (n1 := jm_N) (mc := 0) (ms := 0) (av := [jm_I _, jm_R _, jm_I _]) w_X11_layRules l_X11_262 d_X11_isTalk_7 rfl is_133 ⟨_, _, rfl⟩ ⟨Nat.le_refl _, Nat.le_refl _⟩ (Nat.le_of_ble_eq_true rfl) rfl ?_
  refine jm_Cl.mono h (fun o m1 h hr _ => ?_)
  obtain rfl := jm_rokV hr
  have h := h rfl
  refine jm_iconst (v := 0) d_X11_isTalk_10 rfl (jm_okI (by decide) (by decide)) ?_
  refine jm_istoren (L' := [some (jm_R _), some (jm_I _), some (jm_I _)]) d_X11_isTalk_11 (Nat.le_of_ble_eq_true rfl) rfl ?_
  exact h
set_option maxRecDepth 20000 in
theorem r_X11_isTalk_12 {E : jm_E} {d : Nat} {μ : jm_M} {Q : Option jm_V → jm_M → Prop} {v1 v2 : Int} (h :
  ((μ 135 861 ≤ v2 →
    Q (some (jm_I 1)) μ) ∧
   (¬ (μ 135 861 ≤ v2) →
    jc E m_X11_has d [jm_I v1, jm_I v2] μ (fun (o : Option jm_V) (m2 : jm_M) => ∀ r3 : Int, o = some (jm_I r3) → (r3 = 0 ∨ r3 = 1) →
    ((r3 = 0 →
      (0 ≤ jm_wr (862 + (jm_wr (2 * v2))) ∧ jm_wr (862 + (jm_wr (2 * v2))) < 1152) ∧
      (0 ≤ jm_wr ((jm_wr (862 + (jm_wr (2 * v2)))) + 1) ∧ jm_wr ((jm_wr (862 + (jm_wr (2 * v2)))) + 1) < 1152) ∧
      jc E m_X11_wrongOf d [jm_R 133, jm_I 0, jm_I (m2 135 (jm_wr (862 + (jm_wr (2 * v2))))), jm_I (m2 135 (jm_wr ((jm_wr (862 + (jm_wr (2 * v2)))) + 1)))] m2 (fun (o : Option jm_V) (m8 : jm_M) => ∀ r9 : Int, o = some (jm_I r9) →
      ((r9 = 0 →
        jc E m_X11_push d [jm_R 133, jm_I 0, jm_I (m8 135 (jm_wr (862 + (jm_wr (2 * v2))))), jm_I (m8 135 (jm_wr ((jm_wr (862 + (jm_wr (2 * v2)))) + 1)))] m8 (fun (o : Option jm_V) (m11 : jm_M) => o = none →
        jg E m_X11_isTalk d 12 [some (jm_R 133), some (jm_I v1), some (jm_I (jm_wr (v2 + 1)))] [] m11 Q)) ∧
       (¬ (r9 = 0) →
        Q (some (jm_I 0)) m8)))) ∧
     (¬ (r3 = 0) →
      jg E m_X11_isTalk d 12 [some (jm_R 133), some (jm_I v1), some (jm_I (jm_wr (v2 + 1)))] [] m2 Q)))))) : jg E m_X11_isTalk d 12 [some (jm_R 133), some (jm_I v1), some (jm_I v2)] [] μ Q := by
  refine jm_iloadn d_X11_isTalk_12 rfl ?_
  refine jm_aloadn d_X11_isTalk_13 rfl ?_
  refine jm_getF (k := 14) (ki := 14) rfl cf_X11 (Nat.le_of_ble_eq_true rfl) f_X11_13 d_X11_isTalk_14 rfl rfl is_133 fr_133_14 ?_
  refine jm_sipush (v := 861) d_X11_isTalk_17 rfl (jm_okI (by decide) (by decide)) ?_
  refine jm_iaload d_X11_isTalk_20 (ixl_135 (by decide) (by decide)) ?_
  refine jm_icmp_ge (tgt := 108) d_X11_isTalk_21 (by decide) (fun c1 => ?_) (fun c1 => ?_)
  · have h := h.1 c1
    refine jm_iconst (v := 1) d_X11_isTalk_108 rfl (jm_okI (by decide) (by decide)) ?_
    exact jm_ret (o := some (jm_I _)) d_X11_isTalk_109 rfl ⟨Nat.le_refl _, Nat.le_refl _⟩ (jm_r_Z (by decide)) h rfl
  · have h := h.2 c1
    refine jm_iloadn d_X11_isTalk_24 rfl ?_
    refine jm_iloadn d_X11_isTalk_25 rfl ?_
    refine jm_invS (n1 := jm_N) (mc := 0) (ms := 0) (av := [jm_I _, jm_I _]) w_X11_has l_X11_215 d_X11_isTalk_26 rfl ⟨Nat.le_refl _, Nat.le_refl _⟩ (Nat.le_of_ble_eq_true rfl) rfl ?_
    refine jm_Cl.mono h (fun o m2 h hr _ => ?_)
    obtain ⟨r3, rfl, z4⟩ := jm_rokZ hr
    have h := h _ rfl z4
    refine jm_if_eq (tgt := 35) d_X11_isTalk_29 (by decide) (fun c5 => ?_) (fun c5 => ?_)
    · have h := h.1 c5
      refine jm_aloadn d_X11_isTalk_35 rfl ?_
      refine jm_iconst (v := 0) d_X11_isTalk_36 rfl (jm_okI (by decide) (by decide)) ?_
      refine jm_aloadn d_X11_isTalk_37 rfl ?_
      refine jm_getF (k := 14) (ki := 14) rfl cf_X11 (Nat.le_of_ble_eq_true rfl) f_X11_13 d_X11_isTalk_38 rfl rfl is_133 fr_133_14 ?_
      refine jm_sipush (v := 862) d_X11_isTalk_41 rfl (jm_okI (by decide) (by decide)) ?_
      refine jm_iconst (v := 2) d_X11_isTalk_44 rfl (jm_okI (by decide) (by decide)) ?_
      refine jm_iloadn d_X11_isTalk_45 rfl ?_
      refine jm_imul d_X11_isTalk_46 ?_
      refine jm_iadd d_X11_isTalk_47 ?_
      obtain ⟨f6, h⟩ := h
      refine jm_iaload d_X11_isTalk_48 (ixl_135 f6.1 f6.2) ?_
      refine jm_aloadn d_X11_isTalk_49 rfl ?_
      refine jm_getF (k := 14) (ki := 14) rfl cf_X11 (Nat.le_of_ble_eq_true rfl) f_X11_13 d_X11_isTalk_50 rfl rfl is_133 fr_133_14 ?_
      refine jm_sipush (v := 862) d_X11_isTalk_53 rfl (jm_okI (by decide) (by decide)) ?_
      refine jm_iconst (v := 2) d_X11_isTalk_56 rfl (jm_okI (by decide) (by decide)) ?_
      refine jm_iloadn d_X11_isTalk_57 rfl ?_
      refine jm_imul d_X11_isTalk_58 ?_
      refine jm_iadd d_X11_isTalk_59 ?_
      refine jm_iconst (v := 1) d_X11_isTalk_60 rfl (jm_okI (by decide) (by decide)) ?_
      refine jm_iadd d_X11_isTalk_61 ?_
      obtain ⟨f7, h⟩ := h
      refine jm_iaload d_X11_isTalk_62 (ixl_135 f7.1 f7.2) ?_
      refine jm_invV (n1 := jm_N) (mc := 0) (ms := 0) (av := [jm_I _, jm_I _, jm_I _]) w_X11_wrongOf l_X11_273 d_X11_isTalk_63 rfl is_133 ⟨_, _, rfl⟩ ⟨Nat.le_refl _, Nat.le_refl _⟩ (Nat.le_of_ble_eq_true rfl) rfl ?_
      refine jm_Cl.mono h (fun o m8 h hr _ => ?_)
      obtain ⟨r9, rfl⟩ := jm_rokI hr
      have h := h _ rfl
      refine jm_if_eq (tgt := 71) d_X11_isTalk_66 (by decide) (fun c10 => ?_) (fun c10 => ?_)
      · have h := h.1 c10
        refine jm_aloadn d_X11_isTalk_71 rfl ?_
        refine jm_iconst (v := 0) d_X11_isTalk_72 rfl (jm_okI (by decide) (by decide)) ?_
        refine jm_aloadn d_X11_isTalk_73 rfl ?_
        refine jm_getF (k := 14) (ki := 14) rfl cf_X11 (Nat.le_of_ble_eq_true rfl) f_X11_13 d_X11_isTalk_74 rfl rfl is_133 fr_133_14 ?_
        refine jm_sipush (v := 862) d_X11_isTalk_77 rfl (jm_okI (by decide) (by decide)) ?_
        refine jm_iconst (v := 2) d_X11_isTalk_80 rfl (jm_okI (by decide) (by decide)) ?_
        refine jm_iloadn d_X11_isTalk_81 rfl ?_
        refine jm_imul d_X11_isTalk_82 ?_
        refine jm_iadd d_X11_isTalk_83 ?_
        refine jm_iaload d_X11_isTalk_84 (ixl_135 f6.1 f6.2) ?_
        refine jm_aloadn d_X11_isTalk_85 rfl ?_
        refine jm_getF (k := 14) (ki := 14) rfl cf_X11 (Nat.le_of_ble_eq_true rfl) f_X11_13 d_X11_isTalk_86 rfl rfl is_133 fr_133_14 ?_
        refine jm_sipush (v := 862) d_X11_isTalk_89 rfl (jm_okI (by decide) (by decide)) ?_
        refine jm_iconst (v := 2) d_X11_isTalk_92 rfl (jm_okI (by decide) (by decide)) ?_
        refine jm_iloadn d_X11_isTalk_93 rfl ?_
        refine jm_imul d_X11_isTalk_94 ?_
        refine jm_iadd d_X11_isTalk_95 ?_
        refine jm_iconst (v := 1) d_X11_isTalk_96 rfl (jm_okI (by decide) (by decide)) ?_
        refine jm_iadd d_X11_isTalk_97 ?_
        refine jm_iaload d_X11_isTalk_98 (ixl_135 f7.1 f7.2) ?_
        refine jm_invV (n1 := jm_N) (mc := 0) (ms := 0) (av := [jm_I _, jm_I _, jm_I _]) w_X11_push l_X11_266 d_X11_isTalk_99 rfl is_133 ⟨_, _, rfl⟩ ⟨Nat.le_refl _, Nat.le_refl _⟩ (Nat.le_of_ble_eq_true rfl) rfl ?_
        refine jm_Cl.mono h (fun o m11 h hr _ => ?_)
        obtain rfl := jm_rokV hr
        have h := h rfl
        refine jm_iinc (L' := [some (jm_R _), some (jm_I _), some (jm_I _)]) d_X11_isTalk_102 rfl rfl (Nat.le_of_ble_eq_true rfl) rfl ?_
        refine jm_goto (tgt := 12) d_X11_isTalk_105 (by decide) ?_
        exact h
      · have h := h.2 c10
        refine jm_iconst (v := 0) d_X11_isTalk_69 rfl (jm_okI (by decide) (by decide)) ?_
        exact jm_ret (o := some (jm_I _)) d_X11_isTalk_70 rfl ⟨Nat.le_refl _, Nat.le_refl _⟩ (jm_r_Z (by decide)) h rfl
    · have h := h.2 c5
      refine jm_goto (tgt := 102) d_X11_isTalk_32 (by decide) ?_
      refine jm_iinc (L' := [some (jm_R _), some (jm_I _), some (jm_I _)]) d_X11_isTalk_102 rfl rfl (Nat.le_of_ble_eq_true rfl) rfl ?_
      refine jm_goto (tgt := 12) d_X11_isTalk_105 (by decide) ?_
      exact h
/-! ('CombTableModel', 'mend', '()I') -/
theorem d_X11_mend_0 : decode m_X11_mend.2.1 0 = .ok (.aload_n 0, 1) := by decide +kernel
theorem d_X11_mend_1 : decode m_X11_mend.2.1 1 = .ok (.iconst 0, 1) := by decide +kernel
theorem d_X11_mend_2 : decode m_X11_mend.2.1 2 = .ok (.putfield 106, 3) := by decide +kernel
theorem d_X11_mend_5 : decode m_X11_mend.2.1 5 = .ok (.aload_n 0, 1) := by decide +kernel
theorem d_X11_mend_6 : decode m_X11_mend.2.1 6 = .ok (.getfield 13, 3) := by decide +kernel
theorem d_X11_mend_9 : decode m_X11_mend.2.1 9 = .ok (.sipush 861, 3) := by decide +kernel
theorem d_X11_mend_12 : decode m_X11_mend.2.1 12 = .ok (.iaload, 1) := by decide +kernel
theorem d_X11_mend_13 : decode m_X11_mend.2.1 13 = .ok (.istore_n 1, 1) := by decide +kernel
theorem d_X11_mend_14 : decode m_X11_mend.2.1 14 = .ok (.aload_n 0, 1) := by decide +kernel
theorem d_X11_mend_15 : decode m_X11_mend.2.1 15 = .ok (.invokevirtual 342, 3) := by decide +kernel
theorem d_X11_mend_18 : decode m_X11_mend.2.1 18 = .ok (.ifCond .eq 9, 3) := by decide +kernel
theorem d_X11_mend_21 : decode m_X11_mend.2.1 21 = .ok (.iload_n 1, 1) := by decide +kernel
theorem d_X11_mend_22 : decode m_X11_mend.2.1 22 = .ok (.bipush 14, 2) := by decide +kernel
theorem d_X11_mend_24 : decode m_X11_mend.2.1 24 = .ok (.if_icmp .le 5, 3) := by decide +kernel
theorem d_X11_mend_27 : decode m_X11_mend.2.1 27 = .ok (.iconst (-1), 1) := by decide +kernel
theorem d_X11_mend_28 : decode m_X11_mend.2.1 28 = .ok (.ireturn, 1) := by decide +kernel
theorem d_X11_mend_29 : decode m_X11_mend.2.1 29 = .ok (.iconst 1, 1) := by decide +kernel
theorem d_X11_mend_30 : decode m_X11_mend.2.1 30 = .ok (.iload_n 1, 1) := by decide +kernel
theorem d_X11_mend_31 : decode m_X11_mend.2.1 31 = .ok (.ishl, 1) := by decide +kernel
theorem d_X11_mend_32 : decode m_X11_mend.2.1 32 = .ok (.iconst 1, 1) := by decide +kernel
theorem d_X11_mend_33 : decode m_X11_mend.2.1 33 = .ok (.isub, 1) := by decide +kernel
theorem d_X11_mend_34 : decode m_X11_mend.2.1 34 = .ok (.istore_n 2, 1) := by decide +kernel
theorem d_X11_mend_35 : decode m_X11_mend.2.1 35 = .ok (.iconst 0, 1) := by decide +kernel
theorem d_X11_mend_36 : decode m_X11_mend.2.1 36 = .ok (.istore_n 3, 1) := by decide +kernel
theorem d_X11_mend_37 : decode m_X11_mend.2.1 37 = .ok (.iload_n 3, 1) := by decide +kernel
theorem d_X11_mend_38 : decode m_X11_mend.2.1 38 = .ok (.iconst 1, 1) := by decide +kernel
theorem d_X11_mend_39 : decode m_X11_mend.2.1 39 = .ok (.iload_n 1, 1) := by decide +kernel
theorem d_X11_mend_40 : decode m_X11_mend.2.1 40 = .ok (.ishl, 1) := by decide +kernel
theorem d_X11_mend_41 : decode m_X11_mend.2.1 41 = .ok (.if_icmp .ge 30, 3) := by decide +kernel
theorem d_X11_mend_44 : decode m_X11_mend.2.1 44 = .ok (.iload_n 3, 1) := by decide +kernel
theorem d_X11_mend_45 : decode m_X11_mend.2.1 45 = .ok (.invokestatic 345, 3) := by decide +kernel
theorem d_X11_mend_48 : decode m_X11_mend.2.1 48 = .ok (.iload_n 2, 1) := by decide +kernel
theorem d_X11_mend_49 : decode m_X11_mend.2.1 49 = .ok (.invokestatic 345, 3) := by decide +kernel
theorem d_X11_mend_52 : decode m_X11_mend.2.1 52 = .ok (.if_icmp .ge 13, 3) := by decide +kernel
theorem d_X11_mend_55 : decode m_X11_mend.2.1 55 = .ok (.aload_n 0, 1) := by decide +kernel
theorem d_X11_mend_56 : decode m_X11_mend.2.1 56 = .ok (.iload_n 3, 1) := by decide +kernel
theorem d_X11_mend_57 : decode m_X11_mend.2.1 57 = .ok (.invokevirtual 348, 3) := by decide +kernel
theorem d_X11_mend_60 : decode m_X11_mend.2.1 60 = .ok (.ifCond .eq 5, 3) := by decide +kernel
theorem d_X11_mend_63 : decode m_X11_mend.2.1 63 = .ok (.iload_n 3, 1) := by decide +kernel
theorem d_X11_mend_64 : decode m_X11_mend.2.1 64 = .ok (.istore_n 2, 1) := by decide +kernel
theorem d_X11_mend_65 : decode m_X11_mend.2.1 65 = .ok (.iinc 3 1, 3) := by decide +kernel
theorem d_X11_mend_68 : decode m_X11_mend.2.1 68 = .ok (.goto (-31), 3) := by decide +kernel
theorem d_X11_mend_71 : decode m_X11_mend.2.1 71 = .ok (.aload_n 0, 1) := by decide +kernel
theorem d_X11_mend_72 : decode m_X11_mend.2.1 72 = .ok (.iload_n 2, 1) := by decide +kernel
theorem d_X11_mend_73 : decode m_X11_mend.2.1 73 = .ok (.putfield 87, 3) := by decide +kernel
theorem d_X11_mend_76 : decode m_X11_mend.2.1 76 = .ok (.iload_n 2, 1) := by decide +kernel
theorem d_X11_mend_77 : decode m_X11_mend.2.1 77 = .ok (.invokestatic 345, 3) := by decide +kernel
theorem d_X11_mend_80 : decode m_X11_mend.2.1 80 = .ok (.ireturn, 1) := by decide +kernel
set_option maxRecDepth 20000 in
theorem e_X11_mend {E : jm_E} {d : Nat} {μ : jm_M} {Q : Option jm_V → jm_M → Prop}  (h : (∀ v ∈ ([jm_R 133] : List jm_V), jm_ok v) →
  ∀ x1 : Int, x1 = μ 135 861 →
  jc E m_X11_isWhole d [jm_R 133] (jm_up μ 133 0 0) (fun (o : Option jm_V) (m2 : jm_M) => ∀ r3 : Int, o = some (jm_I r3) → (r3 = 0 ∨ r3 = 1) →
  ((r3 = 0 →
    Q (some (jm_I ((-1)))) m2) ∧
   (¬ (r3 = 0) →
    ((x1 ≤ 14 →
      ∀ x7 : Int, x7 = jm_wr ((jm_shl 1 x1) - 1) →
      jg E m_X11_mend d 37 [some (jm_R 133), some (jm_I x1), some (jm_I x7), some (jm_I 0)] [] m2 Q) ∧
     (¬ (x1 ≤ 14) →
      Q (some (jm_I ((-1)))) m2)))))) : jc E m_X11_mend (d + 1) [jm_R 133] μ Q := by
  refine jm_Cl.of2 (by decide +kernel) (L0 := [some (jm_R 133), none, none, none]) rfl (Nat.le_of_ble_eq_true rfl) (fun hok => ?_)
  have h := h hok
  refine jm_aloadn d_X11_mend_0 rfl ?_
  refine jm_iconst (v := 0) d_X11_mend_1 rfl (jm_okI (by decide) (by decide)) ?_
  refine jm_putI (k := 0) (ki := 0) cf_X11 (Nat.le_of_ble_eq_true rfl) f_X11_106 d_X11_mend_2 (fun z => absurd z (by decide)) rfl rfl rfl (fun _ => rfl) is_133 ?_
  refine jm_aloadn d_X11_mend_5 rfl ?_
  refine jm_getF (k := 14) (ki := 14) rfl cf_X11 (Nat.le_of_ble_eq_true rfl) f_X11_13 d_X11_mend_6 rfl rfl is_133 fr_133_14 ?_
  refine jm_sipush (v := 861) d_X11_mend_9 rfl (jm_okI (by decide) (by decide)) ?_
  refine jm_ialoadv d_X11_mend_12 (ixl_135 (by decide) (by decide)) ((jm_up_i (by decide)).trans rfl) ?_
  have h := h _ rfl
  refine jm_istoren (L' := [some (jm_R _), some (jm_I _), none, none]) d_X11_mend_13 (Nat.le_of_ble_eq_true rfl) rfl ?_
  refine jm_aloadn d_X11_mend_14 rfl ?_
  refine jm_invV (n1 := jm_N) (mc := 0) (ms := 0) (av := []) w_X11_isWhole l_X11_342 d_X11_mend_15 rfl is_133 ⟨_, _, rfl⟩ ⟨Nat.le_refl _, Nat.le_refl _⟩ (Nat.le_of_ble_eq_true rfl) rfl ?_
  refine jm_Cl.mono h (fun o m2 h hr _ => ?_)
  obtain ⟨r3, rfl, z4⟩ := jm_rokZ hr
  have h := h _ rfl z4
  refine jm_if_eq (tgt := 27) d_X11_mend_18 (by decide) (fun c5 => ?_) (fun c5 => ?_)
  · have h := h.1 c5
    refine jm_iconst (v := (-1)) d_X11_mend_27 rfl (jm_okI (by decide) (by decide)) ?_
    exact jm_ret (o := some (jm_I _)) d_X11_mend_28 rfl ⟨Nat.le_refl _, Nat.le_refl _⟩ jm_r_I h rfl
  · have h := h.2 c5
    refine jm_iloadn d_X11_mend_21 rfl ?_
    refine jm_bipush (v := 14) d_X11_mend_22 rfl (jm_okI (by decide) (by decide)) ?_
    refine jm_icmp_le (tgt := 29) d_X11_mend_24 (by decide) (fun c6 => ?_) (fun c6 => ?_)
    · have h := h.1 c6
      refine jm_iconst (v := 1) d_X11_mend_29 rfl (jm_okI (by decide) (by decide)) ?_
      refine jm_iloadn d_X11_mend_30 rfl ?_
      refine jm_ishl d_X11_mend_31 ?_
      refine jm_iconst (v := 1) d_X11_mend_32 rfl (jm_okI (by decide) (by decide)) ?_
      refine jm_isub d_X11_mend_33 ?_
      have h := h _ rfl
      refine jm_istoren (L' := [some (jm_R _), some (jm_I _), some (jm_I _), none]) d_X11_mend_34 (Nat.le_of_ble_eq_true rfl) rfl ?_
      refine jm_iconst (v := 0) d_X11_mend_35 rfl (jm_okI (by decide) (by decide)) ?_
      refine jm_istoren (L' := [some (jm_R _), some (jm_I _), some (jm_I _), some (jm_I _)]) d_X11_mend_36 (Nat.le_of_ble_eq_true rfl) rfl ?_
      exact h
    · have h := h.2 c6
      refine jm_iconst (v := (-1)) d_X11_mend_27 rfl (jm_okI (by decide) (by decide)) ?_
      exact jm_ret (o := some (jm_I _)) d_X11_mend_28 rfl ⟨Nat.le_refl _, Nat.le_refl _⟩ jm_r_I h rfl
set_option maxRecDepth 20000 in
theorem r_X11_mend_37 {E : jm_E} {d : Nat} {μ : jm_M} {Q : Option jm_V → jm_M → Prop} {v1 v2 v3 : Int} (h :
  ((jm_shl 1 v1 ≤ v3 →
    jc E m_X11_bits d [jm_I v2] (jm_up μ 133 45 v2) (fun (o : Option jm_V) (m2 : jm_M) => ∀ r3 : Int, o = some (jm_I r3) →
    Q (some (jm_I r3)) m2)) ∧
   (¬ (jm_shl 1 v1 ≤ v3) →
    jc E m_X11_bits d [jm_I v3] μ (fun (o : Option jm_V) (m4 : jm_M) => ∀ r5 : Int, o = some (jm_I r5) →
    jc E m_X11_bits d [jm_I v2] m4 (fun (o : Option jm_V) (m6 : jm_M) => ∀ r7 : Int, o = some (jm_I r7) →
    ((r7 ≤ r5 →
      jg E m_X11_mend d 37 [some (jm_R 133), some (jm_I v1), some (jm_I v2), some (jm_I (jm_wr (v3 + 1)))] [] m6 Q) ∧
     (¬ (r7 ≤ r5) →
      jc E m_X11_isTalk d [jm_R 133, jm_I v3] m6 (fun (o : Option jm_V) (m9 : jm_M) => ∀ r10 : Int, o = some (jm_I r10) → (r10 = 0 ∨ r10 = 1) →
      ((r10 = 0 →
        jg E m_X11_mend d 37 [some (jm_R 133), some (jm_I v1), some (jm_I v2), some (jm_I (jm_wr (v3 + 1)))] [] m9 Q) ∧
       (¬ (r10 = 0) →
        jg E m_X11_mend d 37 [some (jm_R 133), some (jm_I v1), some (jm_I v3), some (jm_I (jm_wr (v3 + 1)))] [] m9 Q)))))))))) : jg E m_X11_mend d 37 [some (jm_R 133), some (jm_I v1), some (jm_I v2), some (jm_I v3)] [] μ Q := by
  refine jm_iloadn d_X11_mend_37 rfl ?_
  refine jm_iconst (v := 1) d_X11_mend_38 rfl (jm_okI (by decide) (by decide)) ?_
  refine jm_iloadn d_X11_mend_39 rfl ?_
  refine jm_ishl d_X11_mend_40 ?_
  refine jm_icmp_ge (tgt := 71) d_X11_mend_41 (by decide) (fun c1 => ?_) (fun c1 => ?_)
  · have h := h.1 c1
    refine jm_aloadn d_X11_mend_71 rfl ?_
    refine jm_iloadn d_X11_mend_72 rfl ?_
    refine jm_putI (k := 45) (ki := 45) cf_X11 (Nat.le_of_ble_eq_true rfl) f_X11_87 d_X11_mend_73 (fun z => absurd z (by decide)) rfl rfl rfl (fun _ => rfl) is_133 ?_
    refine jm_iloadn d_X11_mend_76 rfl ?_
    refine jm_invS (n1 := jm_N) (mc := 0) (ms := 0) (av := [jm_I _]) w_X11_bits l_X11_345 d_X11_mend_77 rfl ⟨Nat.le_refl _, Nat.le_refl _⟩ (Nat.le_of_ble_eq_true rfl) rfl ?_
    refine jm_Cl.mono h (fun o m2 h hr _ => ?_)
    obtain ⟨r3, rfl⟩ := jm_rokI hr
    have h := h _ rfl
    exact jm_ret (o := some (jm_I _)) d_X11_mend_80 rfl ⟨Nat.le_refl _, Nat.le_refl _⟩ jm_r_I h rfl
  · have h := h.2 c1
    refine jm_iloadn d_X11_mend_44 rfl ?_
    refine jm_invS (n1 := jm_N) (mc := 0) (ms := 0) (av := [jm_I _]) w_X11_bits l_X11_345 d_X11_mend_45 rfl ⟨Nat.le_refl _, Nat.le_refl _⟩ (Nat.le_of_ble_eq_true rfl) rfl ?_
    refine jm_Cl.mono h (fun o m4 h hr _ => ?_)
    obtain ⟨r5, rfl⟩ := jm_rokI hr
    have h := h _ rfl
    refine jm_iloadn d_X11_mend_48 rfl ?_
    refine jm_invS (n1 := jm_N) (mc := 0) (ms := 0) (av := [jm_I _]) w_X11_bits l_X11_345 d_X11_mend_49 rfl ⟨Nat.le_refl _, Nat.le_refl _⟩ (Nat.le_of_ble_eq_true rfl) rfl ?_
    refine jm_Cl.mono h (fun o m6 h hr _ => ?_)
    obtain ⟨r7, rfl⟩ := jm_rokI hr
    have h := h _ rfl
    refine jm_icmp_ge (tgt := 65) d_X11_mend_52 (by decide) (fun c8 => ?_) (fun c8 => ?_)
    · have h := h.1 c8
      refine jm_iinc (L' := [some (jm_R _), some (jm_I _), some (jm_I _), some (jm_I _)]) d_X11_mend_65 rfl rfl (Nat.le_of_ble_eq_true rfl) rfl ?_
      refine jm_goto (tgt := 37) d_X11_mend_68 (by decide) ?_
      exact h
    · have h := h.2 c8
      refine jm_aloadn d_X11_mend_55 rfl ?_
      refine jm_iloadn d_X11_mend_56 rfl ?_
      refine jm_invV (n1 := jm_N) (mc := 0) (ms := 0) (av := [jm_I _]) w_X11_isTalk l_X11_348 d_X11_mend_57 rfl is_133 ⟨_, _, rfl⟩ ⟨Nat.le_refl _, Nat.le_refl _⟩ (Nat.le_of_ble_eq_true rfl) rfl ?_
      refine jm_Cl.mono h (fun o m9 h hr _ => ?_)
      obtain ⟨r10, rfl, z11⟩ := jm_rokZ hr
      have h := h _ rfl z11
      refine jm_if_eq (tgt := 65) d_X11_mend_60 (by decide) (fun c12 => ?_) (fun c12 => ?_)
      · have h := h.1 c12
        refine jm_iinc (L' := [some (jm_R _), some (jm_I _), some (jm_I _), some (jm_I _)]) d_X11_mend_65 rfl rfl (Nat.le_of_ble_eq_true rfl) rfl ?_
        refine jm_goto (tgt := 37) d_X11_mend_68 (by decide) ?_
        exact h
      · have h := h.2 c12
        refine jm_iloadn d_X11_mend_63 rfl ?_
        refine jm_istoren (L' := [some (jm_R _), some (jm_I _), some (jm_I _), some (jm_I _)]) d_X11_mend_64 (Nat.le_of_ble_eq_true rfl) rfl ?_
        refine jm_iinc (L' := [some (jm_R _), some (jm_I _), some (jm_I _), some (jm_I _)]) d_X11_mend_65 rfl rfl (Nat.le_of_ble_eq_true rfl) rfl ?_
        refine jm_goto (tgt := 37) d_X11_mend_68 (by decide) ?_
        exact h
/-! ('CombTableModel', 'mended', '()I') -/
theorem d_X11_mended_0 : decode m_X11_mended.2.1 0 = .ok (.aload_n 0, 1) := by decide +kernel
theorem d_X11_mended_1 : decode m_X11_mended.2.1 1 = .ok (.iconst 0, 1) := by decide +kernel
theorem d_X11_mended_2 : decode m_X11_mended.2.1 2 = .ok (.putfield 106, 3) := by decide +kernel
theorem d_X11_mended_5 : decode m_X11_mended.2.1 5 = .ok (.aload_n 0, 1) := by decide +kernel
theorem d_X11_mended_6 : decode m_X11_mended.2.1 6 = .ok (.getfield 87, 3) := by decide +kernel
theorem d_X11_mended_9 : decode m_X11_mended.2.1 9 = .ok (.ireturn, 1) := by decide +kernel
set_option maxRecDepth 20000 in
theorem e_X11_mended {E : jm_E} {d : Nat} {μ : jm_M} {Q : Option jm_V → jm_M → Prop}  (h : (∀ v ∈ ([jm_R 133] : List jm_V), jm_ok v) →
  Q (some (jm_I (μ 133 45))) (jm_up μ 133 0 0)) : jc E m_X11_mended (d + 1) [jm_R 133] μ Q := by
  refine jm_Cl.of2 (by decide +kernel) (L0 := [some (jm_R 133)]) rfl (Nat.le_of_ble_eq_true rfl) (fun hok => ?_)
  have h := h hok
  refine jm_aloadn d_X11_mended_0 rfl ?_
  refine jm_iconst (v := 0) d_X11_mended_1 rfl (jm_okI (by decide) (by decide)) ?_
  refine jm_putI (k := 0) (ki := 0) cf_X11 (Nat.le_of_ble_eq_true rfl) f_X11_106 d_X11_mended_2 (fun z => absurd z (by decide)) rfl rfl rfl (fun _ => rfl) is_133 ?_
  refine jm_aloadn d_X11_mended_5 rfl ?_
  refine jm_getI (k := 45) (ki := 45) cf_X11 (Nat.le_of_ble_eq_true rfl) f_X11_87 d_X11_mended_6 rfl rfl is_133 ((jm_up_i (by decide)).trans rfl) ?_
  exact jm_ret (o := some (jm_I _)) d_X11_mended_9 rfl ⟨Nat.le_refl _, Nat.le_refl _⟩ jm_r_I h rfl
/-! ('CombTableModel', 'tryOrders', '(I)V') -/
theorem d_X11_tryOrders_0 : decode m_X11_tryOrders.2.1 0 = .ok (.aload_n 0, 1) := by decide +kernel
theorem d_X11_tryOrders_1 : decode m_X11_tryOrders.2.1 1 = .ok (.getfield 13, 3) := by decide +kernel
theorem d_X11_tryOrders_4 : decode m_X11_tryOrders.2.1 4 = .ok (.sipush 861, 3) := by decide +kernel
theorem d_X11_tryOrders_7 : decode m_X11_tryOrders.2.1 7 = .ok (.iaload, 1) := by decide +kernel
theorem d_X11_tryOrders_8 : decode m_X11_tryOrders.2.1 8 = .ok (.istore_n 2, 1) := by decide +kernel
theorem d_X11_tryOrders_9 : decode m_X11_tryOrders.2.1 9 = .ok (.aload_n 0, 1) := by decide +kernel
theorem d_X11_tryOrders_10 : decode m_X11_tryOrders.2.1 10 = .ok (.getfield 60, 3) := by decide +kernel
theorem d_X11_tryOrders_13 : decode m_X11_tryOrders.2.1 13 = .ok (.iconst 0, 1) := by decide +kernel
theorem d_X11_tryOrders_14 : decode m_X11_tryOrders.2.1 14 = .ok (.iaload, 1) := by decide +kernel
theorem d_X11_tryOrders_15 : decode m_X11_tryOrders.2.1 15 = .ok (.iload_n 2, 1) := by decide +kernel
theorem d_X11_tryOrders_16 : decode m_X11_tryOrders.2.1 16 = .ok (.if_icmp .ne 51, 3) := by decide +kernel
theorem d_X11_tryOrders_19 : decode m_X11_tryOrders.2.1 19 = .ok (.aload_n 0, 1) := by decide +kernel
theorem d_X11_tryOrders_20 : decode m_X11_tryOrders.2.1 20 = .ok (.getfield 351, 3) := by decide +kernel
theorem d_X11_tryOrders_23 : decode m_X11_tryOrders.2.1 23 = .ok (.ifCond .ne 33, 3) := by decide +kernel
theorem d_X11_tryOrders_26 : decode m_X11_tryOrders.2.1 26 = .ok (.iconst 0, 1) := by decide +kernel
theorem d_X11_tryOrders_27 : decode m_X11_tryOrders.2.1 27 = .ok (.istore_n 3, 1) := by decide +kernel
theorem d_X11_tryOrders_28 : decode m_X11_tryOrders.2.1 28 = .ok (.iload_n 3, 1) := by decide +kernel
theorem d_X11_tryOrders_29 : decode m_X11_tryOrders.2.1 29 = .ok (.iload_n 2, 1) := by decide +kernel
theorem d_X11_tryOrders_30 : decode m_X11_tryOrders.2.1 30 = .ok (.if_icmp .ge 21, 3) := by decide +kernel
theorem d_X11_tryOrders_33 : decode m_X11_tryOrders.2.1 33 = .ok (.aload_n 0, 1) := by decide +kernel
theorem d_X11_tryOrders_34 : decode m_X11_tryOrders.2.1 34 = .ok (.getfield 94, 3) := by decide +kernel
theorem d_X11_tryOrders_37 : decode m_X11_tryOrders.2.1 37 = .ok (.iload_n 3, 1) := by decide +kernel
theorem d_X11_tryOrders_38 : decode m_X11_tryOrders.2.1 38 = .ok (.aload_n 0, 1) := by decide +kernel
theorem d_X11_tryOrders_39 : decode m_X11_tryOrders.2.1 39 = .ok (.getfield 91, 3) := by decide +kernel
theorem d_X11_tryOrders_42 : decode m_X11_tryOrders.2.1 42 = .ok (.iload_n 3, 1) := by decide +kernel
theorem d_X11_tryOrders_43 : decode m_X11_tryOrders.2.1 43 = .ok (.iaload, 1) := by decide +kernel
theorem d_X11_tryOrders_44 : decode m_X11_tryOrders.2.1 44 = .ok (.iastore, 1) := by decide +kernel
theorem d_X11_tryOrders_45 : decode m_X11_tryOrders.2.1 45 = .ok (.iinc 3 1, 3) := by decide +kernel
theorem d_X11_tryOrders_48 : decode m_X11_tryOrders.2.1 48 = .ok (.goto (-20), 3) := by decide +kernel
theorem d_X11_tryOrders_51 : decode m_X11_tryOrders.2.1 51 = .ok (.aload_n 0, 1) := by decide +kernel
theorem d_X11_tryOrders_52 : decode m_X11_tryOrders.2.1 52 = .ok (.iload_n 2, 1) := by decide +kernel
theorem d_X11_tryOrders_53 : decode m_X11_tryOrders.2.1 53 = .ok (.putfield 354, 3) := by decide +kernel
theorem d_X11_tryOrders_56 : decode m_X11_tryOrders.2.1 56 = .ok (.aload_n 0, 1) := by decide +kernel
theorem d_X11_tryOrders_57 : decode m_X11_tryOrders.2.1 57 = .ok (.dup, 1) := by decide +kernel
theorem d_X11_tryOrders_58 : decode m_X11_tryOrders.2.1 58 = .ok (.getfield 351, 3) := by decide +kernel
theorem d_X11_tryOrders_61 : decode m_X11_tryOrders.2.1 61 = .ok (.iconst 1, 1) := by decide +kernel
theorem d_X11_tryOrders_62 : decode m_X11_tryOrders.2.1 62 = .ok (.iadd, 1) := by decide +kernel
theorem d_X11_tryOrders_63 : decode m_X11_tryOrders.2.1 63 = .ok (.putfield 351, 3) := by decide +kernel
theorem d_X11_tryOrders_66 : decode m_X11_tryOrders.2.1 66 = .ok (.return_, 1) := by decide +kernel
theorem d_X11_tryOrders_67 : decode m_X11_tryOrders.2.1 67 = .ok (.aload_n 0, 1) := by decide +kernel
theorem d_X11_tryOrders_68 : decode m_X11_tryOrders.2.1 68 = .ok (.getfield 60, 3) := by decide +kernel
theorem d_X11_tryOrders_71 : decode m_X11_tryOrders.2.1 71 = .ok (.iconst 0, 1) := by decide +kernel
theorem d_X11_tryOrders_72 : decode m_X11_tryOrders.2.1 72 = .ok (.iaload, 1) := by decide +kernel
theorem d_X11_tryOrders_73 : decode m_X11_tryOrders.2.1 73 = .ok (.istore_n 3, 1) := by decide +kernel
theorem d_X11_tryOrders_74 : decode m_X11_tryOrders.2.1 74 = .ok (.iconst 0, 1) := by decide +kernel
theorem d_X11_tryOrders_75 : decode m_X11_tryOrders.2.1 75 = .ok (.istore 4, 2) := by decide +kernel
theorem d_X11_tryOrders_77 : decode m_X11_tryOrders.2.1 77 = .ok (.iload 4, 2) := by decide +kernel
theorem d_X11_tryOrders_79 : decode m_X11_tryOrders.2.1 79 = .ok (.iload_n 2, 1) := by decide +kernel
theorem d_X11_tryOrders_80 : decode m_X11_tryOrders.2.1 80 = .ok (.if_icmp .ge 113, 3) := by decide +kernel
theorem d_X11_tryOrders_83 : decode m_X11_tryOrders.2.1 83 = .ok (.iload_n 1, 1) := by decide +kernel
theorem d_X11_tryOrders_84 : decode m_X11_tryOrders.2.1 84 = .ok (.iload 4, 2) := by decide +kernel
theorem d_X11_tryOrders_86 : decode m_X11_tryOrders.2.1 86 = .ok (.invokestatic 215, 3) := by decide +kernel
theorem d_X11_tryOrders_89 : decode m_X11_tryOrders.2.1 89 = .ok (.ifCond .ne 98, 3) := by decide +kernel
theorem d_X11_tryOrders_92 : decode m_X11_tryOrders.2.1 92 = .ok (.aload_n 0, 1) := by decide +kernel
theorem d_X11_tryOrders_93 : decode m_X11_tryOrders.2.1 93 = .ok (.iconst 0, 1) := by decide +kernel
theorem d_X11_tryOrders_94 : decode m_X11_tryOrders.2.1 94 = .ok (.aload_n 0, 1) := by decide +kernel
theorem d_X11_tryOrders_95 : decode m_X11_tryOrders.2.1 95 = .ok (.getfield 13, 3) := by decide +kernel
theorem d_X11_tryOrders_98 : decode m_X11_tryOrders.2.1 98 = .ok (.sipush 862, 3) := by decide +kernel
theorem d_X11_tryOrders_101 : decode m_X11_tryOrders.2.1 101 = .ok (.iconst 2, 1) := by decide +kernel
theorem d_X11_tryOrders_102 : decode m_X11_tryOrders.2.1 102 = .ok (.iload 4, 2) := by decide +kernel
theorem d_X11_tryOrders_104 : decode m_X11_tryOrders.2.1 104 = .ok (.imul, 1) := by decide +kernel
theorem d_X11_tryOrders_105 : decode m_X11_tryOrders.2.1 105 = .ok (.iadd, 1) := by decide +kernel
theorem d_X11_tryOrders_106 : decode m_X11_tryOrders.2.1 106 = .ok (.iaload, 1) := by decide +kernel
theorem d_X11_tryOrders_107 : decode m_X11_tryOrders.2.1 107 = .ok (.aload_n 0, 1) := by decide +kernel
theorem d_X11_tryOrders_108 : decode m_X11_tryOrders.2.1 108 = .ok (.getfield 13, 3) := by decide +kernel
theorem d_X11_tryOrders_111 : decode m_X11_tryOrders.2.1 111 = .ok (.sipush 862, 3) := by decide +kernel
theorem d_X11_tryOrders_114 : decode m_X11_tryOrders.2.1 114 = .ok (.iconst 2, 1) := by decide +kernel
theorem d_X11_tryOrders_115 : decode m_X11_tryOrders.2.1 115 = .ok (.iload 4, 2) := by decide +kernel
theorem d_X11_tryOrders_117 : decode m_X11_tryOrders.2.1 117 = .ok (.imul, 1) := by decide +kernel
theorem d_X11_tryOrders_118 : decode m_X11_tryOrders.2.1 118 = .ok (.iadd, 1) := by decide +kernel
theorem d_X11_tryOrders_119 : decode m_X11_tryOrders.2.1 119 = .ok (.iconst 1, 1) := by decide +kernel
theorem d_X11_tryOrders_120 : decode m_X11_tryOrders.2.1 120 = .ok (.iadd, 1) := by decide +kernel
theorem d_X11_tryOrders_121 : decode m_X11_tryOrders.2.1 121 = .ok (.iaload, 1) := by decide +kernel
theorem d_X11_tryOrders_122 : decode m_X11_tryOrders.2.1 122 = .ok (.invokevirtual 273, 3) := by decide +kernel
theorem d_X11_tryOrders_125 : decode m_X11_tryOrders.2.1 125 = .ok (.ifCond .eq 6, 3) := by decide +kernel
theorem d_X11_tryOrders_128 : decode m_X11_tryOrders.2.1 128 = .ok (.goto 59, 3) := by decide +kernel
theorem d_X11_tryOrders_131 : decode m_X11_tryOrders.2.1 131 = .ok (.aload_n 0, 1) := by decide +kernel
theorem d_X11_tryOrders_132 : decode m_X11_tryOrders.2.1 132 = .ok (.getfield 91, 3) := by decide +kernel
theorem d_X11_tryOrders_135 : decode m_X11_tryOrders.2.1 135 = .ok (.iload_n 3, 1) := by decide +kernel
theorem d_X11_tryOrders_136 : decode m_X11_tryOrders.2.1 136 = .ok (.iload 4, 2) := by decide +kernel
theorem d_X11_tryOrders_138 : decode m_X11_tryOrders.2.1 138 = .ok (.iastore, 1) := by decide +kernel
theorem d_X11_tryOrders_139 : decode m_X11_tryOrders.2.1 139 = .ok (.aload_n 0, 1) := by decide +kernel
theorem d_X11_tryOrders_140 : decode m_X11_tryOrders.2.1 140 = .ok (.iconst 0, 1) := by decide +kernel
theorem d_X11_tryOrders_141 : decode m_X11_tryOrders.2.1 141 = .ok (.aload_n 0, 1) := by decide +kernel
theorem d_X11_tryOrders_142 : decode m_X11_tryOrders.2.1 142 = .ok (.getfield 13, 3) := by decide +kernel
theorem d_X11_tryOrders_145 : decode m_X11_tryOrders.2.1 145 = .ok (.sipush 862, 3) := by decide +kernel
theorem d_X11_tryOrders_148 : decode m_X11_tryOrders.2.1 148 = .ok (.iconst 2, 1) := by decide +kernel
theorem d_X11_tryOrders_149 : decode m_X11_tryOrders.2.1 149 = .ok (.iload 4, 2) := by decide +kernel
theorem d_X11_tryOrders_151 : decode m_X11_tryOrders.2.1 151 = .ok (.imul, 1) := by decide +kernel
theorem d_X11_tryOrders_152 : decode m_X11_tryOrders.2.1 152 = .ok (.iadd, 1) := by decide +kernel
theorem d_X11_tryOrders_153 : decode m_X11_tryOrders.2.1 153 = .ok (.iaload, 1) := by decide +kernel
theorem d_X11_tryOrders_154 : decode m_X11_tryOrders.2.1 154 = .ok (.aload_n 0, 1) := by decide +kernel
theorem d_X11_tryOrders_155 : decode m_X11_tryOrders.2.1 155 = .ok (.getfield 13, 3) := by decide +kernel
theorem d_X11_tryOrders_158 : decode m_X11_tryOrders.2.1 158 = .ok (.sipush 862, 3) := by decide +kernel
theorem d_X11_tryOrders_161 : decode m_X11_tryOrders.2.1 161 = .ok (.iconst 2, 1) := by decide +kernel
theorem d_X11_tryOrders_162 : decode m_X11_tryOrders.2.1 162 = .ok (.iload 4, 2) := by decide +kernel
theorem d_X11_tryOrders_164 : decode m_X11_tryOrders.2.1 164 = .ok (.imul, 1) := by decide +kernel
theorem d_X11_tryOrders_165 : decode m_X11_tryOrders.2.1 165 = .ok (.iadd, 1) := by decide +kernel
theorem d_X11_tryOrders_166 : decode m_X11_tryOrders.2.1 166 = .ok (.iconst 1, 1) := by decide +kernel
theorem d_X11_tryOrders_167 : decode m_X11_tryOrders.2.1 167 = .ok (.iadd, 1) := by decide +kernel
theorem d_X11_tryOrders_168 : decode m_X11_tryOrders.2.1 168 = .ok (.iaload, 1) := by decide +kernel
theorem d_X11_tryOrders_169 : decode m_X11_tryOrders.2.1 169 = .ok (.invokevirtual 266, 3) := by decide +kernel
theorem d_X11_tryOrders_172 : decode m_X11_tryOrders.2.1 172 = .ok (.aload_n 0, 1) := by decide +kernel
theorem d_X11_tryOrders_173 : decode m_X11_tryOrders.2.1 173 = .ok (.iload_n 1, 1) := by decide +kernel
theorem d_X11_tryOrders_174 : decode m_X11_tryOrders.2.1 174 = .ok (.iconst 1, 1) := by decide +kernel
theorem d_X11_tryOrders_175 : decode m_X11_tryOrders.2.1 175 = .ok (.iload 4, 2) := by decide +kernel
theorem d_X11_tryOrders_177 : decode m_X11_tryOrders.2.1 177 = .ok (.ishl, 1) := by decide +kernel
theorem d_X11_tryOrders_178 : decode m_X11_tryOrders.2.1 178 = .ok (.ior, 1) := by decide +kernel
theorem d_X11_tryOrders_179 : decode m_X11_tryOrders.2.1 179 = .ok (.invokevirtual 357, 3) := by decide +kernel
theorem d_X11_tryOrders_182 : decode m_X11_tryOrders.2.1 182 = .ok (.aload_n 0, 1) := by decide +kernel
theorem d_X11_tryOrders_183 : decode m_X11_tryOrders.2.1 183 = .ok (.iconst 0, 1) := by decide +kernel
theorem d_X11_tryOrders_184 : decode m_X11_tryOrders.2.1 184 = .ok (.invokevirtual 326, 3) := by decide +kernel
theorem d_X11_tryOrders_187 : decode m_X11_tryOrders.2.1 187 = .ok (.iinc 4 1, 3) := by decide +kernel
theorem d_X11_tryOrders_190 : decode m_X11_tryOrders.2.1 190 = .ok (.goto (-113), 3) := by decide +kernel
theorem d_X11_tryOrders_193 : decode m_X11_tryOrders.2.1 193 = .ok (.return_, 1) := by decide +kernel
set_option maxRecDepth 20000 in
theorem e_X11_tryOrders {E : jm_E} {d : Nat} {μ : jm_M} {Q : Option jm_V → jm_M → Prop} {v1 : Int} (h : (∀ v ∈ ([jm_R 133, jm_I v1] : List jm_V), jm_ok v) →
  ∀ x1 : Int, x1 = μ 135 861 →
  ((μ 150 0 ≠ x1 →
    ∀ x3 : Int, x3 = μ 150 0 →
    jg E m_X11_tryOrders d 77 [some (jm_R 133), some (jm_I v1), some (jm_I x1), some (jm_I x3), some (jm_I 0)] [] μ Q) ∧
   (¬ (μ 150 0 ≠ x1) →
    ((μ 133 48 ≠ 0 →
      Q none (jm_up μ 133 48 (jm_wr ((μ 133 48) + 1)))) ∧
     (¬ (μ 133 48 ≠ 0) →
      jg E m_X11_tryOrders d 28 [some (jm_R 133), none, some (jm_I x1), some (jm_I 0), none] [] μ Q))))) : jc E m_X11_tryOrders (d + 1) [jm_R 133, jm_I v1] μ Q := by
  refine jm_Cl.of2 (by decide +kernel) (L0 := [some (jm_R 133), some (jm_I v1), none, none, none]) rfl (Nat.le_of_ble_eq_true rfl) (fun hok => ?_)
  have h := h hok
  refine jm_aloadn d_X11_tryOrders_0 rfl ?_
  refine jm_getF (k := 14) (ki := 14) rfl cf_X11 (Nat.le_of_ble_eq_true rfl) f_X11_13 d_X11_tryOrders_1 rfl rfl is_133 fr_133_14 ?_
  refine jm_sipush (v := 861) d_X11_tryOrders_4 rfl (jm_okI (by decide) (by decide)) ?_
  refine jm_iaload d_X11_tryOrders_7 (ixl_135 (by decide) (by decide)) ?_
  have h := h _ rfl
  refine jm_istoren (L' := [some (jm_R _), some (jm_I _), some (jm_I _), none, none]) d_X11_tryOrders_8 (Nat.le_of_ble_eq_true rfl) rfl ?_
  refine jm_aloadn d_X11_tryOrders_9 rfl ?_
  refine jm_getF (k := 29) (ki := 29) rfl cf_X11 (Nat.le_of_ble_eq_true rfl) f_X11_60 d_X11_tryOrders_10 rfl rfl is_133 fr_133_29 ?_
  refine jm_iconst (v := 0) d_X11_tryOrders_13 rfl (jm_okI (by decide) (by decide)) ?_
  refine jm_iaload d_X11_tryOrders_14 (ixl_150 (by decide) (by decide)) ?_
  refine jm_iloadn d_X11_tryOrders_15 rfl ?_
  refine jm_icmp_ne (tgt := 67) d_X11_tryOrders_16 (by decide) (fun c2 => ?_) (fun c2 => ?_)
  · have h := h.1 c2
    refine jm_aloadn d_X11_tryOrders_67 rfl ?_
    refine jm_getF (k := 29) (ki := 29) rfl cf_X11 (Nat.le_of_ble_eq_true rfl) f_X11_60 d_X11_tryOrders_68 rfl rfl is_133 fr_133_29 ?_
    refine jm_iconst (v := 0) d_X11_tryOrders_71 rfl (jm_okI (by decide) (by decide)) ?_
    refine jm_iaload d_X11_tryOrders_72 (ixl_150 (by decide) (by decide)) ?_
    have h := h _ rfl
    refine jm_istoren (L' := [some (jm_R _), some (jm_I _), some (jm_I _), some (jm_I _), none]) d_X11_tryOrders_73 (Nat.le_of_ble_eq_true rfl) rfl ?_
    refine jm_iconst (v := 0) d_X11_tryOrders_74 rfl (jm_okI (by decide) (by decide)) ?_
    refine jm_istore (L' := [some (jm_R _), some (jm_I _), some (jm_I _), some (jm_I _), some (jm_I _)]) d_X11_tryOrders_75 (Nat.le_of_ble_eq_true rfl) rfl ?_
    exact h
  · have h := h.2 c2
    refine jm_aloadn d_X11_tryOrders_19 rfl ?_
    refine jm_getI (k := 48) (ki := 48) cf_X11 (Nat.le_of_ble_eq_true rfl) f_X11_351 d_X11_tryOrders_20 rfl rfl is_133 rfl ?_
    refine jm_if_ne (tgt := 56) d_X11_tryOrders_23 (by decide) (fun c4 => ?_) (fun c4 => ?_)
    · have h := h.1 c4
      refine jm_aloadn d_X11_tryOrders_56 rfl ?_
      refine jm_dup rfl d_X11_tryOrders_57 ?_
      refine jm_getI (k := 48) (ki := 48) cf_X11 (Nat.le_of_ble_eq_true rfl) f_X11_351 d_X11_tryOrders_58 rfl rfl is_133 rfl ?_
      refine jm_iconst (v := 1) d_X11_tryOrders_61 rfl (jm_okI (by decide) (by decide)) ?_
      refine jm_iadd d_X11_tryOrders_62 ?_
      refine jm_putI (k := 48) (ki := 48) cf_X11 (Nat.le_of_ble_eq_true rfl) f_X11_351 d_X11_tryOrders_63 (fun z => absurd z (by decide)) rfl rfl rfl (fun _ => rfl) is_133 ?_
      exact jm_ret (o := none) d_X11_tryOrders_66 rfl ⟨Nat.le_refl _, Nat.le_refl _⟩ jm_r_V h rfl
    · have h := h.2 c4
      refine jm_iconst (v := 0) d_X11_tryOrders_26 rfl (jm_okI (by decide) (by decide)) ?_
      refine jm_istoren (L' := [some (jm_R _), some (jm_I _), some (jm_I _), some (jm_I _), none]) d_X11_tryOrders_27 (Nat.le_of_ble_eq_true rfl) rfl ?_
      exact jm_weak2 h (And.intro rfl (And.intro rfl (And.intro rfl trivial)))
set_option maxRecDepth 20000 in
theorem r_X11_tryOrders_28 {E : jm_E} {d : Nat} {μ : jm_M} {Q : Option jm_V → jm_M → Prop} {v2 v3 : Int} (h :
  ((v2 ≤ v3 →
    Q none (jm_up (jm_up μ 133 49 v2) 133 48 (jm_wr ((μ 133 48) + 1)))) ∧
   (¬ (v2 ≤ v3) →
    (0 ≤ v3 ∧ v3 < 7) ∧
    ∀ m3 : jm_M, m3 = (jm_up μ 160 v3 (μ 159 v3)) →
    jg E m_X11_tryOrders d 28 [some (jm_R 133), none, some (jm_I v2), some (jm_I (jm_wr (v3 + 1))), none] [] m3 Q))) : jg E m_X11_tryOrders d 28 [some (jm_R 133), none, some (jm_I v2), some (jm_I v3), none] [] μ Q := by
  refine jm_iloadn d_X11_tryOrders_28 rfl ?_
  refine jm_iloadn d_X11_tryOrders_29 rfl ?_
  refine jm_icmp_ge (tgt := 51) d_X11_tryOrders_30 (by decide) (fun c1 => ?_) (fun c1 => ?_)
  · have h := h.1 c1
    refine jm_aloadn d_X11_tryOrders_51 rfl ?_
    refine jm_iloadn d_X11_tryOrders_52 rfl ?_
    refine jm_putI (k := 49) (ki := 49) cf_X11 (Nat.le_of_ble_eq_true rfl) f_X11_354 d_X11_tryOrders_53 (fun z => absurd z (by decide)) rfl rfl rfl (fun _ => rfl) is_133 ?_
    refine jm_aloadn d_X11_tryOrders_56 rfl ?_
    refine jm_dup rfl d_X11_tryOrders_57 ?_
    refine jm_getI (k := 48) (ki := 48) cf_X11 (Nat.le_of_ble_eq_true rfl) f_X11_351 d_X11_tryOrders_58 rfl rfl is_133 ((jm_up_i (by decide)).trans rfl) ?_
    refine jm_iconst (v := 1) d_X11_tryOrders_61 rfl (jm_okI (by decide) (by decide)) ?_
    refine jm_iadd d_X11_tryOrders_62 ?_
    refine jm_putI (k := 48) (ki := 48) cf_X11 (Nat.le_of_ble_eq_true rfl) f_X11_351 d_X11_tryOrders_63 (fun z => absurd z (by decide)) rfl rfl rfl (fun _ => rfl) is_133 ?_
    exact jm_ret (o := none) d_X11_tryOrders_66 rfl ⟨Nat.le_refl _, Nat.le_refl _⟩ jm_r_V h rfl
  · have h := h.2 c1
    refine jm_aloadn d_X11_tryOrders_33 rfl ?_
    refine jm_getF (k := 47) (ki := 47) rfl cf_X11 (Nat.le_of_ble_eq_true rfl) f_X11_94 d_X11_tryOrders_34 rfl rfl is_133 fr_133_47 ?_
    refine jm_iloadn d_X11_tryOrders_37 rfl ?_
    refine jm_aloadn d_X11_tryOrders_38 rfl ?_
    refine jm_getF (k := 46) (ki := 46) rfl cf_X11 (Nat.le_of_ble_eq_true rfl) f_X11_91 d_X11_tryOrders_39 rfl rfl is_133 fr_133_46 ?_
    refine jm_iloadn d_X11_tryOrders_42 rfl ?_
    obtain ⟨f2, h⟩ := h
    refine jm_iaload d_X11_tryOrders_43 (ixl_159 f2.1 f2.2) ?_
    refine jm_iastore d_X11_tryOrders_44 (ixl_160 f2.1 f2.2) ?_
    have h := h _ rfl
    refine jm_iinc (L' := [some (jm_R _), none, some (jm_I _), some (jm_I _), none]) d_X11_tryOrders_45 rfl rfl (Nat.le_of_ble_eq_true rfl) rfl ?_
    refine jm_goto (tgt := 28) d_X11_tryOrders_48 (by decide) ?_
    exact h
set_option maxRecDepth 20000 in
theorem r_X11_tryOrders_77 {E : jm_E} {d : Nat} {μ : jm_M} {Q : Option jm_V → jm_M → Prop} {v1 v2 v3 v4 : Int} (h :
  ((v2 ≤ v4 →
    Q none μ) ∧
   (¬ (v2 ≤ v4) →
    jc E m_X11_has d [jm_I v1, jm_I v4] μ (fun (o : Option jm_V) (m2 : jm_M) => ∀ r3 : Int, o = some (jm_I r3) → (r3 = 0 ∨ r3 = 1) →
    ((r3 ≠ 0 →
      jg E m_X11_tryOrders d 77 [some (jm_R 133), some (jm_I v1), some (jm_I v2), some (jm_I v3), some (jm_I (jm_wr (v4 + 1)))] [] m2 Q) ∧
     (¬ (r3 ≠ 0) →
      (0 ≤ jm_wr (862 + (jm_wr (2 * v4))) ∧ jm_wr (862 + (jm_wr (2 * v4))) < 1152) ∧
      (0 ≤ jm_wr ((jm_wr (862 + (jm_wr (2 * v4)))) + 1) ∧ jm_wr ((jm_wr (862 + (jm_wr (2 * v4)))) + 1) < 1152) ∧
      jc E m_X11_wrongOf d [jm_R 133, jm_I 0, jm_I (m2 135 (jm_wr (862 + (jm_wr (2 * v4))))), jm_I (m2 135 (jm_wr ((jm_wr (862 + (jm_wr (2 * v4)))) + 1)))] m2 (fun (o : Option jm_V) (m8 : jm_M) => ∀ r9 : Int, o = some (jm_I r9) →
      ((r9 = 0 →
        (0 ≤ v3 ∧ v3 < 7) ∧
        ∀ m12 : jm_M, m12 = (jm_up m8 159 v3 v4) →
        jc E m_X11_push d [jm_R 133, jm_I 0, jm_I (m12 135 (jm_wr (862 + (jm_wr (2 * v4))))), jm_I (m12 135 (jm_wr ((jm_wr (862 + (jm_wr (2 * v4)))) + 1)))] m12 (fun (o : Option jm_V) (m13 : jm_M) => o = none →
        jc E m_X11_tryOrders d [jm_R 133, jm_I (jm_or v1 (jm_shl 1 v4))] m13 (fun (o : Option jm_V) (m14 : jm_M) => o = none →
        jc E m_X11_pop d [jm_R 133, jm_I 0] m14 (fun (o : Option jm_V) (m15 : jm_M) => o = none →
        jg E m_X11_tryOrders d 77 [some (jm_R 133), some (jm_I v1), some (jm_I v2), some (jm_I v3), some (jm_I (jm_wr (v4 + 1)))] [] m15 Q)))) ∧
       (¬ (r9 = 0) →
        jg E m_X11_tryOrders d 77 [some (jm_R 133), some (jm_I v1), some (jm_I v2), some (jm_I v3), some (jm_I (jm_wr (v4 + 1)))] [] m8 Q))))))))) : jg E m_X11_tryOrders d 77 [some (jm_R 133), some (jm_I v1), some (jm_I v2), some (jm_I v3), some (jm_I v4)] [] μ Q := by
  refine jm_iload d_X11_tryOrders_77 rfl ?_
  refine jm_iloadn d_X11_tryOrders_79 rfl ?_
  refine jm_icmp_ge (tgt := 193) d_X11_tryOrders_80 (by decide) (fun c1 => ?_) (fun c1 => ?_)
  · have h := h.1 c1
    exact jm_ret (o := none) d_X11_tryOrders_193 rfl ⟨Nat.le_refl _, Nat.le_refl _⟩ jm_r_V h rfl
  · have h := h.2 c1
    refine jm_iloadn d_X11_tryOrders_83 rfl ?_
    refine jm_iload d_X11_tryOrders_84 rfl ?_
    refine jm_invS (n1 := jm_N) (mc := 0) (ms := 0) (av := [jm_I _, jm_I _]) w_X11_has l_X11_215 d_X11_tryOrders_86 rfl ⟨Nat.le_refl _, Nat.le_refl _⟩ (Nat.le_of_ble_eq_true rfl) rfl ?_
    refine jm_Cl.mono h (fun o m2 h hr _ => ?_)
    obtain ⟨r3, rfl, z4⟩ := jm_rokZ hr
    have h := h _ rfl z4
    refine jm_if_ne (tgt := 187) d_X11_tryOrders_89 (by decide) (fun c5 => ?_) (fun c5 => ?_)
    · have h := h.1 c5
      refine jm_iinc (L' := [some (jm_R _), some (jm_I _), some (jm_I _), some (jm_I _), some (jm_I _)]) d_X11_tryOrders_187 rfl rfl (Nat.le_of_ble_eq_true rfl) rfl ?_
      refine jm_goto (tgt := 77) d_X11_tryOrders_190 (by decide) ?_
      exact h
    · have h := h.2 c5
      refine jm_aloadn d_X11_tryOrders_92 rfl ?_
      refine jm_iconst (v := 0) d_X11_tryOrders_93 rfl (jm_okI (by decide) (by decide)) ?_
      refine jm_aloadn d_X11_tryOrders_94 rfl ?_
      refine jm_getF (k := 14) (ki := 14) rfl cf_X11 (Nat.le_of_ble_eq_true rfl) f_X11_13 d_X11_tryOrders_95 rfl rfl is_133 fr_133_14 ?_
      refine jm_sipush (v := 862) d_X11_tryOrders_98 rfl (jm_okI (by decide) (by decide)) ?_
      refine jm_iconst (v := 2) d_X11_tryOrders_101 rfl (jm_okI (by decide) (by decide)) ?_
      refine jm_iload d_X11_tryOrders_102 rfl ?_
      refine jm_imul d_X11_tryOrders_104 ?_
      refine jm_iadd d_X11_tryOrders_105 ?_
      obtain ⟨f6, h⟩ := h
      refine jm_iaload d_X11_tryOrders_106 (ixl_135 f6.1 f6.2) ?_
      refine jm_aloadn d_X11_tryOrders_107 rfl ?_
      refine jm_getF (k := 14) (ki := 14) rfl cf_X11 (Nat.le_of_ble_eq_true rfl) f_X11_13 d_X11_tryOrders_108 rfl rfl is_133 fr_133_14 ?_
      refine jm_sipush (v := 862) d_X11_tryOrders_111 rfl (jm_okI (by decide) (by decide)) ?_
      refine jm_iconst (v := 2) d_X11_tryOrders_114 rfl (jm_okI (by decide) (by decide)) ?_
      refine jm_iload d_X11_tryOrders_115 rfl ?_
      refine jm_imul d_X11_tryOrders_117 ?_
      refine jm_iadd d_X11_tryOrders_118 ?_
      refine jm_iconst (v := 1) d_X11_tryOrders_119 rfl (jm_okI (by decide) (by decide)) ?_
      refine jm_iadd d_X11_tryOrders_120 ?_
      obtain ⟨f7, h⟩ := h
      refine jm_iaload d_X11_tryOrders_121 (ixl_135 f7.1 f7.2) ?_
      refine jm_invV (n1 := jm_N) (mc := 0) (ms := 0) (av := [jm_I _, jm_I _, jm_I _]) w_X11_wrongOf l_X11_273 d_X11_tryOrders_122 rfl is_133 ⟨_, _, rfl⟩ ⟨Nat.le_refl _, Nat.le_refl _⟩ (Nat.le_of_ble_eq_true rfl) rfl ?_
      refine jm_Cl.mono h (fun o m8 h hr _ => ?_)
      obtain ⟨r9, rfl⟩ := jm_rokI hr
      have h := h _ rfl
      refine jm_if_eq (tgt := 131) d_X11_tryOrders_125 (by decide) (fun c10 => ?_) (fun c10 => ?_)
      · have h := h.1 c10
        refine jm_aloadn d_X11_tryOrders_131 rfl ?_
        refine jm_getF (k := 46) (ki := 46) rfl cf_X11 (Nat.le_of_ble_eq_true rfl) f_X11_91 d_X11_tryOrders_132 rfl rfl is_133 fr_133_46 ?_
        refine jm_iloadn d_X11_tryOrders_135 rfl ?_
        refine jm_iload d_X11_tryOrders_136 rfl ?_
        obtain ⟨f11, h⟩ := h
        refine jm_iastore d_X11_tryOrders_138 (ixl_159 f11.1 f11.2) ?_
        have h := h _ rfl
        refine jm_aloadn d_X11_tryOrders_139 rfl ?_
        refine jm_iconst (v := 0) d_X11_tryOrders_140 rfl (jm_okI (by decide) (by decide)) ?_
        refine jm_aloadn d_X11_tryOrders_141 rfl ?_
        refine jm_getF (k := 14) (ki := 14) rfl cf_X11 (Nat.le_of_ble_eq_true rfl) f_X11_13 d_X11_tryOrders_142 rfl rfl is_133 fr_133_14 ?_
        refine jm_sipush (v := 862) d_X11_tryOrders_145 rfl (jm_okI (by decide) (by decide)) ?_
        refine jm_iconst (v := 2) d_X11_tryOrders_148 rfl (jm_okI (by decide) (by decide)) ?_
        refine jm_iload d_X11_tryOrders_149 rfl ?_
        refine jm_imul d_X11_tryOrders_151 ?_
        refine jm_iadd d_X11_tryOrders_152 ?_
        refine jm_iaload d_X11_tryOrders_153 (ixl_135 f6.1 f6.2) ?_
        refine jm_aloadn d_X11_tryOrders_154 rfl ?_
        refine jm_getF (k := 14) (ki := 14) rfl cf_X11 (Nat.le_of_ble_eq_true rfl) f_X11_13 d_X11_tryOrders_155 rfl rfl is_133 fr_133_14 ?_
        refine jm_sipush (v := 862) d_X11_tryOrders_158 rfl (jm_okI (by decide) (by decide)) ?_
        refine jm_iconst (v := 2) d_X11_tryOrders_161 rfl (jm_okI (by decide) (by decide)) ?_
        refine jm_iload d_X11_tryOrders_162 rfl ?_
        refine jm_imul d_X11_tryOrders_164 ?_
        refine jm_iadd d_X11_tryOrders_165 ?_
        refine jm_iconst (v := 1) d_X11_tryOrders_166 rfl (jm_okI (by decide) (by decide)) ?_
        refine jm_iadd d_X11_tryOrders_167 ?_
        refine jm_iaload d_X11_tryOrders_168 (ixl_135 f7.1 f7.2) ?_
        refine jm_invV (n1 := jm_N) (mc := 0) (ms := 0) (av := [jm_I _, jm_I _, jm_I _]) w_X11_push l_X11_266 d_X11_tryOrders_169 rfl is_133 ⟨_, _, rfl⟩ ⟨Nat.le_refl _, Nat.le_refl _⟩ (Nat.le_of_ble_eq_true rfl) rfl ?_
        refine jm_Cl.mono h (fun o m13 h hr _ => ?_)
        obtain rfl := jm_rokV hr
        have h := h rfl
        refine jm_aloadn d_X11_tryOrders_172 rfl ?_
        refine jm_iloadn d_X11_tryOrders_173 rfl ?_
        refine jm_iconst (v := 1) d_X11_tryOrders_174 rfl (jm_okI (by decide) (by decide)) ?_
        refine jm_iload d_X11_tryOrders_175 rfl ?_
        refine jm_ishl d_X11_tryOrders_177 ?_
        refine jm_ior d_X11_tryOrders_178 ?_
        refine jm_invV (n1 := jm_N) (mc := 0) (ms := 0) (av := [jm_I _]) w_X11_tryOrders l_X11_357 d_X11_tryOrders_179 rfl is_133 ⟨_, _, rfl⟩ ⟨Nat.le_refl _, Nat.le_refl _⟩ (Nat.le_of_ble_eq_true rfl) rfl ?_
        refine jm_Cl.mono h (fun o m14 h hr _ => ?_)
        obtain rfl := jm_rokV hr
        have h := h rfl
        refine jm_aloadn d_X11_tryOrders_182 rfl ?_
        refine jm_iconst (v := 0) d_X11_tryOrders_183 rfl (jm_okI (by decide) (by decide)) ?_
        refine jm_invV (n1 := jm_N) (mc := 0) (ms := 0) (av := [jm_I _]) w_X11_pop l_X11_326 d_X11_tryOrders_184 rfl is_133 ⟨_, _, rfl⟩ ⟨Nat.le_refl _, Nat.le_refl _⟩ (Nat.le_of_ble_eq_true rfl) rfl ?_
        refine jm_Cl.mono h (fun o m15 h hr _ => ?_)
        obtain rfl := jm_rokV hr
        have h := h rfl
        refine jm_iinc (L' := [some (jm_R _), some (jm_I _), some (jm_I _), some (jm_I _), some (jm_I _)]) d_X11_tryOrders_187 rfl rfl (Nat.le_of_ble_eq_true rfl) rfl ?_
        refine jm_goto (tgt := 77) d_X11_tryOrders_190 (by decide) ?_
        exact h
      · have h := h.2 c10
        refine jm_goto (tgt := 187) d_X11_tryOrders_128 (by decide) ?_
        refine jm_iinc (L' := [some (jm_R _), some (jm_I _), some (jm_I _), some (jm_I _), some (jm_I _)]) d_X11_tryOrders_187 rfl rfl (Nat.le_of_ble_eq_true rfl) rfl ?_
        refine jm_goto (tgt := 77) d_X11_tryOrders_190 (by decide) ?_
        exact h
/-! ('CombTableModel', 'orders', '()I') -/
theorem d_X11_orders_0 : decode m_X11_orders.2.1 0 = .ok (.aload_n 0, 1) := by decide +kernel
theorem d_X11_orders_1 : decode m_X11_orders.2.1 1 = .ok (.iconst 0, 1) := by decide +kernel
theorem d_X11_orders_2 : decode m_X11_orders.2.1 2 = .ok (.putfield 106, 3) := by decide +kernel
theorem d_X11_orders_5 : decode m_X11_orders.2.1 5 = .ok (.aload_n 0, 1) := by decide +kernel
theorem d_X11_orders_6 : decode m_X11_orders.2.1 6 = .ok (.invokevirtual 342, 3) := by decide +kernel
theorem d_X11_orders_9 : decode m_X11_orders.2.1 9 = .ok (.ifCond .eq 16, 3) := by decide +kernel
theorem d_X11_orders_12 : decode m_X11_orders.2.1 12 = .ok (.aload_n 0, 1) := by decide +kernel
theorem d_X11_orders_13 : decode m_X11_orders.2.1 13 = .ok (.getfield 13, 3) := by decide +kernel
theorem d_X11_orders_16 : decode m_X11_orders.2.1 16 = .ok (.sipush 861, 3) := by decide +kernel
theorem d_X11_orders_19 : decode m_X11_orders.2.1 19 = .ok (.iaload, 1) := by decide +kernel
theorem d_X11_orders_20 : decode m_X11_orders.2.1 20 = .ok (.bipush 7, 2) := by decide +kernel
theorem d_X11_orders_22 : decode m_X11_orders.2.1 22 = .ok (.if_icmp .le 5, 3) := by decide +kernel
theorem d_X11_orders_25 : decode m_X11_orders.2.1 25 = .ok (.iconst (-1), 1) := by decide +kernel
theorem d_X11_orders_26 : decode m_X11_orders.2.1 26 = .ok (.ireturn, 1) := by decide +kernel
theorem d_X11_orders_27 : decode m_X11_orders.2.1 27 = .ok (.aload_n 0, 1) := by decide +kernel
theorem d_X11_orders_28 : decode m_X11_orders.2.1 28 = .ok (.iconst 0, 1) := by decide +kernel
theorem d_X11_orders_29 : decode m_X11_orders.2.1 29 = .ok (.aload_n 0, 1) := by decide +kernel
theorem d_X11_orders_30 : decode m_X11_orders.2.1 30 = .ok (.getfield 13, 3) := by decide +kernel
theorem d_X11_orders_33 : decode m_X11_orders.2.1 33 = .ok (.iconst 0, 1) := by decide +kernel
theorem d_X11_orders_34 : decode m_X11_orders.2.1 34 = .ok (.invokevirtual 262, 3) := by decide +kernel
theorem d_X11_orders_37 : decode m_X11_orders.2.1 37 = .ok (.aload_n 0, 1) := by decide +kernel
theorem d_X11_orders_38 : decode m_X11_orders.2.1 38 = .ok (.iconst 0, 1) := by decide +kernel
theorem d_X11_orders_39 : decode m_X11_orders.2.1 39 = .ok (.putfield 351, 3) := by decide +kernel
theorem d_X11_orders_42 : decode m_X11_orders.2.1 42 = .ok (.aload_n 0, 1) := by decide +kernel
theorem d_X11_orders_43 : decode m_X11_orders.2.1 43 = .ok (.iconst 0, 1) := by decide +kernel
theorem d_X11_orders_44 : decode m_X11_orders.2.1 44 = .ok (.invokevirtual 357, 3) := by decide +kernel
theorem d_X11_orders_47 : decode m_X11_orders.2.1 47 = .ok (.aload_n 0, 1) := by decide +kernel
theorem d_X11_orders_48 : decode m_X11_orders.2.1 48 = .ok (.getfield 351, 3) := by decide +kernel
theorem d_X11_orders_51 : decode m_X11_orders.2.1 51 = .ok (.ireturn, 1) := by decide +kernel
set_option maxRecDepth 20000 in
theorem e_X11_orders {E : jm_E} {d : Nat} {μ : jm_M} {Q : Option jm_V → jm_M → Prop}  (h : (∀ v ∈ ([jm_R 133] : List jm_V), jm_ok v) →
  jc E m_X11_isWhole d [jm_R 133] (jm_up μ 133 0 0) (fun (o : Option jm_V) (m1 : jm_M) => ∀ r2 : Int, o = some (jm_I r2) → (r2 = 0 ∨ r2 = 1) →
  ((r2 = 0 →
    Q (some (jm_I ((-1)))) m1) ∧
   (¬ (r2 = 0) →
    ((m1 135 861 ≤ 7 →
      jc E m_X11_layRules d [jm_R 133, jm_I 0, jm_R 135, jm_I 0] m1 (fun (o : Option jm_V) (m6 : jm_M) => o = none →
      jc E m_X11_tryOrders d [jm_R 133, jm_I 0] (jm_up m6 133 48 0) (fun (o : Option jm_V) (m7 : jm_M) => o = none →
      Q (some (jm_I (m7 133 48))) m7))) ∧
     (¬ (m1 135 861 ≤ 7) →
      Q (some (jm_I ((-1)))) m1)))))) : jc E m_X11_orders (d + 1) [jm_R 133] μ Q := by
  refine jm_Cl.of2 (by decide +kernel) (L0 := [some (jm_R 133)]) rfl (Nat.le_of_ble_eq_true rfl) (fun hok => ?_)
  have h := h hok
  refine jm_aloadn d_X11_orders_0 rfl ?_
  refine jm_iconst (v := 0) d_X11_orders_1 rfl (jm_okI (by decide) (by decide)) ?_
  refine jm_putI (k := 0) (ki := 0) cf_X11 (Nat.le_of_ble_eq_true rfl) f_X11_106 d_X11_orders_2 (fun z => absurd z (by decide)) rfl rfl rfl (fun _ => rfl) is_133 ?_
  refine jm_aloadn d_X11_orders_5 rfl ?_
  refine jm_invV (n1 := jm_N) (mc := 0) (ms := 0) (av := []) w_X11_isWhole l_X11_342 d_X11_orders_6 rfl is_133 ⟨_, _, rfl⟩ ⟨Nat.le_refl _, Nat.le_refl _⟩ (Nat.le_of_ble_eq_true rfl) rfl ?_
  refine jm_Cl.mono h (fun o m1 h hr _ => ?_)
  obtain ⟨r2, rfl, z3⟩ := jm_rokZ hr
  have h := h _ rfl z3
  refine jm_if_eq (tgt := 25) d_X11_orders_9 (by decide) (fun c4 => ?_) (fun c4 => ?_)
  · have h := h.1 c4
    refine jm_iconst (v := (-1)) d_X11_orders_25 rfl (jm_okI (by decide) (by decide)) ?_
    exact jm_ret (o := some (jm_I _)) d_X11_orders_26 rfl ⟨Nat.le_refl _, Nat.le_refl _⟩ jm_r_I h rfl
  · have h := h.2 c4
    refine jm_aloadn d_X11_orders_12 rfl ?_
    refine jm_getF (k := 14) (ki := 14) rfl cf_X11 (Nat.le_of_ble_eq_true rfl) f_X11_13 d_X11_orders_13 rfl rfl is_133 fr_133_14 ?_
    refine jm_sipush (v := 861) d_X11_orders_16 rfl (jm_okI (by decide) (by decide)) ?_
    refine jm_iaload d_X11_orders_19 (ixl_135 (by decide) (by decide)) ?_
    refine jm_bipush (v := 7) d_X11_orders_20 rfl (jm_okI (by decide) (by decide)) ?_
    refine jm_icmp_le (tgt := 27) d_X11_orders_22 (by decide) (fun c5 => ?_) (fun c5 => ?_)
    · have h := h.1 c5
      refine jm_aloadn d_X11_orders_27 rfl ?_
      refine jm_iconst (v := 0) d_X11_orders_28 rfl (jm_okI (by decide) (by decide)) ?_
      refine jm_aloadn d_X11_orders_29 rfl ?_
      refine jm_getF (k := 14) (ki := 14) rfl cf_X11 (Nat.le_of_ble_eq_true rfl) f_X11_13 d_X11_orders_30 rfl rfl is_133 fr_133_14 ?_
      refine jm_iconst (v := 0) d_X11_orders_33 rfl (jm_okI (by decide) (by decide)) ?_
      refine jm_invV (n1 := jm_N) (mc := 0) (ms := 0) (av := [jm_I _, jm_R _, jm_I _]) w_X11_layRules l_X11_262 d_X11_orders_34 rfl is_133 ⟨_, _, rfl⟩ ⟨Nat.le_refl _, Nat.le_refl _⟩ (Nat.le_of_ble_eq_true rfl) rfl ?_
      refine jm_Cl.mono h (fun o m6 h hr _ => ?_)
      obtain rfl := jm_rokV hr
      have h := h rfl
      refine jm_aloadn d_X11_orders_37 rfl ?_
      refine jm_iconst (v := 0) d_X11_orders_38 rfl (jm_okI (by decide) (by decide)) ?_
      refine jm_putI (k := 48) (ki := 48) cf_X11 (Nat.le_of_ble_eq_true rfl) f_X11_351 d_X11_orders_39 (fun z => absurd z (by decide)) rfl rfl rfl (fun _ => rfl) is_133 ?_
      refine jm_aloadn d_X11_orders_42 rfl ?_
      refine jm_iconst (v := 0) d_X11_orders_43 rfl (jm_okI (by decide) (by decide)) ?_
      refine jm_invV (n1 := jm_N) (mc := 0) (ms := 0) (av := [jm_I _]) w_X11_tryOrders l_X11_357 d_X11_orders_44 rfl is_133 ⟨_, _, rfl⟩ ⟨Nat.le_refl _, Nat.le_refl _⟩ (Nat.le_of_ble_eq_true rfl) rfl ?_
      refine jm_Cl.mono h (fun o m7 h hr _ => ?_)
      obtain rfl := jm_rokV hr
      have h := h rfl
      refine jm_aloadn d_X11_orders_47 rfl ?_
      refine jm_getI (k := 48) (ki := 48) cf_X11 (Nat.le_of_ble_eq_true rfl) f_X11_351 d_X11_orders_48 rfl rfl is_133 rfl ?_
      exact jm_ret (o := some (jm_I _)) d_X11_orders_51 rfl ⟨Nat.le_refl _, Nat.le_refl _⟩ jm_r_I h rfl
    · have h := h.2 c5
      refine jm_iconst (v := (-1)) d_X11_orders_25 rfl (jm_okI (by decide) (by decide)) ?_
      exact jm_ret (o := some (jm_I _)) d_X11_orders_26 rfl ⟨Nat.le_refl _, Nat.le_refl _⟩ jm_r_I h rfl
/-! ('CombTableModel', 'orderAt', '(I)I') -/
theorem d_X11_orderAt_0 : decode m_X11_orderAt.2.1 0 = .ok (.aload_n 0, 1) := by decide +kernel
theorem d_X11_orderAt_1 : decode m_X11_orderAt.2.1 1 = .ok (.iconst 0, 1) := by decide +kernel
theorem d_X11_orderAt_2 : decode m_X11_orderAt.2.1 2 = .ok (.putfield 106, 3) := by decide +kernel
theorem d_X11_orderAt_5 : decode m_X11_orderAt.2.1 5 = .ok (.iload_n 1, 1) := by decide +kernel
theorem d_X11_orderAt_6 : decode m_X11_orderAt.2.1 6 = .ok (.ifCond .lt 20, 3) := by decide +kernel
theorem d_X11_orderAt_9 : decode m_X11_orderAt.2.1 9 = .ok (.iload_n 1, 1) := by decide +kernel
theorem d_X11_orderAt_10 : decode m_X11_orderAt.2.1 10 = .ok (.aload_n 0, 1) := by decide +kernel
theorem d_X11_orderAt_11 : decode m_X11_orderAt.2.1 11 = .ok (.getfield 354, 3) := by decide +kernel
theorem d_X11_orderAt_14 : decode m_X11_orderAt.2.1 14 = .ok (.if_icmp .ge 12, 3) := by decide +kernel
theorem d_X11_orderAt_17 : decode m_X11_orderAt.2.1 17 = .ok (.aload_n 0, 1) := by decide +kernel
theorem d_X11_orderAt_18 : decode m_X11_orderAt.2.1 18 = .ok (.getfield 94, 3) := by decide +kernel
theorem d_X11_orderAt_21 : decode m_X11_orderAt.2.1 21 = .ok (.iload_n 1, 1) := by decide +kernel
theorem d_X11_orderAt_22 : decode m_X11_orderAt.2.1 22 = .ok (.iaload, 1) := by decide +kernel
theorem d_X11_orderAt_23 : decode m_X11_orderAt.2.1 23 = .ok (.goto 4, 3) := by decide +kernel
theorem d_X11_orderAt_26 : decode m_X11_orderAt.2.1 26 = .ok (.iconst (-1), 1) := by decide +kernel
theorem d_X11_orderAt_27 : decode m_X11_orderAt.2.1 27 = .ok (.ireturn, 1) := by decide +kernel
set_option maxRecDepth 20000 in
theorem e_X11_orderAt {E : jm_E} {d : Nat} {μ : jm_M} {Q : Option jm_V → jm_M → Prop} {v1 : Int} (h : (∀ v ∈ ([jm_R 133, jm_I v1] : List jm_V), jm_ok v) →
  ((v1 < 0 →
    Q (some (jm_I ((-1)))) (jm_up μ 133 0 0)) ∧
   (¬ (v1 < 0) →
    ((μ 133 49 ≤ v1 →
      Q (some (jm_I ((-1)))) (jm_up μ 133 0 0)) ∧
     (¬ (μ 133 49 ≤ v1) →
      (0 ≤ v1 ∧ v1 < 7) ∧
      Q (some (jm_I (μ 160 v1))) (jm_up μ 133 0 0)))))) : jc E m_X11_orderAt (d + 1) [jm_R 133, jm_I v1] μ Q := by
  refine jm_Cl.of2 (by decide +kernel) (L0 := [some (jm_R 133), some (jm_I v1)]) rfl (Nat.le_of_ble_eq_true rfl) (fun hok => ?_)
  have h := h hok
  refine jm_aloadn d_X11_orderAt_0 rfl ?_
  refine jm_iconst (v := 0) d_X11_orderAt_1 rfl (jm_okI (by decide) (by decide)) ?_
  refine jm_putI (k := 0) (ki := 0) cf_X11 (Nat.le_of_ble_eq_true rfl) f_X11_106 d_X11_orderAt_2 (fun z => absurd z (by decide)) rfl rfl rfl (fun _ => rfl) is_133 ?_
  refine jm_iloadn d_X11_orderAt_5 rfl ?_
  refine jm_if_lt (tgt := 26) d_X11_orderAt_6 (by decide) (fun c1 => ?_) (fun c1 => ?_)
  · have h := h.1 c1
    refine jm_iconst (v := (-1)) d_X11_orderAt_26 rfl (jm_okI (by decide) (by decide)) ?_
    exact jm_ret (o := some (jm_I _)) d_X11_orderAt_27 rfl ⟨Nat.le_refl _, Nat.le_refl _⟩ jm_r_I h rfl
  · have h := h.2 c1
    refine jm_iloadn d_X11_orderAt_9 rfl ?_
    refine jm_aloadn d_X11_orderAt_10 rfl ?_
    refine jm_getI (k := 49) (ki := 49) cf_X11 (Nat.le_of_ble_eq_true rfl) f_X11_354 d_X11_orderAt_11 rfl rfl is_133 ((jm_up_i (by decide)).trans rfl) ?_
    refine jm_icmp_ge (tgt := 26) d_X11_orderAt_14 (by decide) (fun c2 => ?_) (fun c2 => ?_)
    · have h := h.1 c2
      refine jm_iconst (v := (-1)) d_X11_orderAt_26 rfl (jm_okI (by decide) (by decide)) ?_
      exact jm_ret (o := some (jm_I _)) d_X11_orderAt_27 rfl ⟨Nat.le_refl _, Nat.le_refl _⟩ jm_r_I h rfl
    · have h := h.2 c2
      refine jm_aloadn d_X11_orderAt_17 rfl ?_
      refine jm_getF (k := 47) (ki := 47) rfl cf_X11 (Nat.le_of_ble_eq_true rfl) f_X11_94 d_X11_orderAt_18 rfl rfl is_133 fr_133_47 ?_
      refine jm_iloadn d_X11_orderAt_21 rfl ?_
      obtain ⟨f3, h⟩ := h
      refine jm_ialoadv d_X11_orderAt_22 (ixl_160 f3.1 f3.2) ((jm_up_lj (by decide)).trans rfl) ?_
      refine jm_goto (tgt := 27) d_X11_orderAt_23 (by decide) ?_
      exact jm_ret (o := some (jm_I _)) d_X11_orderAt_27 rfl ⟨Nat.le_refl _, Nat.le_refl _⟩ jm_r_I h rfl
/-! ('CombTableModel', 'isSo', '(II)Z') -/
theorem d_X11_isSo_0 : decode m_X11_isSo.2.1 0 = .ok (.iload_n 1, 1) := by decide +kernel
theorem d_X11_isSo_1 : decode m_X11_isSo.2.1 1 = .ok (.aload_n 0, 1) := by decide +kernel
theorem d_X11_isSo_2 : decode m_X11_isSo.2.1 2 = .ok (.getfield 60, 3) := by decide +kernel
theorem d_X11_isSo_5 : decode m_X11_isSo.2.1 5 = .ok (.iconst 0, 1) := by decide +kernel
theorem d_X11_isSo_6 : decode m_X11_isSo.2.1 6 = .ok (.iaload, 1) := by decide +kernel
theorem d_X11_isSo_7 : decode m_X11_isSo.2.1 7 = .ok (.if_icmp .ge 17, 3) := by decide +kernel
theorem d_X11_isSo_10 : decode m_X11_isSo.2.1 10 = .ok (.aload_n 0, 1) := by decide +kernel
theorem d_X11_isSo_11 : decode m_X11_isSo.2.1 11 = .ok (.iconst 0, 1) := by decide +kernel
theorem d_X11_isSo_12 : decode m_X11_isSo.2.1 12 = .ok (.iload_n 1, 1) := by decide +kernel
theorem d_X11_isSo_13 : decode m_X11_isSo.2.1 13 = .ok (.invokevirtual 289, 3) := by decide +kernel
theorem d_X11_isSo_16 : decode m_X11_isSo.2.1 16 = .ok (.iload_n 2, 1) := by decide +kernel
theorem d_X11_isSo_17 : decode m_X11_isSo.2.1 17 = .ok (.if_icmp .ne 7, 3) := by decide +kernel
theorem d_X11_isSo_20 : decode m_X11_isSo.2.1 20 = .ok (.iconst 1, 1) := by decide +kernel
theorem d_X11_isSo_21 : decode m_X11_isSo.2.1 21 = .ok (.goto 4, 3) := by decide +kernel
theorem d_X11_isSo_24 : decode m_X11_isSo.2.1 24 = .ok (.iconst 0, 1) := by decide +kernel
theorem d_X11_isSo_25 : decode m_X11_isSo.2.1 25 = .ok (.ireturn, 1) := by decide +kernel
set_option maxRecDepth 20000 in
theorem e_X11_isSo {E : jm_E} {d : Nat} {μ : jm_M} {Q : Option jm_V → jm_M → Prop} {v1 v2 : Int} (h : (∀ v ∈ ([jm_R 133, jm_I v1, jm_I v2] : List jm_V), jm_ok v) →
  ((μ 150 0 ≤ v1 →
    Q (some (jm_I 0)) μ) ∧
   (¬ (μ 150 0 ≤ v1) →
    jc E m_X11_stateOf d [jm_R 133, jm_I 0, jm_I v1] μ (fun (o : Option jm_V) (m2 : jm_M) => ∀ r3 : Int, o = some (jm_I r3) →
    ((r3 ≠ v2 →
      Q (some (jm_I 0)) m2) ∧
     (¬ (r3 ≠ v2) →
      Q (some (jm_I 1)) m2)))))) : jc E m_X11_isSo (d + 1) [jm_R 133, jm_I v1, jm_I v2] μ Q := by
  refine jm_Cl.of2 (by decide +kernel) (L0 := [some (jm_R 133), some (jm_I v1), some (jm_I v2)]) rfl (Nat.le_of_ble_eq_true rfl) (fun hok => ?_)
  have h := h hok
  refine jm_iloadn d_X11_isSo_0 rfl ?_
  refine jm_aloadn d_X11_isSo_1 rfl ?_
  refine jm_getF (k := 29) (ki := 29) rfl cf_X11 (Nat.le_of_ble_eq_true rfl) f_X11_60 d_X11_isSo_2 rfl rfl is_133 fr_133_29 ?_
  refine jm_iconst (v := 0) d_X11_isSo_5 rfl (jm_okI (by decide) (by decide)) ?_
  refine jm_iaload d_X11_isSo_6 (ixl_150 (by decide) (by decide)) ?_
  refine jm_icmp_ge (tgt := 24) d_X11_isSo_7 (by decide) (fun c1 => ?_) (fun c1 => ?_)
  · have h := h.1 c1
    refine jm_iconst (v := 0) d_X11_isSo_24 rfl (jm_okI (by decide) (by decide)) ?_
    exact jm_ret (o := some (jm_I _)) d_X11_isSo_25 rfl ⟨Nat.le_refl _, Nat.le_refl _⟩ (jm_r_Z (by decide)) h rfl
  · have h := h.2 c1
    refine jm_aloadn d_X11_isSo_10 rfl ?_
    refine jm_iconst (v := 0) d_X11_isSo_11 rfl (jm_okI (by decide) (by decide)) ?_
    refine jm_iloadn d_X11_isSo_12 rfl ?_
    refine jm_invV (n1 := jm_N) (mc := 0) (ms := 0) (av := [jm_I _, jm_I _]) w_X11_stateOf l_X11_289 d_X11_isSo_13 rfl is_133 ⟨_, _, rfl⟩ ⟨Nat.le_refl _, Nat.le_refl _⟩ (Nat.le_of_ble_eq_true rfl) rfl ?_
    refine jm_Cl.mono h (fun o m2 h hr _ => ?_)
    obtain ⟨r3, rfl⟩ := jm_rokI hr
    have h := h _ rfl
    refine jm_iloadn d_X11_isSo_16 rfl ?_
    refine jm_icmp_ne (tgt := 24) d_X11_isSo_17 (by decide) (fun c4 => ?_) (fun c4 => ?_)
    · have h := h.1 c4
      refine jm_iconst (v := 0) d_X11_isSo_24 rfl (jm_okI (by decide) (by decide)) ?_
      exact jm_ret (o := some (jm_I _)) d_X11_isSo_25 rfl ⟨Nat.le_refl _, Nat.le_refl _⟩ (jm_r_Z (by decide)) h rfl
    · have h := h.2 c4
      refine jm_iconst (v := 1) d_X11_isSo_20 rfl (jm_okI (by decide) (by decide)) ?_
      refine jm_goto (tgt := 25) d_X11_isSo_21 (by decide) ?_
      exact jm_ret (o := some (jm_I _)) d_X11_isSo_25 rfl ⟨Nat.le_refl _, Nat.le_refl _⟩ (jm_r_Z (by decide)) h rfl
/-! ('CombTableModel', 'leads', '(IIIII)Z') -/
theorem d_X11_leads_0 : decode m_X11_leads.2.1 0 = .ok (.iload 4, 2) := by decide +kernel
theorem d_X11_leads_2 : decode m_X11_leads.2.1 2 = .ok (.iload_n 3, 1) := by decide +kernel
theorem d_X11_leads_3 : decode m_X11_leads.2.1 3 = .ok (.if_icmp .ne 10, 3) := by decide +kernel
theorem d_X11_leads_6 : decode m_X11_leads.2.1 6 = .ok (.aload_n 0, 1) := by decide +kernel
theorem d_X11_leads_7 : decode m_X11_leads.2.1 7 = .ok (.iload_n 1, 1) := by decide +kernel
theorem d_X11_leads_8 : decode m_X11_leads.2.1 8 = .ok (.iload_n 2, 1) := by decide +kernel
theorem d_X11_leads_9 : decode m_X11_leads.2.1 9 = .ok (.invokevirtual 360, 3) := by decide +kernel
theorem d_X11_leads_12 : decode m_X11_leads.2.1 12 = .ok (.ireturn, 1) := by decide +kernel
theorem d_X11_leads_13 : decode m_X11_leads.2.1 13 = .ok (.aload_n 0, 1) := by decide +kernel
theorem d_X11_leads_14 : decode m_X11_leads.2.1 14 = .ok (.getfield 60, 3) := by decide +kernel
theorem d_X11_leads_17 : decode m_X11_leads.2.1 17 = .ok (.iconst 0, 1) := by decide +kernel
theorem d_X11_leads_18 : decode m_X11_leads.2.1 18 = .ok (.iaload, 1) := by decide +kernel
theorem d_X11_leads_19 : decode m_X11_leads.2.1 19 = .ok (.sipush 400, 3) := by decide +kernel
theorem d_X11_leads_22 : decode m_X11_leads.2.1 22 = .ok (.if_icmp .ne 5, 3) := by decide +kernel
theorem d_X11_leads_25 : decode m_X11_leads.2.1 25 = .ok (.iconst 0, 1) := by decide +kernel
theorem d_X11_leads_26 : decode m_X11_leads.2.1 26 = .ok (.ireturn, 1) := by decide +kernel
theorem d_X11_leads_27 : decode m_X11_leads.2.1 27 = .ok (.iconst 0, 1) := by decide +kernel
theorem d_X11_leads_28 : decode m_X11_leads.2.1 28 = .ok (.istore 6, 2) := by decide +kernel
theorem d_X11_leads_30 : decode m_X11_leads.2.1 30 = .ok (.iload 6, 2) := by decide +kernel
theorem d_X11_leads_32 : decode m_X11_leads.2.1 32 = .ok (.aload_n 0, 1) := by decide +kernel
theorem d_X11_leads_33 : decode m_X11_leads.2.1 33 = .ok (.getfield 13, 3) := by decide +kernel
theorem d_X11_leads_36 : decode m_X11_leads.2.1 36 = .ok (.iconst 0, 1) := by decide +kernel
theorem d_X11_leads_37 : decode m_X11_leads.2.1 37 = .ok (.iaload, 1) := by decide +kernel
theorem d_X11_leads_38 : decode m_X11_leads.2.1 38 = .ok (.if_icmp .ge 102, 3) := by decide +kernel
theorem d_X11_leads_41 : decode m_X11_leads.2.1 41 = .ok (.iconst 0, 1) := by decide +kernel
theorem d_X11_leads_42 : decode m_X11_leads.2.1 42 = .ok (.istore 7, 2) := by decide +kernel
theorem d_X11_leads_44 : decode m_X11_leads.2.1 44 = .ok (.iload 7, 2) := by decide +kernel
theorem d_X11_leads_46 : decode m_X11_leads.2.1 46 = .ok (.aload_n 0, 1) := by decide +kernel
theorem d_X11_leads_47 : decode m_X11_leads.2.1 47 = .ok (.getfield 13, 3) := by decide +kernel
theorem d_X11_leads_50 : decode m_X11_leads.2.1 50 = .ok (.iconst 1, 1) := by decide +kernel
theorem d_X11_leads_51 : decode m_X11_leads.2.1 51 = .ok (.iaload, 1) := by decide +kernel
theorem d_X11_leads_52 : decode m_X11_leads.2.1 52 = .ok (.if_icmp .ge 82, 3) := by decide +kernel
theorem d_X11_leads_55 : decode m_X11_leads.2.1 55 = .ok (.iload 6, 2) := by decide +kernel
theorem d_X11_leads_57 : decode m_X11_leads.2.1 57 = .ok (.iload 5, 2) := by decide +kernel
theorem d_X11_leads_59 : decode m_X11_leads.2.1 59 = .ok (.if_icmp .eq 75, 3) := by decide +kernel
theorem d_X11_leads_62 : decode m_X11_leads.2.1 62 = .ok (.aload_n 0, 1) := by decide +kernel
theorem d_X11_leads_63 : decode m_X11_leads.2.1 63 = .ok (.iconst 0, 1) := by decide +kernel
theorem d_X11_leads_64 : decode m_X11_leads.2.1 64 = .ok (.iload 6, 2) := by decide +kernel
theorem d_X11_leads_66 : decode m_X11_leads.2.1 66 = .ok (.iload 7, 2) := by decide +kernel
theorem d_X11_leads_68 : decode m_X11_leads.2.1 68 = .ok (.invokevirtual 273, 3) := by decide +kernel
theorem d_X11_leads_71 : decode m_X11_leads.2.1 71 = .ok (.ifCond .eq 6, 3) := by decide +kernel
theorem d_X11_leads_74 : decode m_X11_leads.2.1 74 = .ok (.goto 54, 3) := by decide +kernel
theorem d_X11_leads_77 : decode m_X11_leads.2.1 77 = .ok (.aload_n 0, 1) := by decide +kernel
theorem d_X11_leads_78 : decode m_X11_leads.2.1 78 = .ok (.getfield 97, 3) := by decide +kernel
theorem d_X11_leads_81 : decode m_X11_leads.2.1 81 = .ok (.iload 4, 2) := by decide +kernel
theorem d_X11_leads_83 : decode m_X11_leads.2.1 83 = .ok (.bipush 16, 2) := by decide +kernel
theorem d_X11_leads_85 : decode m_X11_leads.2.1 85 = .ok (.iload 6, 2) := by decide +kernel
theorem d_X11_leads_87 : decode m_X11_leads.2.1 87 = .ok (.imul, 1) := by decide +kernel
theorem d_X11_leads_88 : decode m_X11_leads.2.1 88 = .ok (.iload 7, 2) := by decide +kernel
theorem d_X11_leads_90 : decode m_X11_leads.2.1 90 = .ok (.iadd, 1) := by decide +kernel
theorem d_X11_leads_91 : decode m_X11_leads.2.1 91 = .ok (.iastore, 1) := by decide +kernel
theorem d_X11_leads_92 : decode m_X11_leads.2.1 92 = .ok (.aload_n 0, 1) := by decide +kernel
theorem d_X11_leads_93 : decode m_X11_leads.2.1 93 = .ok (.iconst 0, 1) := by decide +kernel
theorem d_X11_leads_94 : decode m_X11_leads.2.1 94 = .ok (.iload 6, 2) := by decide +kernel
theorem d_X11_leads_96 : decode m_X11_leads.2.1 96 = .ok (.iload 7, 2) := by decide +kernel
theorem d_X11_leads_98 : decode m_X11_leads.2.1 98 = .ok (.invokevirtual 266, 3) := by decide +kernel
theorem d_X11_leads_101 : decode m_X11_leads.2.1 101 = .ok (.aload_n 0, 1) := by decide +kernel
theorem d_X11_leads_102 : decode m_X11_leads.2.1 102 = .ok (.iload_n 1, 1) := by decide +kernel
theorem d_X11_leads_103 : decode m_X11_leads.2.1 103 = .ok (.iload_n 2, 1) := by decide +kernel
theorem d_X11_leads_104 : decode m_X11_leads.2.1 104 = .ok (.iload_n 3, 1) := by decide +kernel
theorem d_X11_leads_105 : decode m_X11_leads.2.1 105 = .ok (.iload 4, 2) := by decide +kernel
theorem d_X11_leads_107 : decode m_X11_leads.2.1 107 = .ok (.iconst 1, 1) := by decide +kernel
theorem d_X11_leads_108 : decode m_X11_leads.2.1 108 = .ok (.iadd, 1) := by decide +kernel
theorem d_X11_leads_109 : decode m_X11_leads.2.1 109 = .ok (.iload 5, 2) := by decide +kernel
theorem d_X11_leads_111 : decode m_X11_leads.2.1 111 = .ok (.invokevirtual 363, 3) := by decide +kernel
theorem d_X11_leads_114 : decode m_X11_leads.2.1 114 = .ok (.istore 8, 2) := by decide +kernel
theorem d_X11_leads_116 : decode m_X11_leads.2.1 116 = .ok (.aload_n 0, 1) := by decide +kernel
theorem d_X11_leads_117 : decode m_X11_leads.2.1 117 = .ok (.iconst 0, 1) := by decide +kernel
theorem d_X11_leads_118 : decode m_X11_leads.2.1 118 = .ok (.invokevirtual 326, 3) := by decide +kernel
theorem d_X11_leads_121 : decode m_X11_leads.2.1 121 = .ok (.iload 8, 2) := by decide +kernel
theorem d_X11_leads_123 : decode m_X11_leads.2.1 123 = .ok (.ifCond .eq 5, 3) := by decide +kernel
theorem d_X11_leads_126 : decode m_X11_leads.2.1 126 = .ok (.iconst 1, 1) := by decide +kernel
theorem d_X11_leads_127 : decode m_X11_leads.2.1 127 = .ok (.ireturn, 1) := by decide +kernel
theorem d_X11_leads_128 : decode m_X11_leads.2.1 128 = .ok (.iinc 7 1, 3) := by decide +kernel
theorem d_X11_leads_131 : decode m_X11_leads.2.1 131 = .ok (.goto (-87), 3) := by decide +kernel
theorem d_X11_leads_134 : decode m_X11_leads.2.1 134 = .ok (.iinc 6 1, 3) := by decide +kernel
theorem d_X11_leads_137 : decode m_X11_leads.2.1 137 = .ok (.goto (-107), 3) := by decide +kernel
theorem d_X11_leads_140 : decode m_X11_leads.2.1 140 = .ok (.iconst 0, 1) := by decide +kernel
theorem d_X11_leads_141 : decode m_X11_leads.2.1 141 = .ok (.ireturn, 1) := by decide +kernel
set_option maxRecDepth 20000 in
theorem e_X11_leads {E : jm_E} {d : Nat} {μ : jm_M} {Q : Option jm_V → jm_M → Prop} {v1 v2 v3 v4 v5 : Int} (h : (∀ v ∈ ([jm_R 133, jm_I v1, jm_I v2, jm_I v3, jm_I v4, jm_I v5] : List jm_V), jm_ok v) →
  ((v4 ≠ v3 →
    ((μ 150 0 ≠ 400 →
      jg E m_X11_leads d 30 [some (jm_R 133), some (jm_I v1), some (jm_I v2), some (jm_I v3), some (jm_I v4), some (jm_I v5), some (jm_I 0), none, none] [] μ Q) ∧
     (¬ (μ 150 0 ≠ 400) →
      Q (some (jm_I 0)) μ))) ∧
   (¬ (v4 ≠ v3) →
    jc E m_X11_isSo d [jm_R 133, jm_I v1, jm_I v2] μ (fun (o : Option jm_V) (m3 : jm_M) => ∀ r4 : Int, o = some (jm_I r4) → (r4 = 0 ∨ r4 = 1) →
    Q (some (jm_I r4)) m3)))) : jc E m_X11_leads (d + 1) [jm_R 133, jm_I v1, jm_I v2, jm_I v3, jm_I v4, jm_I v5] μ Q := by
  refine jm_Cl.of2 (by decide +kernel) (L0 := [some (jm_R 133), some (jm_I v1), some (jm_I v2), some (jm_I v3), some (jm_I v4), some (jm_I v5), none, none, none]) rfl (Nat.le_of_ble_eq_true rfl) (fun hok => ?_)
  have h := h hok
  refine jm_iload d_X11_leads_0 rfl ?_
  refine jm_iloadn d_X11_leads_2 rfl ?_
  refine jm_icmp_ne (tgt := 13) d_X11_leads_3 (by decide) (fun c1 => ?_) (fun c1 => ?_)
  · have h := h.1 c1
    refine jm_aloadn d_X11_leads_13 rfl ?_
    refine jm_getF (k := 29) (ki := 29) rfl cf_X11 (Nat.le_of_ble_eq_true rfl) f_X11_60 d_X11_leads_14 rfl rfl is_133 fr_133_29 ?_
    refine jm_iconst (v := 0) d_X11_leads_17 rfl (jm_okI (by decide) (by decide)) ?_
    refine jm_iaload d_X11_leads_18 (ixl_150 (by decide) (by decide)) ?_
    refine jm_sipush (v := 400) d_X11_leads_19 rfl (jm_okI (by decide) (by decide)) ?_
    refine jm_icmp_ne (tgt := 27) d_X11_leads_22 (by decide) (fun c2 => ?_) (fun c2 => ?_)
    · have h := h.1 c2
      refine jm_iconst (v := 0) d_X11_leads_27 rfl (jm_okI (by decide) (by decide)) ?_
      refine jm_istore (L' := [some (jm_R _), some (jm_I _), some (jm_I _), some (jm_I _), some (jm_I _), some (jm_I _), some (jm_I _), none, none]) d_X11_leads_28 (Nat.le_of_ble_eq_true rfl) rfl ?_
      exact h
    · have h := h.2 c2
      refine jm_iconst (v := 0) d_X11_leads_25 rfl (jm_okI (by decide) (by decide)) ?_
      exact jm_ret (o := some (jm_I _)) d_X11_leads_26 rfl ⟨Nat.le_refl _, Nat.le_refl _⟩ (jm_r_Z (by decide)) h rfl
  · have h := h.2 c1
    refine jm_aloadn d_X11_leads_6 rfl ?_
    refine jm_iloadn d_X11_leads_7 rfl ?_
    refine jm_iloadn d_X11_leads_8 rfl ?_
    refine jm_invV (n1 := jm_N) (mc := 0) (ms := 0) (av := [jm_I _, jm_I _]) w_X11_isSo l_X11_360 d_X11_leads_9 rfl is_133 ⟨_, _, rfl⟩ ⟨Nat.le_refl _, Nat.le_refl _⟩ (Nat.le_of_ble_eq_true rfl) rfl ?_
    refine jm_Cl.mono h (fun o m3 h hr _ => ?_)
    obtain ⟨r4, rfl, z5⟩ := jm_rokZ hr
    have h := h _ rfl z5
    exact jm_ret (o := some (jm_I _)) d_X11_leads_12 rfl ⟨Nat.le_refl _, Nat.le_refl _⟩ (jm_r_Z z5) h rfl
set_option maxRecDepth 20000 in
theorem r_X11_leads_30 {E : jm_E} {d : Nat} {μ : jm_M} {Q : Option jm_V → jm_M → Prop} {v1 v2 v3 v4 v5 v6 : Int} (h :
  ((μ 135 0 ≤ v6 →
    Q (some (jm_I 0)) μ) ∧
   (¬ (μ 135 0 ≤ v6) →
    jg E m_X11_leads d 44 [some (jm_R 133), some (jm_I v1), some (jm_I v2), some (jm_I v3), some (jm_I v4), some (jm_I v5), some (jm_I v6), some (jm_I 0), none] [] μ Q))) : jg E m_X11_leads d 30 [some (jm_R 133), some (jm_I v1), some (jm_I v2), some (jm_I v3), some (jm_I v4), some (jm_I v5), some (jm_I v6), none, none] [] μ Q := by
  refine jm_iload d_X11_leads_30 rfl ?_
  refine jm_aloadn d_X11_leads_32 rfl ?_
  refine jm_getF (k := 14) (ki := 14) rfl cf_X11 (Nat.le_of_ble_eq_true rfl) f_X11_13 d_X11_leads_33 rfl rfl is_133 fr_133_14 ?_
  refine jm_iconst (v := 0) d_X11_leads_36 rfl (jm_okI (by decide) (by decide)) ?_
  refine jm_iaload d_X11_leads_37 (ixl_135 (by decide) (by decide)) ?_
  refine jm_icmp_ge (tgt := 140) d_X11_leads_38 (by decide) (fun c1 => ?_) (fun c1 => ?_)
  · have h := h.1 c1
    refine jm_iconst (v := 0) d_X11_leads_140 rfl (jm_okI (by decide) (by decide)) ?_
    exact jm_ret (o := some (jm_I _)) d_X11_leads_141 rfl ⟨Nat.le_refl _, Nat.le_refl _⟩ (jm_r_Z (by decide)) h rfl
  · have h := h.2 c1
    refine jm_iconst (v := 0) d_X11_leads_41 rfl (jm_okI (by decide) (by decide)) ?_
    refine jm_istore (L' := [some (jm_R _), some (jm_I _), some (jm_I _), some (jm_I _), some (jm_I _), some (jm_I _), some (jm_I _), some (jm_I _), none]) d_X11_leads_42 (Nat.le_of_ble_eq_true rfl) rfl ?_
    exact h
set_option maxRecDepth 20000 in
theorem r_X11_leads_44 {E : jm_E} {d : Nat} {μ : jm_M} {Q : Option jm_V → jm_M → Prop} {v1 v2 v3 v4 v5 v6 v7 : Int} (h :
  ((μ 135 1 ≤ v7 →
    jg E m_X11_leads d 30 [some (jm_R 133), some (jm_I v1), some (jm_I v2), some (jm_I v3), some (jm_I v4), some (jm_I v5), some (jm_I (jm_wr (v6 + 1))), none, none] [] μ Q) ∧
   (¬ (μ 135 1 ≤ v7) →
    ((v6 = v5 →
      jg E m_X11_leads d 30 [some (jm_R 133), some (jm_I v1), some (jm_I v2), some (jm_I v3), some (jm_I v4), some (jm_I v5), some (jm_I (jm_wr (v6 + 1))), none, none] [] μ Q) ∧
     (¬ (v6 = v5) →
      jc E m_X11_wrongOf d [jm_R 133, jm_I 0, jm_I v6, jm_I v7] μ (fun (o : Option jm_V) (m3 : jm_M) => ∀ r4 : Int, o = some (jm_I r4) →
      ((r4 = 0 →
        (0 ≤ v4 ∧ v4 < 8) ∧
        ∀ m7 : jm_M, m7 = (jm_up m3 161 v4 (jm_wr ((jm_wr (16 * v6)) + v7))) →
        jc E m_X11_push d [jm_R 133, jm_I 0, jm_I v6, jm_I v7] m7 (fun (o : Option jm_V) (m8 : jm_M) => o = none →
        jc E m_X11_leads d [jm_R 133, jm_I v1, jm_I v2, jm_I v3, jm_I (jm_wr (v4 + 1)), jm_I v5] m8 (fun (o : Option jm_V) (m9 : jm_M) => ∀ r10 : Int, o = some (jm_I r10) → (r10 = 0 ∨ r10 = 1) →
        jc E m_X11_pop d [jm_R 133, jm_I 0] m9 (fun (o : Option jm_V) (m12 : jm_M) => o = none →
        ((r10 = 0 →
          jg E m_X11_leads d 44 [some (jm_R 133), some (jm_I v1), some (jm_I v2), some (jm_I v3), some (jm_I v4), some (jm_I v5), some (jm_I v6), some (jm_I (jm_wr (v7 + 1))), none] [] m12 Q) ∧
         (¬ (r10 = 0) →
          Q (some (jm_I 1)) m12)))))) ∧
       (¬ (r4 = 0) →
        jg E m_X11_leads d 44 [some (jm_R 133), some (jm_I v1), some (jm_I v2), some (jm_I v3), some (jm_I v4), some (jm_I v5), some (jm_I v6), some (jm_I (jm_wr (v7 + 1))), none] [] m3 Q)))))))) : jg E m_X11_leads d 44 [some (jm_R 133), some (jm_I v1), some (jm_I v2), some (jm_I v3), some (jm_I v4), some (jm_I v5), some (jm_I v6), some (jm_I v7), none] [] μ Q := by
  refine jm_iload d_X11_leads_44 rfl ?_
  refine jm_aloadn d_X11_leads_46 rfl ?_
  refine jm_getF (k := 14) (ki := 14) rfl cf_X11 (Nat.le_of_ble_eq_true rfl) f_X11_13 d_X11_leads_47 rfl rfl is_133 fr_133_14 ?_
  refine jm_iconst (v := 1) d_X11_leads_50 rfl (jm_okI (by decide) (by decide)) ?_
  refine jm_iaload d_X11_leads_51 (ixl_135 (by decide) (by decide)) ?_
  refine jm_icmp_ge (tgt := 134) d_X11_leads_52 (by decide) (fun c1 => ?_) (fun c1 => ?_)
  · have h := h.1 c1
    refine jm_iinc (L' := [some (jm_R _), some (jm_I _), some (jm_I _), some (jm_I _), some (jm_I _), some (jm_I _), some (jm_I _), some (jm_I _), none]) d_X11_leads_134 rfl rfl (Nat.le_of_ble_eq_true rfl) rfl ?_
    refine jm_goto (tgt := 30) d_X11_leads_137 (by decide) ?_
    exact jm_weak2 h (And.intro rfl (And.intro rfl (And.intro rfl (And.intro rfl (And.intro rfl (And.intro rfl (And.intro rfl trivial)))))))
  · have h := h.2 c1
    refine jm_iload d_X11_leads_55 rfl ?_
    refine jm_iload d_X11_leads_57 rfl ?_
    refine jm_icmp_eq (tgt := 134) d_X11_leads_59 (by decide) (fun c2 => ?_) (fun c2 => ?_)
    · have h := h.1 c2
      refine jm_iinc (L' := [some (jm_R _), some (jm_I _), some (jm_I _), some (jm_I _), some (jm_I _), some (jm_I _), some (jm_I _), some (jm_I _), none]) d_X11_leads_134 rfl rfl (Nat.le_of_ble_eq_true rfl) rfl ?_
      refine jm_goto (tgt := 30) d_X11_leads_137 (by decide) ?_
      exact jm_weak2 h (And.intro rfl (And.intro rfl (And.intro rfl (And.intro rfl (And.intro rfl (And.intro rfl (And.intro rfl trivial)))))))
    · have h := h.2 c2
      refine jm_aloadn d_X11_leads_62 rfl ?_
      refine jm_iconst (v := 0) d_X11_leads_63 rfl (jm_okI (by decide) (by decide)) ?_
      refine jm_iload d_X11_leads_64 rfl ?_
      refine jm_iload d_X11_leads_66 rfl ?_
      refine jm_invV (n1 := jm_N) (mc := 0) (ms := 0) (av := [jm_I _, jm_I _, jm_I _]) w_X11_wrongOf l_X11_273 d_X11_leads_68 rfl is_133 ⟨_, _, rfl⟩ ⟨Nat.le_refl _, Nat.le_refl _⟩ (Nat.le_of_ble_eq_true rfl) rfl ?_
      refine jm_Cl.mono h (fun o m3 h hr _ => ?_)
      obtain ⟨r4, rfl⟩ := jm_rokI hr
      have h := h _ rfl
      refine jm_if_eq (tgt := 77) d_X11_leads_71 (by decide) (fun c5 => ?_) (fun c5 => ?_)
      · have h := h.1 c5
        refine jm_aloadn d_X11_leads_77 rfl ?_
        refine jm_getF (k := 50) (ki := 50) rfl cf_X11 (Nat.le_of_ble_eq_true rfl) f_X11_97 d_X11_leads_78 rfl rfl is_133 fr_133_50 ?_
        refine jm_iload d_X11_leads_81 rfl ?_
        refine jm_bipush (v := 16) d_X11_leads_83 rfl (jm_okI (by decide) (by decide)) ?_
        refine jm_iload d_X11_leads_85 rfl ?_
        refine jm_imul d_X11_leads_87 ?_
        refine jm_iload d_X11_leads_88 rfl ?_
        refine jm_iadd d_X11_leads_90 ?_
        obtain ⟨f6, h⟩ := h
        refine jm_iastore d_X11_leads_91 (ixl_161 f6.1 f6.2) ?_
        have h := h _ rfl
        refine jm_aloadn d_X11_leads_92 rfl ?_
        refine jm_iconst (v := 0) d_X11_leads_93 rfl (jm_okI (by decide) (by decide)) ?_
        refine jm_iload d_X11_leads_94 rfl ?_
        refine jm_iload d_X11_leads_96 rfl ?_
        refine jm_invV (n1 := jm_N) (mc := 0) (ms := 0) (av := [jm_I _, jm_I _, jm_I _]) w_X11_push l_X11_266 d_X11_leads_98 rfl is_133 ⟨_, _, rfl⟩ ⟨Nat.le_refl _, Nat.le_refl _⟩ (Nat.le_of_ble_eq_true rfl) rfl ?_
        refine jm_Cl.mono h (fun o m8 h hr _ => ?_)
        obtain rfl := jm_rokV hr
        have h := h rfl
        refine jm_aloadn d_X11_leads_101 rfl ?_
        refine jm_iloadn d_X11_leads_102 rfl ?_
        refine jm_iloadn d_X11_leads_103 rfl ?_
        refine jm_iloadn d_X11_leads_104 rfl ?_
        refine jm_iload d_X11_leads_105 rfl ?_
        refine jm_iconst (v := 1) d_X11_leads_107 rfl (jm_okI (by decide) (by decide)) ?_
        refine jm_iadd d_X11_leads_108 ?_
        refine jm_iload d_X11_leads_109 rfl ?_
        refine jm_invV (n1 := jm_N) (mc := 0) (ms := 0) (av := [jm_I _, jm_I _, jm_I _, jm_I _, jm_I _]) w_X11_leads l_X11_363 d_X11_leads_111 rfl is_133 ⟨_, _, rfl⟩ ⟨Nat.le_refl _, Nat.le_refl _⟩ (Nat.le_of_ble_eq_true rfl) rfl ?_
        refine jm_Cl.mono h (fun o m9 h hr _ => ?_)
        obtain ⟨r10, rfl, z11⟩ := jm_rokZ hr
        have h := h _ rfl z11
        refine jm_istore (L' := [some (jm_R _), some (jm_I _), some (jm_I _), some (jm_I _), some (jm_I _), some (jm_I _), some (jm_I _), some (jm_I _), some (jm_I _)]) d_X11_leads_114 (Nat.le_of_ble_eq_true rfl) rfl ?_
        refine jm_aloadn d_X11_leads_116 rfl ?_
        refine jm_iconst (v := 0) d_X11_leads_117 rfl (jm_okI (by decide) (by decide)) ?_
        refine jm_invV (n1 := jm_N) (mc := 0) (ms := 0) (av := [jm_I _]) w_X11_pop l_X11_326 d_X11_leads_118 rfl is_133 ⟨_, _, rfl⟩ ⟨Nat.le_refl _, Nat.le_refl _⟩ (Nat.le_of_ble_eq_true rfl) rfl ?_
        refine jm_Cl.mono h (fun o m12 h hr _ => ?_)
        obtain rfl := jm_rokV hr
        have h := h rfl
        refine jm_iload d_X11_leads_121 rfl ?_
        refine jm_if_eq (tgt := 128) d_X11_leads_123 (by decide) (fun c13 => ?_) (fun c13 => ?_)
        · have h := h.1 c13
          refine jm_iinc (L' := [some (jm_R _), some (jm_I _), some (jm_I _), some (jm_I _), some (jm_I _), some (jm_I _), some (jm_I _), some (jm_I _), some (jm_I _)]) d_X11_leads_128 rfl rfl (Nat.le_of_ble_eq_true rfl) rfl ?_
          refine jm_goto (tgt := 44) d_X11_leads_131 (by decide) ?_
          exact jm_weak2 h (And.intro rfl (And.intro rfl (And.intro rfl (And.intro rfl (And.intro rfl (And.intro rfl (And.intro rfl (And.intro rfl trivial))))))))
        · have h := h.2 c13
          refine jm_iconst (v := 1) d_X11_leads_126 rfl (jm_okI (by decide) (by decide)) ?_
          exact jm_ret (o := some (jm_I _)) d_X11_leads_127 rfl ⟨Nat.le_refl _, Nat.le_refl _⟩ (jm_r_Z (by decide)) h rfl
      · have h := h.2 c5
        refine jm_goto (tgt := 128) d_X11_leads_74 (by decide) ?_
        refine jm_iinc (L' := [some (jm_R _), some (jm_I _), some (jm_I _), some (jm_I _), some (jm_I _), some (jm_I _), some (jm_I _), some (jm_I _), none]) d_X11_leads_128 rfl rfl (Nat.le_of_ble_eq_true rfl) rfl ?_
        refine jm_goto (tgt := 44) d_X11_leads_131 (by decide) ?_
        exact h
/-! ('CombTableModel', 'isTooMany', '(III)Z') -/
theorem d_X11_isTooMany_0 : decode m_X11_isTooMany.2.1 0 = .ok (.lconst 1, 1) := by decide +kernel
theorem d_X11_isTooMany_1 : decode m_X11_isTooMany.2.1 1 = .ok (.lstore_n 3, 1) := by decide +kernel
theorem d_X11_isTooMany_2 : decode m_X11_isTooMany.2.1 2 = .ok (.iconst 0, 1) := by decide +kernel
theorem d_X11_isTooMany_3 : decode m_X11_isTooMany.2.1 3 = .ok (.istore 5, 2) := by decide +kernel
theorem d_X11_isTooMany_5 : decode m_X11_isTooMany.2.1 5 = .ok (.iload 5, 2) := by decide +kernel
theorem d_X11_isTooMany_7 : decode m_X11_isTooMany.2.1 7 = .ok (.iload_n 2, 1) := by decide +kernel
theorem d_X11_isTooMany_8 : decode m_X11_isTooMany.2.1 8 = .ok (.if_icmp .ge 27, 3) := by decide +kernel
theorem d_X11_isTooMany_11 : decode m_X11_isTooMany.2.1 11 = .ok (.lload_n 3, 1) := by decide +kernel
theorem d_X11_isTooMany_12 : decode m_X11_isTooMany.2.1 12 = .ok (.iload_n 0, 1) := by decide +kernel
theorem d_X11_isTooMany_13 : decode m_X11_isTooMany.2.1 13 = .ok (.i2l, 1) := by decide +kernel
theorem d_X11_isTooMany_14 : decode m_X11_isTooMany.2.1 14 = .ok (.iload_n 1, 1) := by decide +kernel
theorem d_X11_isTooMany_15 : decode m_X11_isTooMany.2.1 15 = .ok (.i2l, 1) := by decide +kernel
theorem d_X11_isTooMany_16 : decode m_X11_isTooMany.2.1 16 = .ok (.lmul, 1) := by decide +kernel
theorem d_X11_isTooMany_17 : decode m_X11_isTooMany.2.1 17 = .ok (.lmul, 1) := by decide +kernel
theorem d_X11_isTooMany_18 : decode m_X11_isTooMany.2.1 18 = .ok (.lstore_n 3, 1) := by decide +kernel
theorem d_X11_isTooMany_19 : decode m_X11_isTooMany.2.1 19 = .ok (.lload_n 3, 1) := by decide +kernel
theorem d_X11_isTooMany_20 : decode m_X11_isTooMany.2.1 20 = .ok (.ldc2_w 367, 3) := by decide +kernel
theorem d_X11_isTooMany_23 : decode m_X11_isTooMany.2.1 23 = .ok (.lcmp, 1) := by decide +kernel
theorem d_X11_isTooMany_24 : decode m_X11_isTooMany.2.1 24 = .ok (.ifCond .le 5, 3) := by decide +kernel
theorem d_X11_isTooMany_27 : decode m_X11_isTooMany.2.1 27 = .ok (.iconst 1, 1) := by decide +kernel
theorem d_X11_isTooMany_28 : decode m_X11_isTooMany.2.1 28 = .ok (.ireturn, 1) := by decide +kernel
theorem d_X11_isTooMany_29 : decode m_X11_isTooMany.2.1 29 = .ok (.iinc 5 1, 3) := by decide +kernel
theorem d_X11_isTooMany_32 : decode m_X11_isTooMany.2.1 32 = .ok (.goto (-27), 3) := by decide +kernel
theorem d_X11_isTooMany_35 : decode m_X11_isTooMany.2.1 35 = .ok (.iconst 0, 1) := by decide +kernel
theorem d_X11_isTooMany_36 : decode m_X11_isTooMany.2.1 36 = .ok (.ireturn, 1) := by decide +kernel
set_option maxRecDepth 20000 in
theorem e_X11_isTooMany {E : jm_E} {d : Nat} {μ : jm_M} {Q : Option jm_V → jm_M → Prop} {v0 v1 v2 : Int} (h : (∀ v ∈ ([jm_I v0, jm_I v1, jm_I v2] : List jm_V), jm_ok v) →
  jg E m_X11_isTooMany d 5 [some (jm_I v0), some (jm_I v1), some (jm_I v2), some (jm_L 1), none, some (jm_I 0)] [] μ Q) : jc E m_X11_isTooMany (d + 1) [jm_I v0, jm_I v1, jm_I v2] μ Q := by
  refine jm_Cl.of2 (by decide +kernel) (L0 := [some (jm_I v0), some (jm_I v1), some (jm_I v2), none, none, none]) rfl (Nat.le_of_ble_eq_true rfl) (fun hok => ?_)
  have h := h hok
  refine jm_lconst (v := 1) d_X11_isTooMany_0 rfl (jm_okL (by decide) (by decide)) ?_
  refine jm_lstoren (L' := [some (jm_I _), some (jm_I _), some (jm_I _), some (jm_L _), none, none]) d_X11_isTooMany_1 (Nat.le_of_ble_eq_true rfl) rfl ?_
  refine jm_iconst (v := 0) d_X11_isTooMany_2 rfl (jm_okI (by decide) (by decide)) ?_
  refine jm_istore (L' := [some (jm_I _), some (jm_I _), some (jm_I _), some (jm_L _), none, some (jm_I _)]) d_X11_isTooMany_3 (Nat.le_of_ble_eq_true rfl) rfl ?_
  exact h
set_option maxRecDepth 20000 in
theorem r_X11_isTooMany_5 {E : jm_E} {d : Nat} {μ : jm_M} {Q : Option jm_V → jm_M → Prop} {v0 v1 v2 v3 v5 : Int} (h :
  ((v2 ≤ v5 →
    Q (some (jm_I 0)) μ) ∧
   (¬ (v2 ≤ v5) →
    ∀ x2 : Int, x2 = jm_wl (v3 * (jm_wl (v0 * v1))) →
    ((jm_cmp x2 300000 ≤ 0 →
      jg E m_X11_isTooMany d 5 [some (jm_I v0), some (jm_I v1), some (jm_I v2), some (jm_L x2), none, some (jm_I (jm_wr (v5 + 1)))] [] μ Q) ∧
     (¬ (jm_cmp x2 300000 ≤ 0) →
      Q (some (jm_I 1)) μ))))) : jg E m_X11_isTooMany d 5 [some (jm_I v0), some (jm_I v1), some (jm_I v2), some (jm_L v3), none, some (jm_I v5)] [] μ Q := by
  refine jm_iload d_X11_isTooMany_5 rfl ?_
  refine jm_iloadn d_X11_isTooMany_7 rfl ?_
  refine jm_icmp_ge (tgt := 35) d_X11_isTooMany_8 (by decide) (fun c1 => ?_) (fun c1 => ?_)
  · have h := h.1 c1
    refine jm_iconst (v := 0) d_X11_isTooMany_35 rfl (jm_okI (by decide) (by decide)) ?_
    exact jm_ret (o := some (jm_I _)) d_X11_isTooMany_36 rfl ⟨Nat.le_refl _, Nat.le_refl _⟩ (jm_r_Z (by decide)) h rfl
  · have h := h.2 c1
    refine jm_lloadn d_X11_isTooMany_11 rfl ?_
    refine jm_iloadn d_X11_isTooMany_12 rfl ?_
    refine jm_i2l d_X11_isTooMany_13 ?_
    refine jm_iloadn d_X11_isTooMany_14 rfl ?_
    refine jm_i2l d_X11_isTooMany_15 ?_
    refine jm_lmul d_X11_isTooMany_16 ?_
    refine jm_lmul d_X11_isTooMany_17 ?_
    have h := h _ rfl
    refine jm_lstoren (L' := [some (jm_I _), some (jm_I _), some (jm_I _), some (jm_L _), none, some (jm_I _)]) d_X11_isTooMany_18 (Nat.le_of_ble_eq_true rfl) rfl ?_
    refine jm_lloadn d_X11_isTooMany_19 rfl ?_
    refine jm_ldc2 (v := 300000) d_X11_isTooMany_20 k_X11_367 (jm_okL (by decide) (by decide)) ?_
    refine jm_lcmp d_X11_isTooMany_23 ?_
    refine jm_if_le (tgt := 29) d_X11_isTooMany_24 (by decide) (fun c3 => ?_) (fun c3 => ?_)
    · have h := h.1 c3
      refine jm_iinc (L' := [some (jm_I _), some (jm_I _), some (jm_I _), some (jm_L _), none, some (jm_I _)]) d_X11_isTooMany_29 rfl rfl (Nat.le_of_ble_eq_true rfl) rfl ?_
      refine jm_goto (tgt := 5) d_X11_isTooMany_32 (by decide) ?_
      exact h
    · have h := h.2 c3
      refine jm_iconst (v := 1) d_X11_isTooMany_27 rfl (jm_okI (by decide) (by decide)) ?_
      exact jm_ret (o := some (jm_I _)) d_X11_isTooMany_28 rfl ⟨Nat.le_refl _, Nat.le_refl _⟩ (jm_r_Z (by decide)) h rfl
/-! ('CombTableModel', 'roadOf', '(IIII)I') -/
theorem d_X11_roadOf_0 : decode m_X11_roadOf.2.1 0 = .ok (.iload_n 2, 1) := by decide +kernel
theorem d_X11_roadOf_1 : decode m_X11_roadOf.2.1 1 = .ok (.iconst 0, 1) := by decide +kernel
theorem d_X11_roadOf_2 : decode m_X11_roadOf.2.1 2 = .ok (.bipush 8, 2) := by decide +kernel
theorem d_X11_roadOf_4 : decode m_X11_roadOf.2.1 4 = .ok (.invokestatic 177, 3) := by decide +kernel
theorem d_X11_roadOf_7 : decode m_X11_roadOf.2.1 7 = .ok (.ifCond .eq 24, 3) := by decide +kernel
theorem d_X11_roadOf_10 : decode m_X11_roadOf.2.1 10 = .ok (.iload_n 3, 1) := by decide +kernel
theorem d_X11_roadOf_11 : decode m_X11_roadOf.2.1 11 = .ok (.iconst 1, 1) := by decide +kernel
theorem d_X11_roadOf_12 : decode m_X11_roadOf.2.1 12 = .ok (.bipush 8, 2) := by decide +kernel
theorem d_X11_roadOf_14 : decode m_X11_roadOf.2.1 14 = .ok (.invokestatic 177, 3) := by decide +kernel
theorem d_X11_roadOf_17 : decode m_X11_roadOf.2.1 17 = .ok (.ifCond .eq 14, 3) := by decide +kernel
theorem d_X11_roadOf_20 : decode m_X11_roadOf.2.1 20 = .ok (.iload_n 1, 1) := by decide +kernel
theorem d_X11_roadOf_21 : decode m_X11_roadOf.2.1 21 = .ok (.iconst 0, 1) := by decide +kernel
theorem d_X11_roadOf_22 : decode m_X11_roadOf.2.1 22 = .ok (.sipush 399, 3) := by decide +kernel
theorem d_X11_roadOf_25 : decode m_X11_roadOf.2.1 25 = .ok (.invokestatic 177, 3) := by decide +kernel
theorem d_X11_roadOf_28 : decode m_X11_roadOf.2.1 28 = .ok (.ifCond .ne 6, 3) := by decide +kernel
theorem d_X11_roadOf_31 : decode m_X11_roadOf.2.1 31 = .ok (.bipush (-3), 2) := by decide +kernel
theorem d_X11_roadOf_33 : decode m_X11_roadOf.2.1 33 = .ok (.ireturn, 1) := by decide +kernel
theorem d_X11_roadOf_34 : decode m_X11_roadOf.2.1 34 = .ok (.aload_n 0, 1) := by decide +kernel
theorem d_X11_roadOf_35 : decode m_X11_roadOf.2.1 35 = .ok (.getfield 13, 3) := by decide +kernel
theorem d_X11_roadOf_38 : decode m_X11_roadOf.2.1 38 = .ok (.iconst 0, 1) := by decide +kernel
theorem d_X11_roadOf_39 : decode m_X11_roadOf.2.1 39 = .ok (.iaload, 1) := by decide +kernel
theorem d_X11_roadOf_40 : decode m_X11_roadOf.2.1 40 = .ok (.aload_n 0, 1) := by decide +kernel
theorem d_X11_roadOf_41 : decode m_X11_roadOf.2.1 41 = .ok (.getfield 13, 3) := by decide +kernel
theorem d_X11_roadOf_44 : decode m_X11_roadOf.2.1 44 = .ok (.iconst 1, 1) := by decide +kernel
theorem d_X11_roadOf_45 : decode m_X11_roadOf.2.1 45 = .ok (.iaload, 1) := by decide +kernel
theorem d_X11_roadOf_46 : decode m_X11_roadOf.2.1 46 = .ok (.iload_n 3, 1) := by decide +kernel
theorem d_X11_roadOf_47 : decode m_X11_roadOf.2.1 47 = .ok (.invokestatic 369, 3) := by decide +kernel
theorem d_X11_roadOf_50 : decode m_X11_roadOf.2.1 50 = .ok (.ifCond .eq 6, 3) := by decide +kernel
theorem d_X11_roadOf_53 : decode m_X11_roadOf.2.1 53 = .ok (.bipush (-2), 2) := by decide +kernel
theorem d_X11_roadOf_55 : decode m_X11_roadOf.2.1 55 = .ok (.ireturn, 1) := by decide +kernel
theorem d_X11_roadOf_56 : decode m_X11_roadOf.2.1 56 = .ok (.aload_n 0, 1) := by decide +kernel
theorem d_X11_roadOf_57 : decode m_X11_roadOf.2.1 57 = .ok (.invokevirtual 270, 3) := by decide +kernel
theorem d_X11_roadOf_60 : decode m_X11_roadOf.2.1 60 = .ok (.iconst 0, 1) := by decide +kernel
theorem d_X11_roadOf_61 : decode m_X11_roadOf.2.1 61 = .ok (.istore 5, 2) := by decide +kernel
theorem d_X11_roadOf_63 : decode m_X11_roadOf.2.1 63 = .ok (.iload 5, 2) := by decide +kernel
theorem d_X11_roadOf_65 : decode m_X11_roadOf.2.1 65 = .ok (.iload_n 3, 1) := by decide +kernel
theorem d_X11_roadOf_66 : decode m_X11_roadOf.2.1 66 = .ok (.if_icmp .gt 26, 3) := by decide +kernel
theorem d_X11_roadOf_69 : decode m_X11_roadOf.2.1 69 = .ok (.aload_n 0, 1) := by decide +kernel
theorem d_X11_roadOf_70 : decode m_X11_roadOf.2.1 70 = .ok (.iload_n 1, 1) := by decide +kernel
theorem d_X11_roadOf_71 : decode m_X11_roadOf.2.1 71 = .ok (.iload_n 2, 1) := by decide +kernel
theorem d_X11_roadOf_72 : decode m_X11_roadOf.2.1 72 = .ok (.iload 5, 2) := by decide +kernel
theorem d_X11_roadOf_74 : decode m_X11_roadOf.2.1 74 = .ok (.iconst 0, 1) := by decide +kernel
theorem d_X11_roadOf_75 : decode m_X11_roadOf.2.1 75 = .ok (.iload 4, 2) := by decide +kernel
theorem d_X11_roadOf_77 : decode m_X11_roadOf.2.1 77 = .ok (.invokevirtual 363, 3) := by decide +kernel
theorem d_X11_roadOf_80 : decode m_X11_roadOf.2.1 80 = .ok (.ifCond .eq 6, 3) := by decide +kernel
theorem d_X11_roadOf_83 : decode m_X11_roadOf.2.1 83 = .ok (.iload 5, 2) := by decide +kernel
theorem d_X11_roadOf_85 : decode m_X11_roadOf.2.1 85 = .ok (.ireturn, 1) := by decide +kernel
theorem d_X11_roadOf_86 : decode m_X11_roadOf.2.1 86 = .ok (.iinc 5 1, 3) := by decide +kernel
theorem d_X11_roadOf_89 : decode m_X11_roadOf.2.1 89 = .ok (.goto (-26), 3) := by decide +kernel
theorem d_X11_roadOf_92 : decode m_X11_roadOf.2.1 92 = .ok (.iconst (-1), 1) := by decide +kernel
theorem d_X11_roadOf_93 : decode m_X11_roadOf.2.1 93 = .ok (.ireturn, 1) := by decide +kernel
set_option maxRecDepth 20000 in
theorem e_X11_roadOf {E : jm_E} {d : Nat} {μ : jm_M} {Q : Option jm_V → jm_M → Prop} {v1 v2 v3 v4 : Int} (h : (∀ v ∈ ([jm_R 133, jm_I v1, jm_I v2, jm_I v3, jm_I v4] : List jm_V), jm_ok v) →
  jc E m_X11_isIn d [jm_I v2, jm_I 0, jm_I 8] μ (fun (o : Option jm_V) (m1 : jm_M) => ∀ r2 : Int, o = some (jm_I r2) → (r2 = 0 ∨ r2 = 1) →
  ((r2 = 0 →
    Q (some (jm_I ((-3)))) m1) ∧
   (¬ (r2 = 0) →
    jc E m_X11_isIn d [jm_I v3, jm_I 1, jm_I 8] m1 (fun (o : Option jm_V) (m5 : jm_M) => ∀ r6 : Int, o = some (jm_I r6) → (r6 = 0 ∨ r6 = 1) →
    ((r6 = 0 →
      Q (some (jm_I ((-3)))) m5) ∧
     (¬ (r6 = 0) →
      jc E m_X11_isIn d [jm_I v1, jm_I 0, jm_I 399] m5 (fun (o : Option jm_V) (m9 : jm_M) => ∀ r10 : Int, o = some (jm_I r10) → (r10 = 0 ∨ r10 = 1) →
      ((r10 ≠ 0 →
        jc E m_X11_isTooMany d [jm_I (m9 135 0), jm_I (m9 135 1), jm_I v3] m9 (fun (o : Option jm_V) (m13 : jm_M) => ∀ r14 : Int, o = some (jm_I r14) → (r14 = 0 ∨ r14 = 1) →
        ((r14 = 0 →
          jc E m_X11_lay d [jm_R 133] m13 (fun (o : Option jm_V) (m17 : jm_M) => o = none →
          jg E m_X11_roadOf d 63 [some (jm_R 133), some (jm_I v1), some (jm_I v2), some (jm_I v3), some (jm_I v4), some (jm_I 0)] [] m17 Q)) ∧
         (¬ (r14 = 0) →
          Q (some (jm_I ((-2)))) m13)))) ∧
       (¬ (r10 ≠ 0) →
        Q (some (jm_I ((-3)))) m9)))))))))) : jc E m_X11_roadOf (d + 1) [jm_R 133, jm_I v1, jm_I v2, jm_I v3, jm_I v4] μ Q := by
  refine jm_Cl.of2 (by decide +kernel) (L0 := [some (jm_R 133), some (jm_I v1), some (jm_I v2), some (jm_I v3), some (jm_I v4), none]) rfl (Nat.le_of_ble_eq_true rfl) (fun hok => ?_)
  have h := h hok
  refine jm_iloadn d_X11_roadOf_0 rfl ?_
  refine jm_iconst (v := 0) d_X11_roadOf_1 rfl (jm_okI (by decide) (by decide)) ?_
  refine jm_bipush (v := 8) d_X11_roadOf_2 rfl (jm_okI (by decide) (by decide)) ?_
  refine jm_invS (n1 := jm_N) (mc := 0) (ms := 0) (av := [jm_I _, jm_I _, jm_I _]) w_X11_isIn l_X11_177 d_X11_roadOf_4 rfl ⟨Nat.le_refl _, Nat.le_refl _⟩ (Nat.le_of_ble_eq_true rfl) rfl ?_
  refine jm_Cl.mono h (fun o m1 h hr _ => ?_)
  obtain ⟨r2, rfl, z3⟩ := jm_rokZ hr
  have h := h _ rfl z3
  refine jm_if_eq (tgt := 31) d_X11_roadOf_7 (by decide) (fun c4 => ?_) (fun c4 => ?_)
  · have h := h.1 c4
    refine jm_bipush (v := (-3)) d_X11_roadOf_31 rfl (jm_okI (by decide) (by decide)) ?_
    exact jm_ret (o := some (jm_I _)) d_X11_roadOf_33 rfl ⟨Nat.le_refl _, Nat.le_refl _⟩ jm_r_I h rfl
  · have h := h.2 c4
    refine jm_iloadn d_X11_roadOf_10 rfl ?_
    refine jm_iconst (v := 1) d_X11_roadOf_11 rfl (jm_okI (by decide) (by decide)) ?_
    refine jm_bipush (v := 8) d_X11_roadOf_12 rfl (jm_okI (by decide) (by decide)) ?_
    refine jm_invS (n1 := jm_N) (mc := 0) (ms := 0) (av := [jm_I _, jm_I _, jm_I _]) w_X11_isIn l_X11_177 d_X11_roadOf_14 rfl ⟨Nat.le_refl _, Nat.le_refl _⟩ (Nat.le_of_ble_eq_true rfl) rfl ?_
    refine jm_Cl.mono h (fun o m5 h hr _ => ?_)
    obtain ⟨r6, rfl, z7⟩ := jm_rokZ hr
    have h := h _ rfl z7
    refine jm_if_eq (tgt := 31) d_X11_roadOf_17 (by decide) (fun c8 => ?_) (fun c8 => ?_)
    · have h := h.1 c8
      refine jm_bipush (v := (-3)) d_X11_roadOf_31 rfl (jm_okI (by decide) (by decide)) ?_
      exact jm_ret (o := some (jm_I _)) d_X11_roadOf_33 rfl ⟨Nat.le_refl _, Nat.le_refl _⟩ jm_r_I h rfl
    · have h := h.2 c8
      refine jm_iloadn d_X11_roadOf_20 rfl ?_
      refine jm_iconst (v := 0) d_X11_roadOf_21 rfl (jm_okI (by decide) (by decide)) ?_
      refine jm_sipush (v := 399) d_X11_roadOf_22 rfl (jm_okI (by decide) (by decide)) ?_
      refine jm_invS (n1 := jm_N) (mc := 0) (ms := 0) (av := [jm_I _, jm_I _, jm_I _]) w_X11_isIn l_X11_177 d_X11_roadOf_25 rfl ⟨Nat.le_refl _, Nat.le_refl _⟩ (Nat.le_of_ble_eq_true rfl) rfl ?_
      refine jm_Cl.mono h (fun o m9 h hr _ => ?_)
      obtain ⟨r10, rfl, z11⟩ := jm_rokZ hr
      have h := h _ rfl z11
      refine jm_if_ne (tgt := 34) d_X11_roadOf_28 (by decide) (fun c12 => ?_) (fun c12 => ?_)
      · have h := h.1 c12
        refine jm_aloadn d_X11_roadOf_34 rfl ?_
        refine jm_getF (k := 14) (ki := 14) rfl cf_X11 (Nat.le_of_ble_eq_true rfl) f_X11_13 d_X11_roadOf_35 rfl rfl is_133 fr_133_14 ?_
        refine jm_iconst (v := 0) d_X11_roadOf_38 rfl (jm_okI (by decide) (by decide)) ?_
        refine jm_iaload d_X11_roadOf_39 (ixl_135 (by decide) (by decide)) ?_
        refine jm_aloadn d_X11_roadOf_40 rfl ?_
        refine jm_getF (k := 14) (ki := 14) rfl cf_X11 (Nat.le_of_ble_eq_true rfl) f_X11_13 d_X11_roadOf_41 rfl rfl is_133 fr_133_14 ?_
        refine jm_iconst (v := 1) d_X11_roadOf_44 rfl (jm_okI (by decide) (by decide)) ?_
        refine jm_iaload d_X11_roadOf_45 (ixl_135 (by decide) (by decide)) ?_
        refine jm_iloadn d_X11_roadOf_46 rfl ?_
        refine jm_invS (n1 := jm_N) (mc := 0) (ms := 0) (av := [jm_I _, jm_I _, jm_I _]) w_X11_isTooMany l_X11_369 d_X11_roadOf_47 rfl ⟨Nat.le_refl _, Nat.le_refl _⟩ (Nat.le_of_ble_eq_true rfl) rfl ?_
        refine jm_Cl.mono h (fun o m13 h hr _ => ?_)
        obtain ⟨r14, rfl, z15⟩ := jm_rokZ hr
        have h := h _ rfl z15
        refine jm_if_eq (tgt := 56) d_X11_roadOf_50 (by decide) (fun c16 => ?_) (fun c16 => ?_)
        · have h := h.1 c16
          refine jm_aloadn d_X11_roadOf_56 rfl ?_
          refine jm_invV (n1 := jm_N) (mc := 0) (ms := 0) (av := []) w_X11_lay l_X11_270 d_X11_roadOf_57 rfl is_133 ⟨_, _, rfl⟩ ⟨Nat.le_refl _, Nat.le_refl _⟩ (Nat.le_of_ble_eq_true rfl) rfl ?_
          refine jm_Cl.mono h (fun o m17 h hr _ => ?_)
          obtain rfl := jm_rokV hr
          have h := h rfl
          refine jm_iconst (v := 0) d_X11_roadOf_60 rfl (jm_okI (by decide) (by decide)) ?_
          refine jm_istore (L' := [some (jm_R _), some (jm_I _), some (jm_I _), some (jm_I _), some (jm_I _), some (jm_I _)]) d_X11_roadOf_61 (Nat.le_of_ble_eq_true rfl) rfl ?_
          exact h
        · have h := h.2 c16
          refine jm_bipush (v := (-2)) d_X11_roadOf_53 rfl (jm_okI (by decide) (by decide)) ?_
          exact jm_ret (o := some (jm_I _)) d_X11_roadOf_55 rfl ⟨Nat.le_refl _, Nat.le_refl _⟩ jm_r_I h rfl
      · have h := h.2 c12
        refine jm_bipush (v := (-3)) d_X11_roadOf_31 rfl (jm_okI (by decide) (by decide)) ?_
        exact jm_ret (o := some (jm_I _)) d_X11_roadOf_33 rfl ⟨Nat.le_refl _, Nat.le_refl _⟩ jm_r_I h rfl
set_option maxRecDepth 20000 in
theorem r_X11_roadOf_63 {E : jm_E} {d : Nat} {μ : jm_M} {Q : Option jm_V → jm_M → Prop} {v1 v2 v3 v4 v5 : Int} (h :
  ((v3 < v5 →
    Q (some (jm_I ((-1)))) μ) ∧
   (¬ (v3 < v5) →
    jc E m_X11_leads d [jm_R 133, jm_I v1, jm_I v2, jm_I v5, jm_I 0, jm_I v4] μ (fun (o : Option jm_V) (m2 : jm_M) => ∀ r3 : Int, o = some (jm_I r3) → (r3 = 0 ∨ r3 = 1) →
    ((r3 = 0 →
      jg E m_X11_roadOf d 63 [some (jm_R 133), some (jm_I v1), some (jm_I v2), some (jm_I v3), some (jm_I v4), some (jm_I (jm_wr (v5 + 1)))] [] m2 Q) ∧
     (¬ (r3 = 0) →
      Q (some (jm_I v5)) m2)))))) : jg E m_X11_roadOf d 63 [some (jm_R 133), some (jm_I v1), some (jm_I v2), some (jm_I v3), some (jm_I v4), some (jm_I v5)] [] μ Q := by
  refine jm_iload d_X11_roadOf_63 rfl ?_
  refine jm_iloadn d_X11_roadOf_65 rfl ?_
  refine jm_icmp_gt (tgt := 92) d_X11_roadOf_66 (by decide) (fun c1 => ?_) (fun c1 => ?_)
  · have h := h.1 c1
    refine jm_iconst (v := (-1)) d_X11_roadOf_92 rfl (jm_okI (by decide) (by decide)) ?_
    exact jm_ret (o := some (jm_I _)) d_X11_roadOf_93 rfl ⟨Nat.le_refl _, Nat.le_refl _⟩ jm_r_I h rfl
  · have h := h.2 c1
    refine jm_aloadn d_X11_roadOf_69 rfl ?_
    refine jm_iloadn d_X11_roadOf_70 rfl ?_
    refine jm_iloadn d_X11_roadOf_71 rfl ?_
    refine jm_iload d_X11_roadOf_72 rfl ?_
    refine jm_iconst (v := 0) d_X11_roadOf_74 rfl (jm_okI (by decide) (by decide)) ?_
    refine jm_iload d_X11_roadOf_75 rfl ?_
    refine jm_invV (n1 := jm_N) (mc := 0) (ms := 0) (av := [jm_I _, jm_I _, jm_I _, jm_I _, jm_I _]) w_X11_leads l_X11_363 d_X11_roadOf_77 rfl is_133 ⟨_, _, rfl⟩ ⟨Nat.le_refl _, Nat.le_refl _⟩ (Nat.le_of_ble_eq_true rfl) rfl ?_
    refine jm_Cl.mono h (fun o m2 h hr _ => ?_)
    obtain ⟨r3, rfl, z4⟩ := jm_rokZ hr
    have h := h _ rfl z4
    refine jm_if_eq (tgt := 86) d_X11_roadOf_80 (by decide) (fun c5 => ?_) (fun c5 => ?_)
    · have h := h.1 c5
      refine jm_iinc (L' := [some (jm_R _), some (jm_I _), some (jm_I _), some (jm_I _), some (jm_I _), some (jm_I _)]) d_X11_roadOf_86 rfl rfl (Nat.le_of_ble_eq_true rfl) rfl ?_
      refine jm_goto (tgt := 63) d_X11_roadOf_89 (by decide) ?_
      exact h
    · have h := h.2 c5
      refine jm_iload d_X11_roadOf_83 rfl ?_
      exact jm_ret (o := some (jm_I _)) d_X11_roadOf_85 rfl ⟨Nat.le_refl _, Nat.le_refl _⟩ jm_r_I h rfl
/-! ('CombTableModel', 'road', '(III)I') -/
theorem d_X11_road_0 : decode m_X11_road.2.1 0 = .ok (.aload_n 0, 1) := by decide +kernel
theorem d_X11_road_1 : decode m_X11_road.2.1 1 = .ok (.iconst 0, 1) := by decide +kernel
theorem d_X11_road_2 : decode m_X11_road.2.1 2 = .ok (.putfield 106, 3) := by decide +kernel
theorem d_X11_road_5 : decode m_X11_road.2.1 5 = .ok (.aload_n 0, 1) := by decide +kernel
theorem d_X11_road_6 : decode m_X11_road.2.1 6 = .ok (.iload_n 1, 1) := by decide +kernel
theorem d_X11_road_7 : decode m_X11_road.2.1 7 = .ok (.iload_n 2, 1) := by decide +kernel
theorem d_X11_road_8 : decode m_X11_road.2.1 8 = .ok (.iload_n 3, 1) := by decide +kernel
theorem d_X11_road_9 : decode m_X11_road.2.1 9 = .ok (.iconst (-1), 1) := by decide +kernel
theorem d_X11_road_10 : decode m_X11_road.2.1 10 = .ok (.invokevirtual 372, 3) := by decide +kernel
theorem d_X11_road_13 : decode m_X11_road.2.1 13 = .ok (.istore 4, 2) := by decide +kernel
theorem d_X11_road_15 : decode m_X11_road.2.1 15 = .ok (.iload 4, 2) := by decide +kernel
theorem d_X11_road_17 : decode m_X11_road.2.1 17 = .ok (.ifCond .ge 6, 3) := by decide +kernel
theorem d_X11_road_20 : decode m_X11_road.2.1 20 = .ok (.iload 4, 2) := by decide +kernel
theorem d_X11_road_22 : decode m_X11_road.2.1 22 = .ok (.ireturn, 1) := by decide +kernel
theorem d_X11_road_23 : decode m_X11_road.2.1 23 = .ok (.aload_n 0, 1) := by decide +kernel
theorem d_X11_road_24 : decode m_X11_road.2.1 24 = .ok (.iload 4, 2) := by decide +kernel
theorem d_X11_road_26 : decode m_X11_road.2.1 26 = .ok (.putfield 376, 3) := by decide +kernel
theorem d_X11_road_29 : decode m_X11_road.2.1 29 = .ok (.iconst 0, 1) := by decide +kernel
theorem d_X11_road_30 : decode m_X11_road.2.1 30 = .ok (.istore 5, 2) := by decide +kernel
theorem d_X11_road_32 : decode m_X11_road.2.1 32 = .ok (.iload 5, 2) := by decide +kernel
theorem d_X11_road_34 : decode m_X11_road.2.1 34 = .ok (.iload 4, 2) := by decide +kernel
theorem d_X11_road_36 : decode m_X11_road.2.1 36 = .ok (.if_icmp .ge 23, 3) := by decide +kernel
theorem d_X11_road_39 : decode m_X11_road.2.1 39 = .ok (.aload_n 0, 1) := by decide +kernel
theorem d_X11_road_40 : decode m_X11_road.2.1 40 = .ok (.getfield 100, 3) := by decide +kernel
theorem d_X11_road_43 : decode m_X11_road.2.1 43 = .ok (.iload 5, 2) := by decide +kernel
theorem d_X11_road_45 : decode m_X11_road.2.1 45 = .ok (.aload_n 0, 1) := by decide +kernel
theorem d_X11_road_46 : decode m_X11_road.2.1 46 = .ok (.getfield 97, 3) := by decide +kernel
theorem d_X11_road_49 : decode m_X11_road.2.1 49 = .ok (.iload 5, 2) := by decide +kernel
theorem d_X11_road_51 : decode m_X11_road.2.1 51 = .ok (.iaload, 1) := by decide +kernel
theorem d_X11_road_52 : decode m_X11_road.2.1 52 = .ok (.iastore, 1) := by decide +kernel
theorem d_X11_road_53 : decode m_X11_road.2.1 53 = .ok (.iinc 5 1, 3) := by decide +kernel
theorem d_X11_road_56 : decode m_X11_road.2.1 56 = .ok (.goto (-24), 3) := by decide +kernel
theorem d_X11_road_59 : decode m_X11_road.2.1 59 = .ok (.iload 4, 2) := by decide +kernel
theorem d_X11_road_61 : decode m_X11_road.2.1 61 = .ok (.ireturn, 1) := by decide +kernel
set_option maxRecDepth 20000 in
theorem e_X11_road {E : jm_E} {d : Nat} {μ : jm_M} {Q : Option jm_V → jm_M → Prop} {v1 v2 v3 : Int} (h : (∀ v ∈ ([jm_R 133, jm_I v1, jm_I v2, jm_I v3] : List jm_V), jm_ok v) →
  jc E m_X11_roadOf d [jm_R 133, jm_I v1, jm_I v2, jm_I v3, jm_I ((-1))] (jm_up μ 133 0 0) (fun (o : Option jm_V) (m1 : jm_M) => ∀ r2 : Int, o = some (jm_I r2) →
  ((0 ≤ r2 →
    jg E m_X11_road d 32 [some (jm_R 133), none, none, none, some (jm_I r2), some (jm_I 0)] [] (jm_up m1 133 52 r2) Q) ∧
   (¬ (0 ≤ r2) →
    Q (some (jm_I r2)) m1)))) : jc E m_X11_road (d + 1) [jm_R 133, jm_I v1, jm_I v2, jm_I v3] μ Q := by
  refine jm_Cl.of2 (by decide +kernel) (L0 := [some (jm_R 133), some (jm_I v1), some (jm_I v2), some (jm_I v3), none, none]) rfl (Nat.le_of_ble_eq_true rfl) (fun hok => ?_)
  have h := h hok
  refine jm_aloadn d_X11_road_0 rfl ?_
  refine jm_iconst (v := 0) d_X11_road_1 rfl (jm_okI (by decide) (by decide)) ?_
  refine jm_putI (k := 0) (ki := 0) cf_X11 (Nat.le_of_ble_eq_true rfl) f_X11_106 d_X11_road_2 (fun z => absurd z (by decide)) rfl rfl rfl (fun _ => rfl) is_133 ?_
  refine jm_aloadn d_X11_road_5 rfl ?_
  refine jm_iloadn d_X11_road_6 rfl ?_
  refine jm_iloadn d_X11_road_7 rfl ?_
  refine jm_iloadn d_X11_road_8 rfl ?_
  refine jm_iconst (v := (-1)) d_X11_road_9 rfl (jm_okI (by decide) (by decide)) ?_
  refine jm_invV (n1 := jm_N) (mc := 0) (ms := 0) (av := [jm_I _, jm_I _, jm_I _, jm_I _]) w_X11_roadOf l_X11_372 d_X11_road_10 rfl is_133 ⟨_, _, rfl⟩ ⟨Nat.le_refl _, Nat.le_refl _⟩ (Nat.le_of_ble_eq_true rfl) rfl ?_
  refine jm_Cl.mono h (fun o m1 h hr _ => ?_)
  obtain ⟨r2, rfl⟩ := jm_rokI hr
  have h := h _ rfl
  refine jm_istore (L' := [some (jm_R _), some (jm_I _), some (jm_I _), some (jm_I _), some (jm_I _), none]) d_X11_road_13 (Nat.le_of_ble_eq_true rfl) rfl ?_
  refine jm_iload d_X11_road_15 rfl ?_
  refine jm_if_ge (tgt := 23) d_X11_road_17 (by decide) (fun c3 => ?_) (fun c3 => ?_)
  · have h := h.1 c3
    refine jm_aloadn d_X11_road_23 rfl ?_
    refine jm_iload d_X11_road_24 rfl ?_
    refine jm_putI (k := 52) (ki := 52) cf_X11 (Nat.le_of_ble_eq_true rfl) f_X11_376 d_X11_road_26 (fun z => absurd z (by decide)) rfl rfl rfl (fun _ => rfl) is_133 ?_
    refine jm_iconst (v := 0) d_X11_road_29 rfl (jm_okI (by decide) (by decide)) ?_
    refine jm_istore (L' := [some (jm_R _), some (jm_I _), some (jm_I _), some (jm_I _), some (jm_I _), some (jm_I _)]) d_X11_road_30 (Nat.le_of_ble_eq_true rfl) rfl ?_
    exact jm_weak2 h (And.intro rfl (And.intro rfl (And.intro rfl trivial)))
  · have h := h.2 c3
    refine jm_iload d_X11_road_20 rfl ?_
    exact jm_ret (o := some (jm_I _)) d_X11_road_22 rfl ⟨Nat.le_refl _, Nat.le_refl _⟩ jm_r_I h rfl
set_option maxRecDepth 20000 in
theorem r_X11_road_32 {E : jm_E} {d : Nat} {μ : jm_M} {Q : Option jm_V → jm_M → Prop} {v4 v5 : Int} (h :
  ((v4 ≤ v5 →
    Q (some (jm_I v4)) μ) ∧
   (¬ (v4 ≤ v5) →
    (0 ≤ v5 ∧ v5 < 8) ∧
    ∀ m3 : jm_M, m3 = (jm_up μ 162 v5 (μ 161 v5)) →
    jg E m_X11_road d 32 [some (jm_R 133), none, none, none, some (jm_I v4), some (jm_I (jm_wr (v5 + 1)))] [] m3 Q))) : jg E m_X11_road d 32 [some (jm_R 133), none, none, none, some (jm_I v4), some (jm_I v5)] [] μ Q := by
  refine jm_iload d_X11_road_32 rfl ?_
  refine jm_iload d_X11_road_34 rfl ?_
  refine jm_icmp_ge (tgt := 59) d_X11_road_36 (by decide) (fun c1 => ?_) (fun c1 => ?_)
  · have h := h.1 c1
    refine jm_iload d_X11_road_59 rfl ?_
    exact jm_ret (o := some (jm_I _)) d_X11_road_61 rfl ⟨Nat.le_refl _, Nat.le_refl _⟩ jm_r_I h rfl
  · have h := h.2 c1
    refine jm_aloadn d_X11_road_39 rfl ?_
    refine jm_getF (k := 51) (ki := 51) rfl cf_X11 (Nat.le_of_ble_eq_true rfl) f_X11_100 d_X11_road_40 rfl rfl is_133 fr_133_51 ?_
    refine jm_iload d_X11_road_43 rfl ?_
    refine jm_aloadn d_X11_road_45 rfl ?_
    refine jm_getF (k := 50) (ki := 50) rfl cf_X11 (Nat.le_of_ble_eq_true rfl) f_X11_97 d_X11_road_46 rfl rfl is_133 fr_133_50 ?_
    refine jm_iload d_X11_road_49 rfl ?_
    obtain ⟨f2, h⟩ := h
    refine jm_iaload d_X11_road_51 (ixl_161 f2.1 f2.2) ?_
    refine jm_iastore d_X11_road_52 (ixl_162 f2.1 f2.2) ?_
    have h := h _ rfl
    refine jm_iinc (L' := [some (jm_R _), none, none, none, some (jm_I _), some (jm_I _)]) d_X11_road_53 rfl rfl (Nat.le_of_ble_eq_true rfl) rfl ?_
    refine jm_goto (tgt := 32) d_X11_road_56 (by decide) ?_
    exact h
/-! ('CombTableModel', 'without', '(IIII)I') -/
theorem d_X11_without_0 : decode m_X11_without.2.1 0 = .ok (.aload_n 0, 1) := by decide +kernel
theorem d_X11_without_1 : decode m_X11_without.2.1 1 = .ok (.iconst 0, 1) := by decide +kernel
theorem d_X11_without_2 : decode m_X11_without.2.1 2 = .ok (.putfield 106, 3) := by decide +kernel
theorem d_X11_without_5 : decode m_X11_without.2.1 5 = .ok (.aload_n 0, 1) := by decide +kernel
theorem d_X11_without_6 : decode m_X11_without.2.1 6 = .ok (.iload_n 1, 1) := by decide +kernel
theorem d_X11_without_7 : decode m_X11_without.2.1 7 = .ok (.invokevirtual 242, 3) := by decide +kernel
theorem d_X11_without_10 : decode m_X11_without.2.1 10 = .ok (.ifCond .eq 15, 3) := by decide +kernel
theorem d_X11_without_13 : decode m_X11_without.2.1 13 = .ok (.aload_n 0, 1) := by decide +kernel
theorem d_X11_without_14 : decode m_X11_without.2.1 14 = .ok (.iload_n 2, 1) := by decide +kernel
theorem d_X11_without_15 : decode m_X11_without.2.1 15 = .ok (.iload_n 3, 1) := by decide +kernel
theorem d_X11_without_16 : decode m_X11_without.2.1 16 = .ok (.iload 4, 2) := by decide +kernel
theorem d_X11_without_18 : decode m_X11_without.2.1 18 = .ok (.iload_n 1, 1) := by decide +kernel
theorem d_X11_without_19 : decode m_X11_without.2.1 19 = .ok (.invokevirtual 372, 3) := by decide +kernel
theorem d_X11_without_22 : decode m_X11_without.2.1 22 = .ok (.goto 5, 3) := by decide +kernel
theorem d_X11_without_25 : decode m_X11_without.2.1 25 = .ok (.bipush (-3), 2) := by decide +kernel
theorem d_X11_without_27 : decode m_X11_without.2.1 27 = .ok (.ireturn, 1) := by decide +kernel
set_option maxRecDepth 20000 in
theorem e_X11_without {E : jm_E} {d : Nat} {μ : jm_M} {Q : Option jm_V → jm_M → Prop} {v1 v2 v3 v4 : Int} (h : (∀ v ∈ ([jm_R 133, jm_I v1, jm_I v2, jm_I v3, jm_I v4] : List jm_V), jm_ok v) →
  jc E m_X11_isWho d [jm_R 133, jm_I v1] (jm_up μ 133 0 0) (fun (o : Option jm_V) (m1 : jm_M) => ∀ r2 : Int, o = some (jm_I r2) → (r2 = 0 ∨ r2 = 1) →
  ((r2 = 0 →
    Q (some (jm_I ((-3)))) m1) ∧
   (¬ (r2 = 0) →
    jc E m_X11_roadOf d [jm_R 133, jm_I v2, jm_I v3, jm_I v4, jm_I v1] m1 (fun (o : Option jm_V) (m5 : jm_M) => ∀ r6 : Int, o = some (jm_I r6) →
    Q (some (jm_I r6)) m5))))) : jc E m_X11_without (d + 1) [jm_R 133, jm_I v1, jm_I v2, jm_I v3, jm_I v4] μ Q := by
  refine jm_Cl.of2 (by decide +kernel) (L0 := [some (jm_R 133), some (jm_I v1), some (jm_I v2), some (jm_I v3), some (jm_I v4)]) rfl (Nat.le_of_ble_eq_true rfl) (fun hok => ?_)
  have h := h hok
  refine jm_aloadn d_X11_without_0 rfl ?_
  refine jm_iconst (v := 0) d_X11_without_1 rfl (jm_okI (by decide) (by decide)) ?_
  refine jm_putI (k := 0) (ki := 0) cf_X11 (Nat.le_of_ble_eq_true rfl) f_X11_106 d_X11_without_2 (fun z => absurd z (by decide)) rfl rfl rfl (fun _ => rfl) is_133 ?_
  refine jm_aloadn d_X11_without_5 rfl ?_
  refine jm_iloadn d_X11_without_6 rfl ?_
  refine jm_invV (n1 := jm_N) (mc := 0) (ms := 0) (av := [jm_I _]) w_X11_isWho l_X11_242 d_X11_without_7 rfl is_133 ⟨_, _, rfl⟩ ⟨Nat.le_refl _, Nat.le_refl _⟩ (Nat.le_of_ble_eq_true rfl) rfl ?_
  refine jm_Cl.mono h (fun o m1 h hr _ => ?_)
  obtain ⟨r2, rfl, z3⟩ := jm_rokZ hr
  have h := h _ rfl z3
  refine jm_if_eq (tgt := 25) d_X11_without_10 (by decide) (fun c4 => ?_) (fun c4 => ?_)
  · have h := h.1 c4
    refine jm_bipush (v := (-3)) d_X11_without_25 rfl (jm_okI (by decide) (by decide)) ?_
    exact jm_ret (o := some (jm_I _)) d_X11_without_27 rfl ⟨Nat.le_refl _, Nat.le_refl _⟩ jm_r_I h rfl
  · have h := h.2 c4
    refine jm_aloadn d_X11_without_13 rfl ?_
    refine jm_iloadn d_X11_without_14 rfl ?_
    refine jm_iloadn d_X11_without_15 rfl ?_
    refine jm_iload d_X11_without_16 rfl ?_
    refine jm_iloadn d_X11_without_18 rfl ?_
    refine jm_invV (n1 := jm_N) (mc := 0) (ms := 0) (av := [jm_I _, jm_I _, jm_I _, jm_I _]) w_X11_roadOf l_X11_372 d_X11_without_19 rfl is_133 ⟨_, _, rfl⟩ ⟨Nat.le_refl _, Nat.le_refl _⟩ (Nat.le_of_ble_eq_true rfl) rfl ?_
    refine jm_Cl.mono h (fun o m5 h hr _ => ?_)
    obtain ⟨r6, rfl⟩ := jm_rokI hr
    have h := h _ rfl
    refine jm_goto (tgt := 27) d_X11_without_22 (by decide) ?_
    exact jm_ret (o := some (jm_I _)) d_X11_without_27 rfl ⟨Nat.le_refl _, Nat.le_refl _⟩ jm_r_I h rfl
/-! ('CombTableModel', 'play', '(IZIII)I') -/
theorem d_X11_play_0 : decode m_X11_play.2.1 0 = .ok (.aload_n 0, 1) := by decide +kernel
theorem d_X11_play_1 : decode m_X11_play.2.1 1 = .ok (.iload_n 3, 1) := by decide +kernel
theorem d_X11_play_2 : decode m_X11_play.2.1 2 = .ok (.iload 4, 2) := by decide +kernel
theorem d_X11_play_4 : decode m_X11_play.2.1 4 = .ok (.invokevirtual 360, 3) := by decide +kernel
theorem d_X11_play_7 : decode m_X11_play.2.1 7 = .ok (.ifCond .eq 5, 3) := by decide +kernel
theorem d_X11_play_10 : decode m_X11_play.2.1 10 = .ok (.iconst 0, 1) := by decide +kernel
theorem d_X11_play_11 : decode m_X11_play.2.1 11 = .ok (.ireturn, 1) := by decide +kernel
theorem d_X11_play_12 : decode m_X11_play.2.1 12 = .ok (.iload 5, 2) := by decide +kernel
theorem d_X11_play_14 : decode m_X11_play.2.1 14 = .ok (.ifCond .eq 15, 3) := by decide +kernel
theorem d_X11_play_17 : decode m_X11_play.2.1 17 = .ok (.aload_n 0, 1) := by decide +kernel
theorem d_X11_play_18 : decode m_X11_play.2.1 18 = .ok (.getfield 60, 3) := by decide +kernel
theorem d_X11_play_21 : decode m_X11_play.2.1 21 = .ok (.iconst 0, 1) := by decide +kernel
theorem d_X11_play_22 : decode m_X11_play.2.1 22 = .ok (.iaload, 1) := by decide +kernel
theorem d_X11_play_23 : decode m_X11_play.2.1 23 = .ok (.sipush 400, 3) := by decide +kernel
theorem d_X11_play_26 : decode m_X11_play.2.1 26 = .ok (.if_icmp .ne 6, 3) := by decide +kernel
theorem d_X11_play_29 : decode m_X11_play.2.1 29 = .ok (.bipush 99, 2) := by decide +kernel
theorem d_X11_play_31 : decode m_X11_play.2.1 31 = .ok (.ireturn, 1) := by decide +kernel
theorem d_X11_play_32 : decode m_X11_play.2.1 32 = .ok (.iconst (-1), 1) := by decide +kernel
theorem d_X11_play_33 : decode m_X11_play.2.1 33 = .ok (.istore 6, 2) := by decide +kernel
theorem d_X11_play_35 : decode m_X11_play.2.1 35 = .ok (.iconst 0, 1) := by decide +kernel
theorem d_X11_play_36 : decode m_X11_play.2.1 36 = .ok (.istore 7, 2) := by decide +kernel
theorem d_X11_play_38 : decode m_X11_play.2.1 38 = .ok (.iload 7, 2) := by decide +kernel
theorem d_X11_play_40 : decode m_X11_play.2.1 40 = .ok (.aload_n 0, 1) := by decide +kernel
theorem d_X11_play_41 : decode m_X11_play.2.1 41 = .ok (.getfield 13, 3) := by decide +kernel
theorem d_X11_play_44 : decode m_X11_play.2.1 44 = .ok (.iconst 0, 1) := by decide +kernel
theorem d_X11_play_45 : decode m_X11_play.2.1 45 = .ok (.iaload, 1) := by decide +kernel
theorem d_X11_play_46 : decode m_X11_play.2.1 46 = .ok (.if_icmp .ge 135, 3) := by decide +kernel
theorem d_X11_play_49 : decode m_X11_play.2.1 49 = .ok (.iload_n 1, 1) := by decide +kernel
theorem d_X11_play_50 : decode m_X11_play.2.1 50 = .ok (.iload 7, 2) := by decide +kernel
theorem d_X11_play_52 : decode m_X11_play.2.1 52 = .ok (.invokestatic 215, 3) := by decide +kernel
theorem d_X11_play_55 : decode m_X11_play.2.1 55 = .ok (.iload_n 2, 1) := by decide +kernel
theorem d_X11_play_56 : decode m_X11_play.2.1 56 = .ok (.if_icmp .eq 6, 3) := by decide +kernel
theorem d_X11_play_59 : decode m_X11_play.2.1 59 = .ok (.goto 116, 3) := by decide +kernel
theorem d_X11_play_62 : decode m_X11_play.2.1 62 = .ok (.iconst 0, 1) := by decide +kernel
theorem d_X11_play_63 : decode m_X11_play.2.1 63 = .ok (.istore 8, 2) := by decide +kernel
theorem d_X11_play_65 : decode m_X11_play.2.1 65 = .ok (.iload 8, 2) := by decide +kernel
theorem d_X11_play_67 : decode m_X11_play.2.1 67 = .ok (.aload_n 0, 1) := by decide +kernel
theorem d_X11_play_68 : decode m_X11_play.2.1 68 = .ok (.getfield 13, 3) := by decide +kernel
theorem d_X11_play_71 : decode m_X11_play.2.1 71 = .ok (.iconst 1, 1) := by decide +kernel
theorem d_X11_play_72 : decode m_X11_play.2.1 72 = .ok (.iaload, 1) := by decide +kernel
theorem d_X11_play_73 : decode m_X11_play.2.1 73 = .ok (.if_icmp .ge 102, 3) := by decide +kernel
theorem d_X11_play_76 : decode m_X11_play.2.1 76 = .ok (.aload_n 0, 1) := by decide +kernel
theorem d_X11_play_77 : decode m_X11_play.2.1 77 = .ok (.iconst 0, 1) := by decide +kernel
theorem d_X11_play_78 : decode m_X11_play.2.1 78 = .ok (.iload 7, 2) := by decide +kernel
theorem d_X11_play_80 : decode m_X11_play.2.1 80 = .ok (.iload 8, 2) := by decide +kernel
theorem d_X11_play_82 : decode m_X11_play.2.1 82 = .ok (.invokevirtual 273, 3) := by decide +kernel
theorem d_X11_play_85 : decode m_X11_play.2.1 85 = .ok (.ifCond .eq 6, 3) := by decide +kernel
theorem d_X11_play_88 : decode m_X11_play.2.1 88 = .ok (.goto 81, 3) := by decide +kernel
theorem d_X11_play_91 : decode m_X11_play.2.1 91 = .ok (.aload_n 0, 1) := by decide +kernel
theorem d_X11_play_92 : decode m_X11_play.2.1 92 = .ok (.iconst 0, 1) := by decide +kernel
theorem d_X11_play_93 : decode m_X11_play.2.1 93 = .ok (.iload 7, 2) := by decide +kernel
theorem d_X11_play_95 : decode m_X11_play.2.1 95 = .ok (.iload 8, 2) := by decide +kernel
theorem d_X11_play_97 : decode m_X11_play.2.1 97 = .ok (.invokevirtual 266, 3) := by decide +kernel
theorem d_X11_play_100 : decode m_X11_play.2.1 100 = .ok (.aload_n 0, 1) := by decide +kernel
theorem d_X11_play_101 : decode m_X11_play.2.1 101 = .ok (.iload_n 1, 1) := by decide +kernel
theorem d_X11_play_102 : decode m_X11_play.2.1 102 = .ok (.iload_n 2, 1) := by decide +kernel
theorem d_X11_play_103 : decode m_X11_play.2.1 103 = .ok (.ifCond .ne 7, 3) := by decide +kernel
theorem d_X11_play_106 : decode m_X11_play.2.1 106 = .ok (.iconst 1, 1) := by decide +kernel
theorem d_X11_play_107 : decode m_X11_play.2.1 107 = .ok (.goto 4, 3) := by decide +kernel
theorem d_X11_play_110 : decode m_X11_play.2.1 110 = .ok (.iconst 0, 1) := by decide +kernel
theorem d_X11_play_111 : decode m_X11_play.2.1 111 = .ok (.iload_n 3, 1) := by decide +kernel
theorem d_X11_play_112 : decode m_X11_play.2.1 112 = .ok (.iload 4, 2) := by decide +kernel
theorem d_X11_play_114 : decode m_X11_play.2.1 114 = .ok (.iload 5, 2) := by decide +kernel
theorem d_X11_play_116 : decode m_X11_play.2.1 116 = .ok (.iconst 1, 1) := by decide +kernel
theorem d_X11_play_117 : decode m_X11_play.2.1 117 = .ok (.isub, 1) := by decide +kernel
theorem d_X11_play_118 : decode m_X11_play.2.1 118 = .ok (.invokevirtual 379, 3) := by decide +kernel
theorem d_X11_play_121 : decode m_X11_play.2.1 121 = .ok (.istore 9, 2) := by decide +kernel
theorem d_X11_play_123 : decode m_X11_play.2.1 123 = .ok (.aload_n 0, 1) := by decide +kernel
theorem d_X11_play_124 : decode m_X11_play.2.1 124 = .ok (.iconst 0, 1) := by decide +kernel
theorem d_X11_play_125 : decode m_X11_play.2.1 125 = .ok (.invokevirtual 326, 3) := by decide +kernel
theorem d_X11_play_128 : decode m_X11_play.2.1 128 = .ok (.iload 9, 2) := by decide +kernel
theorem d_X11_play_130 : decode m_X11_play.2.1 130 = .ok (.bipush 99, 2) := by decide +kernel
theorem d_X11_play_132 : decode m_X11_play.2.1 132 = .ok (.if_icmp .ge 6, 3) := by decide +kernel
theorem d_X11_play_135 : decode m_X11_play.2.1 135 = .ok (.iinc 9 1, 3) := by decide +kernel
theorem d_X11_play_138 : decode m_X11_play.2.1 138 = .ok (.iload 6, 2) := by decide +kernel
theorem d_X11_play_140 : decode m_X11_play.2.1 140 = .ok (.iconst (-1), 1) := by decide +kernel
theorem d_X11_play_141 : decode m_X11_play.2.1 141 = .ok (.if_icmp .eq 24, 3) := by decide +kernel
theorem d_X11_play_144 : decode m_X11_play.2.1 144 = .ok (.iload_n 2, 1) := by decide +kernel
theorem d_X11_play_145 : decode m_X11_play.2.1 145 = .ok (.ifCond .eq 13, 3) := by decide +kernel
theorem d_X11_play_148 : decode m_X11_play.2.1 148 = .ok (.iload 9, 2) := by decide +kernel
theorem d_X11_play_150 : decode m_X11_play.2.1 150 = .ok (.iload 6, 2) := by decide +kernel
theorem d_X11_play_152 : decode m_X11_play.2.1 152 = .ok (.if_icmp .ge 17, 3) := by decide +kernel
theorem d_X11_play_155 : decode m_X11_play.2.1 155 = .ok (.goto 10, 3) := by decide +kernel
theorem d_X11_play_158 : decode m_X11_play.2.1 158 = .ok (.iload 9, 2) := by decide +kernel
theorem d_X11_play_160 : decode m_X11_play.2.1 160 = .ok (.iload 6, 2) := by decide +kernel
theorem d_X11_play_162 : decode m_X11_play.2.1 162 = .ok (.if_icmp .le 7, 3) := by decide +kernel
theorem d_X11_play_165 : decode m_X11_play.2.1 165 = .ok (.iload 9, 2) := by decide +kernel
theorem d_X11_play_167 : decode m_X11_play.2.1 167 = .ok (.istore 6, 2) := by decide +kernel
theorem d_X11_play_169 : decode m_X11_play.2.1 169 = .ok (.iinc 8 1, 3) := by decide +kernel
theorem d_X11_play_172 : decode m_X11_play.2.1 172 = .ok (.goto (-107), 3) := by decide +kernel
theorem d_X11_play_175 : decode m_X11_play.2.1 175 = .ok (.iinc 7 1, 3) := by decide +kernel
theorem d_X11_play_178 : decode m_X11_play.2.1 178 = .ok (.goto (-140), 3) := by decide +kernel
theorem d_X11_play_181 : decode m_X11_play.2.1 181 = .ok (.iload 6, 2) := by decide +kernel
theorem d_X11_play_183 : decode m_X11_play.2.1 183 = .ok (.iconst (-1), 1) := by decide +kernel
theorem d_X11_play_184 : decode m_X11_play.2.1 184 = .ok (.if_icmp .ne 8, 3) := by decide +kernel
theorem d_X11_play_187 : decode m_X11_play.2.1 187 = .ok (.bipush 99, 2) := by decide +kernel
theorem d_X11_play_189 : decode m_X11_play.2.1 189 = .ok (.goto 5, 3) := by decide +kernel
theorem d_X11_play_192 : decode m_X11_play.2.1 192 = .ok (.iload 6, 2) := by decide +kernel
theorem d_X11_play_194 : decode m_X11_play.2.1 194 = .ok (.ireturn, 1) := by decide +kernel
set_option maxRecDepth 20000 in
theorem e_X11_play {E : jm_E} {d : Nat} {μ : jm_M} {Q : Option jm_V → jm_M → Prop} {v1 v2 v3 v4 v5 : Int} (h : (∀ v ∈ ([jm_R 133, jm_I v1, jm_I v2, jm_I v3, jm_I v4, jm_I v5] : List jm_V), jm_ok v) →
  jc E m_X11_isSo d [jm_R 133, jm_I v3, jm_I v4] μ (fun (o : Option jm_V) (m1 : jm_M) => ∀ r2 : Int, o = some (jm_I r2) → (r2 = 0 ∨ r2 = 1) →
  ((r2 = 0 →
    ((v5 = 0 →
      Q (some (jm_I 99)) m1) ∧
     (¬ (v5 = 0) →
      ((m1 150 0 ≠ 400 →
        jg E m_X11_play d 38 [some (jm_R 133), some (jm_I v1), some (jm_I v2), some (jm_I v3), some (jm_I v4), some (jm_I v5), some (jm_I ((-1))), some (jm_I 0), none, none] [] m1 Q) ∧
       (¬ (m1 150 0 ≠ 400) →
        Q (some (jm_I 99)) m1))))) ∧
   (¬ (r2 = 0) →
    Q (some (jm_I 0)) m1)))) : jc E m_X11_play (d + 1) [jm_R 133, jm_I v1, jm_I v2, jm_I v3, jm_I v4, jm_I v5] μ Q := by
  refine jm_Cl.of2 (by decide +kernel) (L0 := [some (jm_R 133), some (jm_I v1), some (jm_I v2), some (jm_I v3), some (jm_I v4), some (jm_I v5), none, none, none, none]) rfl (Nat.le_of_ble_eq_true rfl) (fun hok => ?_)
  have h := h hok
  refine jm_aloadn d_X11_play_0 rfl ?_
  refine jm_iloadn d_X11_play_1 rfl ?_
  refine jm_iload d_X11_play_2 rfl ?_
  refine jm_invV (n1 := jm_N) (mc := 0) (ms := 0) (av := [jm_I _, jm_I _]) w_X11_isSo l_X11_360 d_X11_play_4 rfl is_133 ⟨_, _, rfl⟩ ⟨Nat.le_refl _, Nat.le_refl _⟩ (Nat.le_of_ble_eq_true rfl) rfl ?_
  refine jm_Cl.mono h (fun o m1 h hr _ => ?_)
  obtain ⟨r2, rfl, z3⟩ := jm_rokZ hr
  have h := h _ rfl z3
  refine jm_if_eq (tgt := 12) d_X11_play_7 (by decide) (fun c4 => ?_) (fun c4 => ?_)
  · have h := h.1 c4
    refine jm_iload d_X11_play_12 rfl ?_
    refine jm_if_eq (tgt := 29) d_X11_play_14 (by decide) (fun c5 => ?_) (fun c5 => ?_)
    · have h := h.1 c5
      refine jm_bipush (v := 99) d_X11_play_29 rfl (jm_okI (by decide) (by decide)) ?_
      exact jm_ret (o := some (jm_I _)) d_X11_play_31 rfl ⟨Nat.le_refl _, Nat.le_refl _⟩ jm_r_I h rfl
    · have h := h.2 c5
      refine jm_aloadn d_X11_play_17 rfl ?_
      refine jm_getF (k := 29) (ki := 29) rfl cf_X11 (Nat.le_of_ble_eq_true rfl) f_X11_60 d_X11_play_18 rfl rfl is_133 fr_133_29 ?_
      refine jm_iconst (v := 0) d_X11_play_21 rfl (jm_okI (by decide) (by decide)) ?_
      refine jm_iaload d_X11_play_22 (ixl_150 (by decide) (by decide)) ?_
      refine jm_sipush (v := 400) d_X11_play_23 rfl (jm_okI (by decide) (by decide)) ?_
      refine jm_icmp_ne (tgt := 32) d_X11_play_26 (by decide) (fun c6 => ?_) (fun c6 => ?_)
      · have h := h.1 c6
        refine jm_iconst (v := (-1)) d_X11_play_32 rfl (jm_okI (by decide) (by decide)) ?_
        refine jm_istore (L' := [some (jm_R _), some (jm_I _), some (jm_I _), some (jm_I _), some (jm_I _), some (jm_I _), some (jm_I _), none, none, none]) d_X11_play_33 (Nat.le_of_ble_eq_true rfl) rfl ?_
        refine jm_iconst (v := 0) d_X11_play_35 rfl (jm_okI (by decide) (by decide)) ?_
        refine jm_istore (L' := [some (jm_R _), some (jm_I _), some (jm_I _), some (jm_I _), some (jm_I _), some (jm_I _), some (jm_I _), some (jm_I _), none, none]) d_X11_play_36 (Nat.le_of_ble_eq_true rfl) rfl ?_
        exact h
      · have h := h.2 c6
        refine jm_bipush (v := 99) d_X11_play_29 rfl (jm_okI (by decide) (by decide)) ?_
        exact jm_ret (o := some (jm_I _)) d_X11_play_31 rfl ⟨Nat.le_refl _, Nat.le_refl _⟩ jm_r_I h rfl
  · have h := h.2 c4
    refine jm_iconst (v := 0) d_X11_play_10 rfl (jm_okI (by decide) (by decide)) ?_
    exact jm_ret (o := some (jm_I _)) d_X11_play_11 rfl ⟨Nat.le_refl _, Nat.le_refl _⟩ jm_r_I h rfl
set_option maxRecDepth 20000 in
theorem r_X11_play_38 {E : jm_E} {d : Nat} {μ : jm_M} {Q : Option jm_V → jm_M → Prop} {v1 v2 v3 v4 v5 v6 v7 : Int} (h :
  ((μ 135 0 ≤ v7 →
    ((v6 ≠ ((-1)) →
      Q (some (jm_I v6)) μ) ∧
     (¬ (v6 ≠ ((-1))) →
      Q (some (jm_I 99)) μ))) ∧
   (¬ (μ 135 0 ≤ v7) →
    jc E m_X11_has d [jm_I v1, jm_I v7] μ (fun (o : Option jm_V) (m3 : jm_M) => ∀ r4 : Int, o = some (jm_I r4) → (r4 = 0 ∨ r4 = 1) →
    ((r4 = v2 →
      jg E m_X11_play d 65 [some (jm_R 133), some (jm_I v1), some (jm_I v2), some (jm_I v3), some (jm_I v4), some (jm_I v5), some (jm_I v6), some (jm_I v7), some (jm_I 0), none] [] m3 Q) ∧
     (¬ (r4 = v2) →
      jg E m_X11_play d 38 [some (jm_R 133), some (jm_I v1), some (jm_I v2), some (jm_I v3), some (jm_I v4), some (jm_I v5), some (jm_I v6), some (jm_I (jm_wr (v7 + 1))), none, none] [] m3 Q)))))) : jg E m_X11_play d 38 [some (jm_R 133), some (jm_I v1), some (jm_I v2), some (jm_I v3), some (jm_I v4), some (jm_I v5), some (jm_I v6), some (jm_I v7), none, none] [] μ Q := by
  refine jm_iload d_X11_play_38 rfl ?_
  refine jm_aloadn d_X11_play_40 rfl ?_
  refine jm_getF (k := 14) (ki := 14) rfl cf_X11 (Nat.le_of_ble_eq_true rfl) f_X11_13 d_X11_play_41 rfl rfl is_133 fr_133_14 ?_
  refine jm_iconst (v := 0) d_X11_play_44 rfl (jm_okI (by decide) (by decide)) ?_
  refine jm_iaload d_X11_play_45 (ixl_135 (by decide) (by decide)) ?_
  refine jm_icmp_ge (tgt := 181) d_X11_play_46 (by decide) (fun c1 => ?_) (fun c1 => ?_)
  · have h := h.1 c1
    refine jm_iload d_X11_play_181 rfl ?_
    refine jm_iconst (v := (-1)) d_X11_play_183 rfl (jm_okI (by decide) (by decide)) ?_
    refine jm_icmp_ne (tgt := 192) d_X11_play_184 (by decide) (fun c2 => ?_) (fun c2 => ?_)
    · have h := h.1 c2
      refine jm_iload d_X11_play_192 rfl ?_
      exact jm_ret (o := some (jm_I _)) d_X11_play_194 rfl ⟨Nat.le_refl _, Nat.le_refl _⟩ jm_r_I h rfl
    · have h := h.2 c2
      refine jm_bipush (v := 99) d_X11_play_187 rfl (jm_okI (by decide) (by decide)) ?_
      refine jm_goto (tgt := 194) d_X11_play_189 (by decide) ?_
      exact jm_ret (o := some (jm_I _)) d_X11_play_194 rfl ⟨Nat.le_refl _, Nat.le_refl _⟩ jm_r_I h rfl
  · have h := h.2 c1
    refine jm_iloadn d_X11_play_49 rfl ?_
    refine jm_iload d_X11_play_50 rfl ?_
    refine jm_invS (n1 := jm_N) (mc := 0) (ms := 0) (av := [jm_I _, jm_I _]) w_X11_has l_X11_215 d_X11_play_52 rfl ⟨Nat.le_refl _, Nat.le_refl _⟩ (Nat.le_of_ble_eq_true rfl) rfl ?_
    refine jm_Cl.mono h (fun o m3 h hr _ => ?_)
    obtain ⟨r4, rfl, z5⟩ := jm_rokZ hr
    have h := h _ rfl z5
    refine jm_iloadn d_X11_play_55 rfl ?_
    refine jm_icmp_eq (tgt := 62) d_X11_play_56 (by decide) (fun c6 => ?_) (fun c6 => ?_)
    · have h := h.1 c6
      refine jm_iconst (v := 0) d_X11_play_62 rfl (jm_okI (by decide) (by decide)) ?_
      refine jm_istore (L' := [some (jm_R _), some (jm_I _), some (jm_I _), some (jm_I _), some (jm_I _), some (jm_I _), some (jm_I _), some (jm_I _), some (jm_I _), none]) d_X11_play_63 (Nat.le_of_ble_eq_true rfl) rfl ?_
      exact h
    · have h := h.2 c6
      refine jm_goto (tgt := 175) d_X11_play_59 (by decide) ?_
      refine jm_iinc (L' := [some (jm_R _), some (jm_I _), some (jm_I _), some (jm_I _), some (jm_I _), some (jm_I _), some (jm_I _), some (jm_I _), none, none]) d_X11_play_175 rfl rfl (Nat.le_of_ble_eq_true rfl) rfl ?_
      refine jm_goto (tgt := 38) d_X11_play_178 (by decide) ?_
      exact h
set_option maxRecDepth 20000 in
theorem r_X11_play_65 {E : jm_E} {d : Nat} {μ : jm_M} {Q : Option jm_V → jm_M → Prop} {v1 v2 v3 v4 v5 v6 v7 v8 : Int} (h :
  ((μ 135 1 ≤ v8 →
    jg E m_X11_play d 38 [some (jm_R 133), some (jm_I v1), some (jm_I v2), some (jm_I v3), some (jm_I v4), some (jm_I v5), some (jm_I v6), some (jm_I (jm_wr (v7 + 1))), none, none] [] μ Q) ∧
   (¬ (μ 135 1 ≤ v8) →
    jc E m_X11_wrongOf d [jm_R 133, jm_I 0, jm_I v7, jm_I v8] μ (fun (o : Option jm_V) (m2 : jm_M) => ∀ r3 : Int, o = some (jm_I r3) →
    ((r3 = 0 →
      jc E m_X11_push d [jm_R 133, jm_I 0, jm_I v7, jm_I v8] m2 (fun (o : Option jm_V) (m5 : jm_M) => o = none →
      ((v2 ≠ 0 →
        jc E m_X11_play d [jm_R 133, jm_I v1, jm_I 0, jm_I v3, jm_I v4, jm_I (jm_wr (v5 - 1))] m5 (fun (o : Option jm_V) (m7 : jm_M) => ∀ r8 : Int, o = some (jm_I r8) →
        jc E m_X11_pop d [jm_R 133, jm_I 0] m7 (fun (o : Option jm_V) (m9 : jm_M) => o = none →
        ((99 ≤ r8 →
          jg E m_X11_play d 138 [some (jm_R 133), some (jm_I v1), some (jm_I v2), some (jm_I v3), some (jm_I v4), some (jm_I v5), some (jm_I v6), some (jm_I v7), some (jm_I v8), some (jm_I r8)] [] m9 Q) ∧
         (¬ (99 ≤ r8) →
          jg E m_X11_play d 138 [some (jm_R 133), some (jm_I v1), some (jm_I v2), some (jm_I v3), some (jm_I v4), some (jm_I v5), some (jm_I v6), some (jm_I v7), some (jm_I v8), some (jm_I (jm_wr (r8 + 1)))] [] m9 Q))))) ∧
       (¬ (v2 ≠ 0) →
        jc E m_X11_play d [jm_R 133, jm_I v1, jm_I 1, jm_I v3, jm_I v4, jm_I (jm_wr (v5 - 1))] m5 (fun (o : Option jm_V) (m11 : jm_M) => ∀ r12 : Int, o = some (jm_I r12) →
        jc E m_X11_pop d [jm_R 133, jm_I 0] m11 (fun (o : Option jm_V) (m13 : jm_M) => o = none →
        ((99 ≤ r12 →
          jg E m_X11_play d 138 [some (jm_R 133), some (jm_I v1), some (jm_I v2), some (jm_I v3), some (jm_I v4), some (jm_I v5), some (jm_I v6), some (jm_I v7), some (jm_I v8), some (jm_I r12)] [] m13 Q) ∧
         (¬ (99 ≤ r12) →
          jg E m_X11_play d 138 [some (jm_R 133), some (jm_I v1), some (jm_I v2), some (jm_I v3), some (jm_I v4), some (jm_I v5), some (jm_I v6), some (jm_I v7), some (jm_I v8), some (jm_I (jm_wr (r12 + 1)))] [] m13 Q)))))))) ∧
     (¬ (r3 = 0) →
      jg E m_X11_play d 65 [some (jm_R 133), some (jm_I v1), some (jm_I v2), some (jm_I v3), some (jm_I v4), some (jm_I v5), some (jm_I v6), some (jm_I v7), some (jm_I (jm_wr (v8 + 1))), none] [] m2 Q)))))) : jg E m_X11_play d 65 [some (jm_R 133), some (jm_I v1), some (jm_I v2), some (jm_I v3), some (jm_I v4), some (jm_I v5), some (jm_I v6), some (jm_I v7), some (jm_I v8), none] [] μ Q := by
  refine jm_iload d_X11_play_65 rfl ?_
  refine jm_aloadn d_X11_play_67 rfl ?_
  refine jm_getF (k := 14) (ki := 14) rfl cf_X11 (Nat.le_of_ble_eq_true rfl) f_X11_13 d_X11_play_68 rfl rfl is_133 fr_133_14 ?_
  refine jm_iconst (v := 1) d_X11_play_71 rfl (jm_okI (by decide) (by decide)) ?_
  refine jm_iaload d_X11_play_72 (ixl_135 (by decide) (by decide)) ?_
  refine jm_icmp_ge (tgt := 175) d_X11_play_73 (by decide) (fun c1 => ?_) (fun c1 => ?_)
  · have h := h.1 c1
    refine jm_iinc (L' := [some (jm_R _), some (jm_I _), some (jm_I _), some (jm_I _), some (jm_I _), some (jm_I _), some (jm_I _), some (jm_I _), some (jm_I _), none]) d_X11_play_175 rfl rfl (Nat.le_of_ble_eq_true rfl) rfl ?_
    refine jm_goto (tgt := 38) d_X11_play_178 (by decide) ?_
    exact jm_weak2 h (And.intro rfl (And.intro rfl (And.intro rfl (And.intro rfl (And.intro rfl (And.intro rfl (And.intro rfl (And.intro rfl trivial))))))))
  · have h := h.2 c1
    refine jm_aloadn d_X11_play_76 rfl ?_
    refine jm_iconst (v := 0) d_X11_play_77 rfl (jm_okI (by decide) (by decide)) ?_
    refine jm_iload d_X11_play_78 rfl ?_
    refine jm_iload d_X11_play_80 rfl ?_
    refine jm_invV (n1 := jm_N) (mc := 0) (ms := 0) (av := [jm_I _, jm_I _, jm_I _]) w_X11_wrongOf l_X11_273 d_X11_play_82 rfl is_133 ⟨_, _, rfl⟩ ⟨Nat.le_refl _, Nat.le_refl _⟩ (Nat.le_of_ble_eq_true rfl) rfl ?_
    refine jm_Cl.mono h (fun o m2 h hr _ => ?_)
    obtain ⟨r3, rfl⟩ := jm_rokI hr
    have h := h _ rfl
    refine jm_if_eq (tgt := 91) d_X11_play_85 (by decide) (fun c4 => ?_) (fun c4 => ?_)
    · have h := h.1 c4
      refine jm_aloadn d_X11_play_91 rfl ?_
      refine jm_iconst (v := 0) d_X11_play_92 rfl (jm_okI (by decide) (by decide)) ?_
      refine jm_iload d_X11_play_93 rfl ?_
      refine jm_iload d_X11_play_95 rfl ?_
      refine jm_invV (n1 := jm_N) (mc := 0) (ms := 0) (av := [jm_I _, jm_I _, jm_I _]) w_X11_push l_X11_266 d_X11_play_97 rfl is_133 ⟨_, _, rfl⟩ ⟨Nat.le_refl _, Nat.le_refl _⟩ (Nat.le_of_ble_eq_true rfl) rfl ?_
      refine jm_Cl.mono h (fun o m5 h hr _ => ?_)
      obtain rfl := jm_rokV hr
      have h := h rfl
      refine jm_aloadn d_X11_play_100 rfl ?_
      refine jm_iloadn d_X11_play_101 rfl ?_
      refine jm_iloadn d_X11_play_102 rfl ?_
      refine jm_if_ne (tgt := 110) d_X11_play_103 (by decide) (fun c6 => ?_) (fun c6 => ?_)
      · have h := h.1 c6
        refine jm_iconst (v := 0) d_X11_play_110 rfl (jm_okI (by decide) (by decide)) ?_
        refine jm_iloadn d_X11_play_111 rfl ?_
        refine jm_iload d_X11_play_112 rfl ?_
        refine jm_iload d_X11_play_114 rfl ?_
        refine jm_iconst (v := 1) d_X11_play_116 rfl (jm_okI (by decide) (by decide)) ?_
        refine jm_isub d_X11_play_117 ?_
        refine jm_invV (n1 := jm_N) (mc := 0) (ms := 0) (av := [jm_I _, jm_I _, jm_I _, jm_I _, jm_I _]) w_X11_play l_X11_379 d_X11_play_118 rfl is_133 ⟨_, _, rfl⟩ ⟨Nat.le_refl _, Nat.le_refl _⟩ (Nat.le_of_ble_eq_true rfl) rfl ?_
        refine jm_Cl.mono h (fun o m7 h hr _ => ?_)
        obtain ⟨r8, rfl⟩ := jm_rokI hr
        have h := h _ rfl
        refine jm_istore (L' := [some (jm_R _), some (jm_I _), some (jm_I _), some (jm_I _), some (jm_I _), some (jm_I _), some (jm_I _), some (jm_I _), some (jm_I _), some (jm_I _)]) d_X11_play_121 (Nat.le_of_ble_eq_true rfl) rfl ?_
        refine jm_aloadn d_X11_play_123 rfl ?_
        refine jm_iconst (v := 0) d_X11_play_124 rfl (jm_okI (by decide) (by decide)) ?_
        refine jm_invV (n1 := jm_N) (mc := 0) (ms := 0) (av := [jm_I _]) w_X11_pop l_X11_326 d_X11_play_125 rfl is_133 ⟨_, _, rfl⟩ ⟨Nat.le_refl _, Nat.le_refl _⟩ (Nat.le_of_ble_eq_true rfl) rfl ?_
        refine jm_Cl.mono h (fun o m9 h hr _ => ?_)
        obtain rfl := jm_rokV hr
        have h := h rfl
        refine jm_iload d_X11_play_128 rfl ?_
        refine jm_bipush (v := 99) d_X11_play_130 rfl (jm_okI (by decide) (by decide)) ?_
        refine jm_icmp_ge (tgt := 138) d_X11_play_132 (by decide) (fun c10 => ?_) (fun c10 => ?_)
        · have h := h.1 c10
          exact h
        · have h := h.2 c10
          refine jm_iinc (L' := [some (jm_R _), some (jm_I _), some (jm_I _), some (jm_I _), some (jm_I _), some (jm_I _), some (jm_I _), some (jm_I _), some (jm_I _), some (jm_I _)]) d_X11_play_135 rfl rfl (Nat.le_of_ble_eq_true rfl) rfl ?_
          exact h
      · have h := h.2 c6
        refine jm_iconst (v := 1) d_X11_play_106 rfl (jm_okI (by decide) (by decide)) ?_
        refine jm_goto (tgt := 111) d_X11_play_107 (by decide) ?_
        refine jm_iloadn d_X11_play_111 rfl ?_
        refine jm_iload d_X11_play_112 rfl ?_
        refine jm_iload d_X11_play_114 rfl ?_
        refine jm_iconst (v := 1) d_X11_play_116 rfl (jm_okI (by decide) (by decide)) ?_
        refine jm_isub d_X11_play_117 ?_
        refine jm_invV (n1 := jm_N) (mc := 0) (ms := 0) (av := [jm_I _, jm_I _, jm_I _, jm_I _, jm_I _]) w_X11_play l_X11_379 d_X11_play_118 rfl is_133 ⟨_, _, rfl⟩ ⟨Nat.le_refl _, Nat.le_refl _⟩ (Nat.le_of_ble_eq_true rfl) rfl ?_
        refine jm_Cl.mono h (fun o m11 h hr _ => ?_)
        obtain ⟨r12, rfl⟩ := jm_rokI hr
        have h := h _ rfl
        refine jm_istore (L' := [some (jm_R _), some (jm_I _), some (jm_I _), some (jm_I _), some (jm_I _), some (jm_I _), some (jm_I _), some (jm_I _), some (jm_I _), some (jm_I _)]) d_X11_play_121 (Nat.le_of_ble_eq_true rfl) rfl ?_
        refine jm_aloadn d_X11_play_123 rfl ?_
        refine jm_iconst (v := 0) d_X11_play_124 rfl (jm_okI (by decide) (by decide)) ?_
        refine jm_invV (n1 := jm_N) (mc := 0) (ms := 0) (av := [jm_I _]) w_X11_pop l_X11_326 d_X11_play_125 rfl is_133 ⟨_, _, rfl⟩ ⟨Nat.le_refl _, Nat.le_refl _⟩ (Nat.le_of_ble_eq_true rfl) rfl ?_
        refine jm_Cl.mono h (fun o m13 h hr _ => ?_)
        obtain rfl := jm_rokV hr
        have h := h rfl
        refine jm_iload d_X11_play_128 rfl ?_
        refine jm_bipush (v := 99) d_X11_play_130 rfl (jm_okI (by decide) (by decide)) ?_
        refine jm_icmp_ge (tgt := 138) d_X11_play_132 (by decide) (fun c14 => ?_) (fun c14 => ?_)
        · have h := h.1 c14
          exact h
        · have h := h.2 c14
          refine jm_iinc (L' := [some (jm_R _), some (jm_I _), some (jm_I _), some (jm_I _), some (jm_I _), some (jm_I _), some (jm_I _), some (jm_I _), some (jm_I _), some (jm_I _)]) d_X11_play_135 rfl rfl (Nat.le_of_ble_eq_true rfl) rfl ?_
          exact h
    · have h := h.2 c4
      refine jm_goto (tgt := 169) d_X11_play_88 (by decide) ?_
      refine jm_iinc (L' := [some (jm_R _), some (jm_I _), some (jm_I _), some (jm_I _), some (jm_I _), some (jm_I _), some (jm_I _), some (jm_I _), some (jm_I _), none]) d_X11_play_169 rfl rfl (Nat.le_of_ble_eq_true rfl) rfl ?_
      refine jm_goto (tgt := 65) d_X11_play_172 (by decide) ?_
      exact h
set_option maxRecDepth 20000 in
theorem r_X11_play_138 {E : jm_E} {d : Nat} {μ : jm_M} {Q : Option jm_V → jm_M → Prop} {v1 v2 v3 v4 v5 v6 v7 v8 v9 : Int} (h :
  ((v6 = ((-1)) →
    jg E m_X11_play d 65 [some (jm_R 133), some (jm_I v1), some (jm_I v2), some (jm_I v3), some (jm_I v4), some (jm_I v5), some (jm_I v9), some (jm_I v7), some (jm_I (jm_wr (v8 + 1))), none] [] μ Q) ∧
   (¬ (v6 = ((-1))) →
    ((v2 = 0 →
      ((v9 ≤ v6 →
        jg E m_X11_play d 65 [some (jm_R 133), some (jm_I v1), some (jm_I v2), some (jm_I v3), some (jm_I v4), some (jm_I v5), some (jm_I v6), some (jm_I v7), some (jm_I (jm_wr (v8 + 1))), none] [] μ Q) ∧
       (¬ (v9 ≤ v6) →
        jg E m_X11_play d 65 [some (jm_R 133), some (jm_I v1), some (jm_I v2), some (jm_I v3), some (jm_I v4), some (jm_I v5), some (jm_I v9), some (jm_I v7), some (jm_I (jm_wr (v8 + 1))), none] [] μ Q))) ∧
     (¬ (v2 = 0) →
      ((v6 ≤ v9 →
        jg E m_X11_play d 65 [some (jm_R 133), some (jm_I v1), some (jm_I v2), some (jm_I v3), some (jm_I v4), some (jm_I v5), some (jm_I v6), some (jm_I v7), some (jm_I (jm_wr (v8 + 1))), none] [] μ Q) ∧
       (¬ (v6 ≤ v9) →
        jg E m_X11_play d 65 [some (jm_R 133), some (jm_I v1), some (jm_I v2), some (jm_I v3), some (jm_I v4), some (jm_I v5), some (jm_I v9), some (jm_I v7), some (jm_I (jm_wr (v8 + 1))), none] [] μ Q))))))) : jg E m_X11_play d 138 [some (jm_R 133), some (jm_I v1), some (jm_I v2), some (jm_I v3), some (jm_I v4), some (jm_I v5), some (jm_I v6), some (jm_I v7), some (jm_I v8), some (jm_I v9)] [] μ Q := by
  refine jm_iload d_X11_play_138 rfl ?_
  refine jm_iconst (v := (-1)) d_X11_play_140 rfl (jm_okI (by decide) (by decide)) ?_
  refine jm_icmp_eq (tgt := 165) d_X11_play_141 (by decide) (fun c1 => ?_) (fun c1 => ?_)
  · have h := h.1 c1
    refine jm_iload d_X11_play_165 rfl ?_
    refine jm_istore (L' := [some (jm_R _), some (jm_I _), some (jm_I _), some (jm_I _), some (jm_I _), some (jm_I _), some (jm_I _), some (jm_I _), some (jm_I _), some (jm_I _)]) d_X11_play_167 (Nat.le_of_ble_eq_true rfl) rfl ?_
    refine jm_iinc (L' := [some (jm_R _), some (jm_I _), some (jm_I _), some (jm_I _), some (jm_I _), some (jm_I _), some (jm_I _), some (jm_I _), some (jm_I _), some (jm_I _)]) d_X11_play_169 rfl rfl (Nat.le_of_ble_eq_true rfl) rfl ?_
    refine jm_goto (tgt := 65) d_X11_play_172 (by decide) ?_
    exact jm_weak2 h (And.intro rfl (And.intro rfl (And.intro rfl (And.intro rfl (And.intro rfl (And.intro rfl (And.intro rfl (And.intro rfl (And.intro rfl trivial)))))))))
  · have h := h.2 c1
    refine jm_iloadn d_X11_play_144 rfl ?_
    refine jm_if_eq (tgt := 158) d_X11_play_145 (by decide) (fun c2 => ?_) (fun c2 => ?_)
    · have h := h.1 c2
      refine jm_iload d_X11_play_158 rfl ?_
      refine jm_iload d_X11_play_160 rfl ?_
      refine jm_icmp_le (tgt := 169) d_X11_play_162 (by decide) (fun c3 => ?_) (fun c3 => ?_)
      · have h := h.1 c3
        refine jm_iinc (L' := [some (jm_R _), some (jm_I _), some (jm_I _), some (jm_I _), some (jm_I _), some (jm_I _), some (jm_I _), some (jm_I _), some (jm_I _), some (jm_I _)]) d_X11_play_169 rfl rfl (Nat.le_of_ble_eq_true rfl) rfl ?_
        refine jm_goto (tgt := 65) d_X11_play_172 (by decide) ?_
        exact jm_weak2 h (And.intro rfl (And.intro rfl (And.intro rfl (And.intro rfl (And.intro rfl (And.intro rfl (And.intro rfl (And.intro rfl (And.intro rfl trivial)))))))))
      · have h := h.2 c3
        refine jm_iload d_X11_play_165 rfl ?_
        refine jm_istore (L' := [some (jm_R _), some (jm_I _), some (jm_I _), some (jm_I _), some (jm_I _), some (jm_I _), some (jm_I _), some (jm_I _), some (jm_I _), some (jm_I _)]) d_X11_play_167 (Nat.le_of_ble_eq_true rfl) rfl ?_
        refine jm_iinc (L' := [some (jm_R _), some (jm_I _), some (jm_I _), some (jm_I _), some (jm_I _), some (jm_I _), some (jm_I _), some (jm_I _), some (jm_I _), some (jm_I _)]) d_X11_play_169 rfl rfl (Nat.le_of_ble_eq_true rfl) rfl ?_
        refine jm_goto (tgt := 65) d_X11_play_172 (by decide) ?_
        exact jm_weak2 h (And.intro rfl (And.intro rfl (And.intro rfl (And.intro rfl (And.intro rfl (And.intro rfl (And.intro rfl (And.intro rfl (And.intro rfl trivial)))))))))
    · have h := h.2 c2
      refine jm_iload d_X11_play_148 rfl ?_
      refine jm_iload d_X11_play_150 rfl ?_
      refine jm_icmp_ge (tgt := 169) d_X11_play_152 (by decide) (fun c4 => ?_) (fun c4 => ?_)
      · have h := h.1 c4
        refine jm_iinc (L' := [some (jm_R _), some (jm_I _), some (jm_I _), some (jm_I _), some (jm_I _), some (jm_I _), some (jm_I _), some (jm_I _), some (jm_I _), some (jm_I _)]) d_X11_play_169 rfl rfl (Nat.le_of_ble_eq_true rfl) rfl ?_
        refine jm_goto (tgt := 65) d_X11_play_172 (by decide) ?_
        exact jm_weak2 h (And.intro rfl (And.intro rfl (And.intro rfl (And.intro rfl (And.intro rfl (And.intro rfl (And.intro rfl (And.intro rfl (And.intro rfl trivial)))))))))
      · have h := h.2 c4
        refine jm_goto (tgt := 165) d_X11_play_155 (by decide) ?_
        refine jm_iload d_X11_play_165 rfl ?_
        refine jm_istore (L' := [some (jm_R _), some (jm_I _), some (jm_I _), some (jm_I _), some (jm_I _), some (jm_I _), some (jm_I _), some (jm_I _), some (jm_I _), some (jm_I _)]) d_X11_play_167 (Nat.le_of_ble_eq_true rfl) rfl ?_
        refine jm_iinc (L' := [some (jm_R _), some (jm_I _), some (jm_I _), some (jm_I _), some (jm_I _), some (jm_I _), some (jm_I _), some (jm_I _), some (jm_I _), some (jm_I _)]) d_X11_play_169 rfl rfl (Nat.le_of_ble_eq_true rfl) rfl ?_
        refine jm_goto (tgt := 65) d_X11_play_172 (by decide) ?_
        exact jm_weak2 h (And.intro rfl (And.intro rfl (And.intro rfl (And.intro rfl (And.intro rfl (And.intro rfl (And.intro rfl (And.intro rfl (And.intro rfl trivial)))))))))
/-! ('CombTableModel', 'game', '(IIII)I') -/
theorem d_X11_game_0 : decode m_X11_game.2.1 0 = .ok (.aload_n 0, 1) := by decide +kernel
theorem d_X11_game_1 : decode m_X11_game.2.1 1 = .ok (.iconst 0, 1) := by decide +kernel
theorem d_X11_game_2 : decode m_X11_game.2.1 2 = .ok (.putfield 106, 3) := by decide +kernel
theorem d_X11_game_5 : decode m_X11_game.2.1 5 = .ok (.iconst 1, 1) := by decide +kernel
theorem d_X11_game_6 : decode m_X11_game.2.1 6 = .ok (.aload_n 0, 1) := by decide +kernel
theorem d_X11_game_7 : decode m_X11_game.2.1 7 = .ok (.getfield 13, 3) := by decide +kernel
theorem d_X11_game_10 : decode m_X11_game.2.1 10 = .ok (.iconst 0, 1) := by decide +kernel
theorem d_X11_game_11 : decode m_X11_game.2.1 11 = .ok (.iaload, 1) := by decide +kernel
theorem d_X11_game_12 : decode m_X11_game.2.1 12 = .ok (.ishl, 1) := by decide +kernel
theorem d_X11_game_13 : decode m_X11_game.2.1 13 = .ok (.iconst 1, 1) := by decide +kernel
theorem d_X11_game_14 : decode m_X11_game.2.1 14 = .ok (.isub, 1) := by decide +kernel
theorem d_X11_game_15 : decode m_X11_game.2.1 15 = .ok (.istore 5, 2) := by decide +kernel
theorem d_X11_game_17 : decode m_X11_game.2.1 17 = .ok (.iload_n 3, 1) := by decide +kernel
theorem d_X11_game_18 : decode m_X11_game.2.1 18 = .ok (.iconst 0, 1) := by decide +kernel
theorem d_X11_game_19 : decode m_X11_game.2.1 19 = .ok (.bipush 8, 2) := by decide +kernel
theorem d_X11_game_21 : decode m_X11_game.2.1 21 = .ok (.invokestatic 177, 3) := by decide +kernel
theorem d_X11_game_24 : decode m_X11_game.2.1 24 = .ok (.ifCond .eq 39, 3) := by decide +kernel
theorem d_X11_game_27 : decode m_X11_game.2.1 27 = .ok (.iload 4, 2) := by decide +kernel
theorem d_X11_game_29 : decode m_X11_game.2.1 29 = .ok (.iconst 1, 1) := by decide +kernel
theorem d_X11_game_30 : decode m_X11_game.2.1 30 = .ok (.bipush 8, 2) := by decide +kernel
theorem d_X11_game_32 : decode m_X11_game.2.1 32 = .ok (.invokestatic 177, 3) := by decide +kernel
theorem d_X11_game_35 : decode m_X11_game.2.1 35 = .ok (.ifCond .eq 28, 3) := by decide +kernel
theorem d_X11_game_38 : decode m_X11_game.2.1 38 = .ok (.iload_n 2, 1) := by decide +kernel
theorem d_X11_game_39 : decode m_X11_game.2.1 39 = .ok (.ifCond .lt 24, 3) := by decide +kernel
theorem d_X11_game_42 : decode m_X11_game.2.1 42 = .ok (.iload_n 2, 1) := by decide +kernel
theorem d_X11_game_43 : decode m_X11_game.2.1 43 = .ok (.aload_n 0, 1) := by decide +kernel
theorem d_X11_game_44 : decode m_X11_game.2.1 44 = .ok (.getfield 13, 3) := by decide +kernel
theorem d_X11_game_47 : decode m_X11_game.2.1 47 = .ok (.bipush 60, 2) := by decide +kernel
theorem d_X11_game_49 : decode m_X11_game.2.1 49 = .ok (.iaload, 1) := by decide +kernel
theorem d_X11_game_50 : decode m_X11_game.2.1 50 = .ok (.if_icmp .ge 13, 3) := by decide +kernel
theorem d_X11_game_53 : decode m_X11_game.2.1 53 = .ok (.iload_n 1, 1) := by decide +kernel
theorem d_X11_game_54 : decode m_X11_game.2.1 54 = .ok (.ifCond .le 9, 3) := by decide +kernel
theorem d_X11_game_57 : decode m_X11_game.2.1 57 = .ok (.iload_n 1, 1) := by decide +kernel
theorem d_X11_game_58 : decode m_X11_game.2.1 58 = .ok (.iload 5, 2) := by decide +kernel
theorem d_X11_game_60 : decode m_X11_game.2.1 60 = .ok (.if_icmp .lt 6, 3) := by decide +kernel
theorem d_X11_game_63 : decode m_X11_game.2.1 63 = .ok (.bipush (-3), 2) := by decide +kernel
theorem d_X11_game_65 : decode m_X11_game.2.1 65 = .ok (.ireturn, 1) := by decide +kernel
theorem d_X11_game_66 : decode m_X11_game.2.1 66 = .ok (.aload_n 0, 1) := by decide +kernel
theorem d_X11_game_67 : decode m_X11_game.2.1 67 = .ok (.getfield 13, 3) := by decide +kernel
theorem d_X11_game_70 : decode m_X11_game.2.1 70 = .ok (.iconst 0, 1) := by decide +kernel
theorem d_X11_game_71 : decode m_X11_game.2.1 71 = .ok (.iaload, 1) := by decide +kernel
theorem d_X11_game_72 : decode m_X11_game.2.1 72 = .ok (.aload_n 0, 1) := by decide +kernel
theorem d_X11_game_73 : decode m_X11_game.2.1 73 = .ok (.getfield 13, 3) := by decide +kernel
theorem d_X11_game_76 : decode m_X11_game.2.1 76 = .ok (.iconst 1, 1) := by decide +kernel
theorem d_X11_game_77 : decode m_X11_game.2.1 77 = .ok (.iaload, 1) := by decide +kernel
theorem d_X11_game_78 : decode m_X11_game.2.1 78 = .ok (.iload 4, 2) := by decide +kernel
theorem d_X11_game_80 : decode m_X11_game.2.1 80 = .ok (.invokestatic 369, 3) := by decide +kernel
theorem d_X11_game_83 : decode m_X11_game.2.1 83 = .ok (.ifCond .eq 6, 3) := by decide +kernel
theorem d_X11_game_86 : decode m_X11_game.2.1 86 = .ok (.bipush (-2), 2) := by decide +kernel
theorem d_X11_game_88 : decode m_X11_game.2.1 88 = .ok (.ireturn, 1) := by decide +kernel
theorem d_X11_game_89 : decode m_X11_game.2.1 89 = .ok (.aload_n 0, 1) := by decide +kernel
theorem d_X11_game_90 : decode m_X11_game.2.1 90 = .ok (.invokevirtual 270, 3) := by decide +kernel
theorem d_X11_game_93 : decode m_X11_game.2.1 93 = .ok (.aload_n 0, 1) := by decide +kernel
theorem d_X11_game_94 : decode m_X11_game.2.1 94 = .ok (.iload_n 1, 1) := by decide +kernel
theorem d_X11_game_95 : decode m_X11_game.2.1 95 = .ok (.iconst 1, 1) := by decide +kernel
theorem d_X11_game_96 : decode m_X11_game.2.1 96 = .ok (.iload_n 2, 1) := by decide +kernel
theorem d_X11_game_97 : decode m_X11_game.2.1 97 = .ok (.iload_n 3, 1) := by decide +kernel
theorem d_X11_game_98 : decode m_X11_game.2.1 98 = .ok (.iload 4, 2) := by decide +kernel
theorem d_X11_game_100 : decode m_X11_game.2.1 100 = .ok (.invokevirtual 379, 3) := by decide +kernel
theorem d_X11_game_103 : decode m_X11_game.2.1 103 = .ok (.istore 6, 2) := by decide +kernel
theorem d_X11_game_105 : decode m_X11_game.2.1 105 = .ok (.iload 6, 2) := by decide +kernel
theorem d_X11_game_107 : decode m_X11_game.2.1 107 = .ok (.bipush 99, 2) := by decide +kernel
theorem d_X11_game_109 : decode m_X11_game.2.1 109 = .ok (.if_icmp .ne 7, 3) := by decide +kernel
theorem d_X11_game_112 : decode m_X11_game.2.1 112 = .ok (.iconst (-1), 1) := by decide +kernel
theorem d_X11_game_113 : decode m_X11_game.2.1 113 = .ok (.goto 5, 3) := by decide +kernel
theorem d_X11_game_116 : decode m_X11_game.2.1 116 = .ok (.iload 6, 2) := by decide +kernel
theorem d_X11_game_118 : decode m_X11_game.2.1 118 = .ok (.ireturn, 1) := by decide +kernel
set_option maxRecDepth 20000 in
theorem e_X11_game {E : jm_E} {d : Nat} {μ : jm_M} {Q : Option jm_V → jm_M → Prop} {v1 v2 v3 v4 : Int} (h : (∀ v ∈ ([jm_R 133, jm_I v1, jm_I v2, jm_I v3, jm_I v4] : List jm_V), jm_ok v) →
  ∀ x1 : Int, x1 = jm_wr ((jm_shl 1 (μ 135 0)) - 1) →
  jc E m_X11_isIn d [jm_I v3, jm_I 0, jm_I 8] (jm_up μ 133 0 0) (fun (o : Option jm_V) (m2 : jm_M) => ∀ r3 : Int, o = some (jm_I r3) → (r3 = 0 ∨ r3 = 1) →
  ((r3 = 0 →
    Q (some (jm_I ((-3)))) m2) ∧
   (¬ (r3 = 0) →
    jc E m_X11_isIn d [jm_I v4, jm_I 1, jm_I 8] m2 (fun (o : Option jm_V) (m6 : jm_M) => ∀ r7 : Int, o = some (jm_I r7) → (r7 = 0 ∨ r7 = 1) →
    ((r7 = 0 →
      Q (some (jm_I ((-3)))) m6) ∧
     (¬ (r7 = 0) →
      ((v2 < 0 →
        Q (some (jm_I ((-3)))) m6) ∧
       (¬ (v2 < 0) →
        ((m6 135 60 ≤ v2 →
          Q (some (jm_I ((-3)))) m6) ∧
         (¬ (m6 135 60 ≤ v2) →
          ((v1 ≤ 0 →
            Q (some (jm_I ((-3)))) m6) ∧
           (¬ (v1 ≤ 0) →
            ((v1 < x1 →
              jc E m_X11_isTooMany d [jm_I (m6 135 0), jm_I (m6 135 1), jm_I v4] m6 (fun (o : Option jm_V) (m14 : jm_M) => ∀ r15 : Int, o = some (jm_I r15) → (r15 = 0 ∨ r15 = 1) →
              ((r15 = 0 →
                jc E m_X11_lay d [jm_R 133] m14 (fun (o : Option jm_V) (m18 : jm_M) => o = none →
                jc E m_X11_play d [jm_R 133, jm_I v1, jm_I 1, jm_I v2, jm_I v3, jm_I v4] m18 (fun (o : Option jm_V) (m19 : jm_M) => ∀ r20 : Int, o = some (jm_I r20) →
                ((r20 ≠ 99 →
                  Q (some (jm_I r20)) m19) ∧
                 (¬ (r20 ≠ 99) →
                  Q (some (jm_I ((-1)))) m19))))) ∧
               (¬ (r15 = 0) →
                Q (some (jm_I ((-2)))) m14)))) ∧
             (¬ (v1 < x1) →
              Q (some (jm_I ((-3)))) m6))))))))))))))) : jc E m_X11_game (d + 1) [jm_R 133, jm_I v1, jm_I v2, jm_I v3, jm_I v4] μ Q := by
  refine jm_Cl.of2 (by decide +kernel) (L0 := [some (jm_R 133), some (jm_I v1), some (jm_I v2), some (jm_I v3), some (jm_I v4), none, none]) rfl (Nat.le_of_ble_eq_true rfl) (fun hok => ?_)
  have h := h hok
  refine jm_aloadn d_X11_game_0 rfl ?_
  refine jm_iconst (v := 0) d_X11_game_1 rfl (jm_okI (by decide) (by decide)) ?_
  refine jm_putI (k := 0) (ki := 0) cf_X11 (Nat.le_of_ble_eq_true rfl) f_X11_106 d_X11_game_2 (fun z => absurd z (by decide)) rfl rfl rfl (fun _ => rfl) is_133 ?_
  refine jm_iconst (v := 1) d_X11_game_5 rfl (jm_okI (by decide) (by decide)) ?_
  refine jm_aloadn d_X11_game_6 rfl ?_
  refine jm_getF (k := 14) (ki := 14) rfl cf_X11 (Nat.le_of_ble_eq_true rfl) f_X11_13 d_X11_game_7 rfl rfl is_133 fr_133_14 ?_
  refine jm_iconst (v := 0) d_X11_game_10 rfl (jm_okI (by decide) (by decide)) ?_
  refine jm_ialoadv d_X11_game_11 (ixl_135 (by decide) (by decide)) ((jm_up_lj (by decide)).trans rfl) ?_
  refine jm_ishl d_X11_game_12 ?_
  refine jm_iconst (v := 1) d_X11_game_13 rfl (jm_okI (by decide) (by decide)) ?_
  refine jm_isub d_X11_game_14 ?_
  have h := h _ rfl
  refine jm_istore (L' := [some (jm_R _), some (jm_I _), some (jm_I _), some (jm_I _), some (jm_I _), some (jm_I _), none]) d_X11_game_15 (Nat.le_of_ble_eq_true rfl) rfl ?_
  refine jm_iloadn d_X11_game_17 rfl ?_
  refine jm_iconst (v := 0) d_X11_game_18 rfl (jm_okI (by decide) (by decide)) ?_
  refine jm_bipush (v := 8) d_X11_game_19 rfl (jm_okI (by decide) (by decide)) ?_
  refine jm_invS (n1 := jm_N) (mc := 0) (ms := 0) (av := [jm_I _, jm_I _, jm_I _]) w_X11_isIn l_X11_177 d_X11_game_21 rfl ⟨Nat.le_refl _, Nat.le_refl _⟩ (Nat.le_of_ble_eq_true rfl) rfl ?_
  refine jm_Cl.mono h (fun o m2 h hr _ => ?_)
  obtain ⟨r3, rfl, z4⟩ := jm_rokZ hr
  have h := h _ rfl z4
  refine jm_if_eq (tgt := 63) d_X11_game_24 (by decide) (fun c5 => ?_) (fun c5 => ?_)
  · have h := h.1 c5
    refine jm_bipush (v := (-3)) d_X11_game_63 rfl (jm_okI (by decide) (by decide)) ?_
    exact jm_ret (o := some (jm_I _)) d_X11_game_65 rfl ⟨Nat.le_refl _, Nat.le_refl _⟩ jm_r_I h rfl
  · have h := h.2 c5
    refine jm_iload d_X11_game_27 rfl ?_
    refine jm_iconst (v := 1) d_X11_game_29 rfl (jm_okI (by decide) (by decide)) ?_
    refine jm_bipush (v := 8) d_X11_game_30 rfl (jm_okI (by decide) (by decide)) ?_
    refine jm_invS (n1 := jm_N) (mc := 0) (ms := 0) (av := [jm_I _, jm_I _, jm_I _]) w_X11_isIn l_X11_177 d_X11_game_32 rfl ⟨Nat.le_refl _, Nat.le_refl _⟩ (Nat.le_of_ble_eq_true rfl) rfl ?_
    refine jm_Cl.mono h (fun o m6 h hr _ => ?_)
    obtain ⟨r7, rfl, z8⟩ := jm_rokZ hr
    have h := h _ rfl z8
    refine jm_if_eq (tgt := 63) d_X11_game_35 (by decide) (fun c9 => ?_) (fun c9 => ?_)
    · have h := h.1 c9
      refine jm_bipush (v := (-3)) d_X11_game_63 rfl (jm_okI (by decide) (by decide)) ?_
      exact jm_ret (o := some (jm_I _)) d_X11_game_65 rfl ⟨Nat.le_refl _, Nat.le_refl _⟩ jm_r_I h rfl
    · have h := h.2 c9
      refine jm_iloadn d_X11_game_38 rfl ?_
      refine jm_if_lt (tgt := 63) d_X11_game_39 (by decide) (fun c10 => ?_) (fun c10 => ?_)
      · have h := h.1 c10
        refine jm_bipush (v := (-3)) d_X11_game_63 rfl (jm_okI (by decide) (by decide)) ?_
        exact jm_ret (o := some (jm_I _)) d_X11_game_65 rfl ⟨Nat.le_refl _, Nat.le_refl _⟩ jm_r_I h rfl
      · have h := h.2 c10
        refine jm_iloadn d_X11_game_42 rfl ?_
        refine jm_aloadn d_X11_game_43 rfl ?_
        refine jm_getF (k := 14) (ki := 14) rfl cf_X11 (Nat.le_of_ble_eq_true rfl) f_X11_13 d_X11_game_44 rfl rfl is_133 fr_133_14 ?_
        refine jm_bipush (v := 60) d_X11_game_47 rfl (jm_okI (by decide) (by decide)) ?_
        refine jm_iaload d_X11_game_49 (ixl_135 (by decide) (by decide)) ?_
        refine jm_icmp_ge (tgt := 63) d_X11_game_50 (by decide) (fun c11 => ?_) (fun c11 => ?_)
        · have h := h.1 c11
          refine jm_bipush (v := (-3)) d_X11_game_63 rfl (jm_okI (by decide) (by decide)) ?_
          exact jm_ret (o := some (jm_I _)) d_X11_game_65 rfl ⟨Nat.le_refl _, Nat.le_refl _⟩ jm_r_I h rfl
        · have h := h.2 c11
          refine jm_iloadn d_X11_game_53 rfl ?_
          refine jm_if_le (tgt := 63) d_X11_game_54 (by decide) (fun c12 => ?_) (fun c12 => ?_)
          · have h := h.1 c12
            refine jm_bipush (v := (-3)) d_X11_game_63 rfl (jm_okI (by decide) (by decide)) ?_
            exact jm_ret (o := some (jm_I _)) d_X11_game_65 rfl ⟨Nat.le_refl _, Nat.le_refl _⟩ jm_r_I h rfl
          · have h := h.2 c12
            refine jm_iloadn d_X11_game_57 rfl ?_
            refine jm_iload d_X11_game_58 rfl ?_
            refine jm_icmp_lt (tgt := 66) d_X11_game_60 (by decide) (fun c13 => ?_) (fun c13 => ?_)
            · have h := h.1 c13
              refine jm_aloadn d_X11_game_66 rfl ?_
              refine jm_getF (k := 14) (ki := 14) rfl cf_X11 (Nat.le_of_ble_eq_true rfl) f_X11_13 d_X11_game_67 rfl rfl is_133 fr_133_14 ?_
              refine jm_iconst (v := 0) d_X11_game_70 rfl (jm_okI (by decide) (by decide)) ?_
              refine jm_iaload d_X11_game_71 (ixl_135 (by decide) (by decide)) ?_
              refine jm_aloadn d_X11_game_72 rfl ?_
              refine jm_getF (k := 14) (ki := 14) rfl cf_X11 (Nat.le_of_ble_eq_true rfl) f_X11_13 d_X11_game_73 rfl rfl is_133 fr_133_14 ?_
              refine jm_iconst (v := 1) d_X11_game_76 rfl (jm_okI (by decide) (by decide)) ?_
              refine jm_iaload d_X11_game_77 (ixl_135 (by decide) (by decide)) ?_
              refine jm_iload d_X11_game_78 rfl ?_
              refine jm_invS (n1 := jm_N) (mc := 0) (ms := 0) (av := [jm_I _, jm_I _, jm_I _]) w_X11_isTooMany l_X11_369 d_X11_game_80 rfl ⟨Nat.le_refl _, Nat.le_refl _⟩ (Nat.le_of_ble_eq_true rfl) rfl ?_
              refine jm_Cl.mono h (fun o m14 h hr _ => ?_)
              obtain ⟨r15, rfl, z16⟩ := jm_rokZ hr
              have h := h _ rfl z16
              refine jm_if_eq (tgt := 89) d_X11_game_83 (by decide) (fun c17 => ?_) (fun c17 => ?_)
              · have h := h.1 c17
                refine jm_aloadn d_X11_game_89 rfl ?_
                refine jm_invV (n1 := jm_N) (mc := 0) (ms := 0) (av := []) w_X11_lay l_X11_270 d_X11_game_90 rfl is_133 ⟨_, _, rfl⟩ ⟨Nat.le_refl _, Nat.le_refl _⟩ (Nat.le_of_ble_eq_true rfl) rfl ?_
                refine jm_Cl.mono h (fun o m18 h hr _ => ?_)
                obtain rfl := jm_rokV hr
                have h := h rfl
                refine jm_aloadn d_X11_game_93 rfl ?_
                refine jm_iloadn d_X11_game_94 rfl ?_
                refine jm_iconst (v := 1) d_X11_game_95 rfl (jm_okI (by decide) (by decide)) ?_
                refine jm_iloadn d_X11_game_96 rfl ?_
                refine jm_iloadn d_X11_game_97 rfl ?_
                refine jm_iload d_X11_game_98 rfl ?_
                refine jm_invV (n1 := jm_N) (mc := 0) (ms := 0) (av := [jm_I _, jm_I _, jm_I _, jm_I _, jm_I _]) w_X11_play l_X11_379 d_X11_game_100 rfl is_133 ⟨_, _, rfl⟩ ⟨Nat.le_refl _, Nat.le_refl _⟩ (Nat.le_of_ble_eq_true rfl) rfl ?_
                refine jm_Cl.mono h (fun o m19 h hr _ => ?_)
                obtain ⟨r20, rfl⟩ := jm_rokI hr
                have h := h _ rfl
                refine jm_istore (L' := [some (jm_R _), some (jm_I _), some (jm_I _), some (jm_I _), some (jm_I _), some (jm_I _), some (jm_I _)]) d_X11_game_103 (Nat.le_of_ble_eq_true rfl) rfl ?_
                refine jm_iload d_X11_game_105 rfl ?_
                refine jm_bipush (v := 99) d_X11_game_107 rfl (jm_okI (by decide) (by decide)) ?_
                refine jm_icmp_ne (tgt := 116) d_X11_game_109 (by decide) (fun c21 => ?_) (fun c21 => ?_)
                · have h := h.1 c21
                  refine jm_iload d_X11_game_116 rfl ?_
                  exact jm_ret (o := some (jm_I _)) d_X11_game_118 rfl ⟨Nat.le_refl _, Nat.le_refl _⟩ jm_r_I h rfl
                · have h := h.2 c21
                  refine jm_iconst (v := (-1)) d_X11_game_112 rfl (jm_okI (by decide) (by decide)) ?_
                  refine jm_goto (tgt := 118) d_X11_game_113 (by decide) ?_
                  exact jm_ret (o := some (jm_I _)) d_X11_game_118 rfl ⟨Nat.le_refl _, Nat.le_refl _⟩ jm_r_I h rfl
              · have h := h.2 c17
                refine jm_bipush (v := (-2)) d_X11_game_86 rfl (jm_okI (by decide) (by decide)) ?_
                exact jm_ret (o := some (jm_I _)) d_X11_game_88 rfl ⟨Nat.le_refl _, Nat.le_refl _⟩ jm_r_I h rfl
            · have h := h.2 c13
              refine jm_bipush (v := (-3)) d_X11_game_63 rfl (jm_okI (by decide) (by decide)) ?_
              exact jm_ret (o := some (jm_I _)) d_X11_game_65 rfl ⟨Nat.le_refl _, Nat.le_refl _⟩ jm_r_I h rfl
/-! ('CombTableModel', 'found', '(I)I') -/
theorem d_X11_found_0 : decode m_X11_found.2.1 0 = .ok (.aload_n 0, 1) := by decide +kernel
theorem d_X11_found_1 : decode m_X11_found.2.1 1 = .ok (.iconst 0, 1) := by decide +kernel
theorem d_X11_found_2 : decode m_X11_found.2.1 2 = .ok (.putfield 106, 3) := by decide +kernel
theorem d_X11_found_5 : decode m_X11_found.2.1 5 = .ok (.iload_n 1, 1) := by decide +kernel
theorem d_X11_found_6 : decode m_X11_found.2.1 6 = .ok (.ifCond .lt 20, 3) := by decide +kernel
theorem d_X11_found_9 : decode m_X11_found.2.1 9 = .ok (.iload_n 1, 1) := by decide +kernel
theorem d_X11_found_10 : decode m_X11_found.2.1 10 = .ok (.aload_n 0, 1) := by decide +kernel
theorem d_X11_found_11 : decode m_X11_found.2.1 11 = .ok (.getfield 376, 3) := by decide +kernel
theorem d_X11_found_14 : decode m_X11_found.2.1 14 = .ok (.if_icmp .ge 12, 3) := by decide +kernel
theorem d_X11_found_17 : decode m_X11_found.2.1 17 = .ok (.aload_n 0, 1) := by decide +kernel
theorem d_X11_found_18 : decode m_X11_found.2.1 18 = .ok (.getfield 100, 3) := by decide +kernel
theorem d_X11_found_21 : decode m_X11_found.2.1 21 = .ok (.iload_n 1, 1) := by decide +kernel
theorem d_X11_found_22 : decode m_X11_found.2.1 22 = .ok (.iaload, 1) := by decide +kernel
theorem d_X11_found_23 : decode m_X11_found.2.1 23 = .ok (.goto 4, 3) := by decide +kernel
theorem d_X11_found_26 : decode m_X11_found.2.1 26 = .ok (.iconst (-1), 1) := by decide +kernel
theorem d_X11_found_27 : decode m_X11_found.2.1 27 = .ok (.ireturn, 1) := by decide +kernel
set_option maxRecDepth 20000 in
theorem e_X11_found {E : jm_E} {d : Nat} {μ : jm_M} {Q : Option jm_V → jm_M → Prop} {v1 : Int} (h : (∀ v ∈ ([jm_R 133, jm_I v1] : List jm_V), jm_ok v) →
  ((v1 < 0 →
    Q (some (jm_I ((-1)))) (jm_up μ 133 0 0)) ∧
   (¬ (v1 < 0) →
    ((μ 133 52 ≤ v1 →
      Q (some (jm_I ((-1)))) (jm_up μ 133 0 0)) ∧
     (¬ (μ 133 52 ≤ v1) →
      (0 ≤ v1 ∧ v1 < 8) ∧
      Q (some (jm_I (μ 162 v1))) (jm_up μ 133 0 0)))))) : jc E m_X11_found (d + 1) [jm_R 133, jm_I v1] μ Q := by
  refine jm_Cl.of2 (by decide +kernel) (L0 := [some (jm_R 133), some (jm_I v1)]) rfl (Nat.le_of_ble_eq_true rfl) (fun hok => ?_)
  have h := h hok
  refine jm_aloadn d_X11_found_0 rfl ?_
  refine jm_iconst (v := 0) d_X11_found_1 rfl (jm_okI (by decide) (by decide)) ?_
  refine jm_putI (k := 0) (ki := 0) cf_X11 (Nat.le_of_ble_eq_true rfl) f_X11_106 d_X11_found_2 (fun z => absurd z (by decide)) rfl rfl rfl (fun _ => rfl) is_133 ?_
  refine jm_iloadn d_X11_found_5 rfl ?_
  refine jm_if_lt (tgt := 26) d_X11_found_6 (by decide) (fun c1 => ?_) (fun c1 => ?_)
  · have h := h.1 c1
    refine jm_iconst (v := (-1)) d_X11_found_26 rfl (jm_okI (by decide) (by decide)) ?_
    exact jm_ret (o := some (jm_I _)) d_X11_found_27 rfl ⟨Nat.le_refl _, Nat.le_refl _⟩ jm_r_I h rfl
  · have h := h.2 c1
    refine jm_iloadn d_X11_found_9 rfl ?_
    refine jm_aloadn d_X11_found_10 rfl ?_
    refine jm_getI (k := 52) (ki := 52) cf_X11 (Nat.le_of_ble_eq_true rfl) f_X11_376 d_X11_found_11 rfl rfl is_133 ((jm_up_i (by decide)).trans rfl) ?_
    refine jm_icmp_ge (tgt := 26) d_X11_found_14 (by decide) (fun c2 => ?_) (fun c2 => ?_)
    · have h := h.1 c2
      refine jm_iconst (v := (-1)) d_X11_found_26 rfl (jm_okI (by decide) (by decide)) ?_
      exact jm_ret (o := some (jm_I _)) d_X11_found_27 rfl ⟨Nat.le_refl _, Nat.le_refl _⟩ jm_r_I h rfl
    · have h := h.2 c2
      refine jm_aloadn d_X11_found_17 rfl ?_
      refine jm_getF (k := 51) (ki := 51) rfl cf_X11 (Nat.le_of_ble_eq_true rfl) f_X11_100 d_X11_found_18 rfl rfl is_133 fr_133_51 ?_
      refine jm_iloadn d_X11_found_21 rfl ?_
      obtain ⟨f3, h⟩ := h
      refine jm_ialoadv d_X11_found_22 (ixl_162 f3.1 f3.2) ((jm_up_lj (by decide)).trans rfl) ?_
      refine jm_goto (tgt := 27) d_X11_found_23 (by decide) ?_
      exact jm_ret (o := some (jm_I _)) d_X11_found_27 rfl ⟨Nat.le_refl _, Nat.le_refl _⟩ jm_r_I h rfl
/-! ('CombTableModel', 'mayBeSaid', '(III)Z') -/
theorem d_X11_mayBeSaid_0 : decode m_X11_mayBeSaid.2.1 0 = .ok (.iload_n 2, 1) := by decide +kernel
theorem d_X11_mayBeSaid_1 : decode m_X11_mayBeSaid.2.1 1 = .ok (.aload_n 0, 1) := by decide +kernel
theorem d_X11_mayBeSaid_2 : decode m_X11_mayBeSaid.2.1 2 = .ok (.iload_n 1, 1) := by decide +kernel
theorem d_X11_mayBeSaid_3 : decode m_X11_mayBeSaid.2.1 3 = .ok (.iconst 0, 1) := by decide +kernel
theorem d_X11_mayBeSaid_4 : decode m_X11_mayBeSaid.2.1 4 = .ok (.invokevirtual 255, 3) := by decide +kernel
theorem d_X11_mayBeSaid_7 : decode m_X11_mayBeSaid.2.1 7 = .ok (.if_icmp .ge 27, 3) := by decide +kernel
theorem d_X11_mayBeSaid_10 : decode m_X11_mayBeSaid.2.1 10 = .ok (.iload_n 3, 1) := by decide +kernel
theorem d_X11_mayBeSaid_11 : decode m_X11_mayBeSaid.2.1 11 = .ok (.aload_n 0, 1) := by decide +kernel
theorem d_X11_mayBeSaid_12 : decode m_X11_mayBeSaid.2.1 12 = .ok (.iload_n 1, 1) := by decide +kernel
theorem d_X11_mayBeSaid_13 : decode m_X11_mayBeSaid.2.1 13 = .ok (.iconst 1, 1) := by decide +kernel
theorem d_X11_mayBeSaid_14 : decode m_X11_mayBeSaid.2.1 14 = .ok (.invokevirtual 255, 3) := by decide +kernel
theorem d_X11_mayBeSaid_17 : decode m_X11_mayBeSaid.2.1 17 = .ok (.if_icmp .ge 17, 3) := by decide +kernel
theorem d_X11_mayBeSaid_20 : decode m_X11_mayBeSaid.2.1 20 = .ok (.aload_n 0, 1) := by decide +kernel
theorem d_X11_mayBeSaid_21 : decode m_X11_mayBeSaid.2.1 21 = .ok (.iload_n 1, 1) := by decide +kernel
theorem d_X11_mayBeSaid_22 : decode m_X11_mayBeSaid.2.1 22 = .ok (.iload_n 2, 1) := by decide +kernel
theorem d_X11_mayBeSaid_23 : decode m_X11_mayBeSaid.2.1 23 = .ok (.iload_n 3, 1) := by decide +kernel
theorem d_X11_mayBeSaid_24 : decode m_X11_mayBeSaid.2.1 24 = .ok (.invokevirtual 273, 3) := by decide +kernel
theorem d_X11_mayBeSaid_27 : decode m_X11_mayBeSaid.2.1 27 = .ok (.ifCond .ne 7, 3) := by decide +kernel
theorem d_X11_mayBeSaid_30 : decode m_X11_mayBeSaid.2.1 30 = .ok (.iconst 1, 1) := by decide +kernel
theorem d_X11_mayBeSaid_31 : decode m_X11_mayBeSaid.2.1 31 = .ok (.goto 4, 3) := by decide +kernel
theorem d_X11_mayBeSaid_34 : decode m_X11_mayBeSaid.2.1 34 = .ok (.iconst 0, 1) := by decide +kernel
theorem d_X11_mayBeSaid_35 : decode m_X11_mayBeSaid.2.1 35 = .ok (.ireturn, 1) := by decide +kernel
set_option maxRecDepth 20000 in
theorem e_X11_mayBeSaid {E : jm_E} {d : Nat} {μ : jm_M} {Q : Option jm_V → jm_M → Prop} {v1 v2 v3 : Int} (h : (∀ v ∈ ([jm_R 133, jm_I v1, jm_I v2, jm_I v3] : List jm_V), jm_ok v) →
  jc E m_X11_rule d [jm_R 133, jm_I v1, jm_I 0] μ (fun (o : Option jm_V) (m1 : jm_M) => ∀ r2 : Int, o = some (jm_I r2) →
  ((r2 ≤ v2 →
    Q (some (jm_I 0)) m1) ∧
   (¬ (r2 ≤ v2) →
    jc E m_X11_rule d [jm_R 133, jm_I v1, jm_I 1] m1 (fun (o : Option jm_V) (m4 : jm_M) => ∀ r5 : Int, o = some (jm_I r5) →
    ((r5 ≤ v3 →
      Q (some (jm_I 0)) m4) ∧
     (¬ (r5 ≤ v3) →
      jc E m_X11_wrongOf d [jm_R 133, jm_I v1, jm_I v2, jm_I v3] m4 (fun (o : Option jm_V) (m7 : jm_M) => ∀ r8 : Int, o = some (jm_I r8) →
      ((r8 ≠ 0 →
        Q (some (jm_I 0)) m7) ∧
       (¬ (r8 ≠ 0) →
        Q (some (jm_I 1)) m7)))))))))) : jc E m_X11_mayBeSaid (d + 1) [jm_R 133, jm_I v1, jm_I v2, jm_I v3] μ Q := by
  refine jm_Cl.of2 (by decide +kernel) (L0 := [some (jm_R 133), some (jm_I v1), some (jm_I v2), some (jm_I v3)]) rfl (Nat.le_of_ble_eq_true rfl) (fun hok => ?_)
  have h := h hok
  refine jm_iloadn d_X11_mayBeSaid_0 rfl ?_
  refine jm_aloadn d_X11_mayBeSaid_1 rfl ?_
  refine jm_iloadn d_X11_mayBeSaid_2 rfl ?_
  refine jm_iconst (v := 0) d_X11_mayBeSaid_3 rfl (jm_okI (by decide) (by decide)) ?_
  refine jm_invV (n1 := jm_N) (mc := 0) (ms := 0) (av := [jm_I _, jm_I _]) w_X11_rule l_X11_255 d_X11_mayBeSaid_4 rfl is_133 ⟨_, _, rfl⟩ ⟨Nat.le_refl _, Nat.le_refl _⟩ (Nat.le_of_ble_eq_true rfl) rfl ?_
  refine jm_Cl.mono h (fun o m1 h hr _ => ?_)
  obtain ⟨r2, rfl⟩ := jm_rokI hr
  have h := h _ rfl
  refine jm_icmp_ge (tgt := 34) d_X11_mayBeSaid_7 (by decide) (fun c3 => ?_) (fun c3 => ?_)
  · have h := h.1 c3
    refine jm_iconst (v := 0) d_X11_mayBeSaid_34 rfl (jm_okI (by decide) (by decide)) ?_
    exact jm_ret (o := some (jm_I _)) d_X11_mayBeSaid_35 rfl ⟨Nat.le_refl _, Nat.le_refl _⟩ (jm_r_Z (by decide)) h rfl
  · have h := h.2 c3
    refine jm_iloadn d_X11_mayBeSaid_10 rfl ?_
    refine jm_aloadn d_X11_mayBeSaid_11 rfl ?_
    refine jm_iloadn d_X11_mayBeSaid_12 rfl ?_
    refine jm_iconst (v := 1) d_X11_mayBeSaid_13 rfl (jm_okI (by decide) (by decide)) ?_
    refine jm_invV (n1 := jm_N) (mc := 0) (ms := 0) (av := [jm_I _, jm_I _]) w_X11_rule l_X11_255 d_X11_mayBeSaid_14 rfl is_133 ⟨_, _, rfl⟩ ⟨Nat.le_refl _, Nat.le_refl _⟩ (Nat.le_of_ble_eq_true rfl) rfl ?_
    refine jm_Cl.mono h (fun o m4 h hr _ => ?_)
    obtain ⟨r5, rfl⟩ := jm_rokI hr
    have h := h _ rfl
    refine jm_icmp_ge (tgt := 34) d_X11_mayBeSaid_17 (by decide) (fun c6 => ?_) (fun c6 => ?_)
    · have h := h.1 c6
      refine jm_iconst (v := 0) d_X11_mayBeSaid_34 rfl (jm_okI (by decide) (by decide)) ?_
      exact jm_ret (o := some (jm_I _)) d_X11_mayBeSaid_35 rfl ⟨Nat.le_refl _, Nat.le_refl _⟩ (jm_r_Z (by decide)) h rfl
    · have h := h.2 c6
      refine jm_aloadn d_X11_mayBeSaid_20 rfl ?_
      refine jm_iloadn d_X11_mayBeSaid_21 rfl ?_
      refine jm_iloadn d_X11_mayBeSaid_22 rfl ?_
      refine jm_iloadn d_X11_mayBeSaid_23 rfl ?_
      refine jm_invV (n1 := jm_N) (mc := 0) (ms := 0) (av := [jm_I _, jm_I _, jm_I _]) w_X11_wrongOf l_X11_273 d_X11_mayBeSaid_24 rfl is_133 ⟨_, _, rfl⟩ ⟨Nat.le_refl _, Nat.le_refl _⟩ (Nat.le_of_ble_eq_true rfl) rfl ?_
      refine jm_Cl.mono h (fun o m7 h hr _ => ?_)
      obtain ⟨r8, rfl⟩ := jm_rokI hr
      have h := h _ rfl
      refine jm_if_ne (tgt := 34) d_X11_mayBeSaid_27 (by decide) (fun c9 => ?_) (fun c9 => ?_)
      · have h := h.1 c9
        refine jm_iconst (v := 0) d_X11_mayBeSaid_34 rfl (jm_okI (by decide) (by decide)) ?_
        exact jm_ret (o := some (jm_I _)) d_X11_mayBeSaid_35 rfl ⟨Nat.le_refl _, Nat.le_refl _⟩ (jm_r_Z (by decide)) h rfl
      · have h := h.2 c9
        refine jm_iconst (v := 1) d_X11_mayBeSaid_30 rfl (jm_okI (by decide) (by decide)) ?_
        refine jm_goto (tgt := 35) d_X11_mayBeSaid_31 (by decide) ?_
        exact jm_ret (o := some (jm_I _)) d_X11_mayBeSaid_35 rfl ⟨Nat.le_refl _, Nat.le_refl _⟩ (jm_r_Z (by decide)) h rfl
/-! ('CombTableModel', 'parts', '(IIII)Z') -/
theorem d_X11_parts_0 : decode m_X11_parts.2.1 0 = .ok (.iconst 0, 1) := by decide +kernel
theorem d_X11_parts_1 : decode m_X11_parts.2.1 1 = .ok (.istore 5, 2) := by decide +kernel
theorem d_X11_parts_3 : decode m_X11_parts.2.1 3 = .ok (.iload 5, 2) := by decide +kernel
theorem d_X11_parts_5 : decode m_X11_parts.2.1 5 = .ok (.iload_n 1, 1) := by decide +kernel
theorem d_X11_parts_6 : decode m_X11_parts.2.1 6 = .ok (.if_icmp .ge 139, 3) := by decide +kernel
theorem d_X11_parts_9 : decode m_X11_parts.2.1 9 = .ok (.iconst 0, 1) := by decide +kernel
theorem d_X11_parts_10 : decode m_X11_parts.2.1 10 = .ok (.istore 6, 2) := by decide +kernel
theorem d_X11_parts_12 : decode m_X11_parts.2.1 12 = .ok (.iload 6, 2) := by decide +kernel
theorem d_X11_parts_14 : decode m_X11_parts.2.1 14 = .ok (.iload_n 2, 1) := by decide +kernel
theorem d_X11_parts_15 : decode m_X11_parts.2.1 15 = .ok (.if_icmp .ge 124, 3) := by decide +kernel
theorem d_X11_parts_18 : decode m_X11_parts.2.1 18 = .ok (.aload_n 0, 1) := by decide +kernel
theorem d_X11_parts_19 : decode m_X11_parts.2.1 19 = .ok (.iconst 0, 1) := by decide +kernel
theorem d_X11_parts_20 : decode m_X11_parts.2.1 20 = .ok (.iload 5, 2) := by decide +kernel
theorem d_X11_parts_22 : decode m_X11_parts.2.1 22 = .ok (.iload 6, 2) := by decide +kernel
theorem d_X11_parts_24 : decode m_X11_parts.2.1 24 = .ok (.invokevirtual 383, 3) := by decide +kernel
theorem d_X11_parts_27 : decode m_X11_parts.2.1 27 = .ok (.istore 7, 2) := by decide +kernel
theorem d_X11_parts_29 : decode m_X11_parts.2.1 29 = .ok (.aload_n 0, 1) := by decide +kernel
theorem d_X11_parts_30 : decode m_X11_parts.2.1 30 = .ok (.iconst 1, 1) := by decide +kernel
theorem d_X11_parts_31 : decode m_X11_parts.2.1 31 = .ok (.iload 5, 2) := by decide +kernel
theorem d_X11_parts_33 : decode m_X11_parts.2.1 33 = .ok (.iload 6, 2) := by decide +kernel
theorem d_X11_parts_35 : decode m_X11_parts.2.1 35 = .ok (.invokevirtual 383, 3) := by decide +kernel
theorem d_X11_parts_38 : decode m_X11_parts.2.1 38 = .ok (.istore 8, 2) := by decide +kernel
theorem d_X11_parts_40 : decode m_X11_parts.2.1 40 = .ok (.aload_n 0, 1) := by decide +kernel
theorem d_X11_parts_41 : decode m_X11_parts.2.1 41 = .ok (.getfield 97, 3) := by decide +kernel
theorem d_X11_parts_44 : decode m_X11_parts.2.1 44 = .ok (.iload 4, 2) := by decide +kernel
theorem d_X11_parts_46 : decode m_X11_parts.2.1 46 = .ok (.bipush 16, 2) := by decide +kernel
theorem d_X11_parts_48 : decode m_X11_parts.2.1 48 = .ok (.iload 5, 2) := by decide +kernel
theorem d_X11_parts_50 : decode m_X11_parts.2.1 50 = .ok (.imul, 1) := by decide +kernel
theorem d_X11_parts_51 : decode m_X11_parts.2.1 51 = .ok (.iload 6, 2) := by decide +kernel
theorem d_X11_parts_53 : decode m_X11_parts.2.1 53 = .ok (.iadd, 1) := by decide +kernel
theorem d_X11_parts_54 : decode m_X11_parts.2.1 54 = .ok (.iastore, 1) := by decide +kernel
theorem d_X11_parts_55 : decode m_X11_parts.2.1 55 = .ok (.iload 4, 2) := by decide +kernel
theorem d_X11_parts_57 : decode m_X11_parts.2.1 57 = .ok (.iload_n 3, 1) := by decide +kernel
theorem d_X11_parts_58 : decode m_X11_parts.2.1 58 = .ok (.iconst 1, 1) := by decide +kernel
theorem d_X11_parts_59 : decode m_X11_parts.2.1 59 = .ok (.isub, 1) := by decide +kernel
theorem d_X11_parts_60 : decode m_X11_parts.2.1 60 = .ok (.if_icmp .ne 12, 3) := by decide +kernel
theorem d_X11_parts_63 : decode m_X11_parts.2.1 63 = .ok (.iload 7, 2) := by decide +kernel
theorem d_X11_parts_65 : decode m_X11_parts.2.1 65 = .ok (.iload 8, 2) := by decide +kernel
theorem d_X11_parts_67 : decode m_X11_parts.2.1 67 = .ok (.if_icmp .eq 66, 3) := by decide +kernel
theorem d_X11_parts_70 : decode m_X11_parts.2.1 70 = .ok (.iconst 1, 1) := by decide +kernel
theorem d_X11_parts_71 : decode m_X11_parts.2.1 71 = .ok (.ireturn, 1) := by decide +kernel
theorem d_X11_parts_72 : decode m_X11_parts.2.1 72 = .ok (.iload 7, 2) := by decide +kernel
theorem d_X11_parts_74 : decode m_X11_parts.2.1 74 = .ok (.ifCond .eq 59, 3) := by decide +kernel
theorem d_X11_parts_77 : decode m_X11_parts.2.1 77 = .ok (.iload 8, 2) := by decide +kernel
theorem d_X11_parts_79 : decode m_X11_parts.2.1 79 = .ok (.ifCond .ne 6, 3) := by decide +kernel
theorem d_X11_parts_82 : decode m_X11_parts.2.1 82 = .ok (.goto 51, 3) := by decide +kernel
theorem d_X11_parts_85 : decode m_X11_parts.2.1 85 = .ok (.aload_n 0, 1) := by decide +kernel
theorem d_X11_parts_86 : decode m_X11_parts.2.1 86 = .ok (.iconst 0, 1) := by decide +kernel
theorem d_X11_parts_87 : decode m_X11_parts.2.1 87 = .ok (.iload 5, 2) := by decide +kernel
theorem d_X11_parts_89 : decode m_X11_parts.2.1 89 = .ok (.iload 6, 2) := by decide +kernel
theorem d_X11_parts_91 : decode m_X11_parts.2.1 91 = .ok (.invokevirtual 266, 3) := by decide +kernel
theorem d_X11_parts_94 : decode m_X11_parts.2.1 94 = .ok (.aload_n 0, 1) := by decide +kernel
theorem d_X11_parts_95 : decode m_X11_parts.2.1 95 = .ok (.iconst 1, 1) := by decide +kernel
theorem d_X11_parts_96 : decode m_X11_parts.2.1 96 = .ok (.iload 5, 2) := by decide +kernel
theorem d_X11_parts_98 : decode m_X11_parts.2.1 98 = .ok (.iload 6, 2) := by decide +kernel
theorem d_X11_parts_100 : decode m_X11_parts.2.1 100 = .ok (.invokevirtual 266, 3) := by decide +kernel
theorem d_X11_parts_103 : decode m_X11_parts.2.1 103 = .ok (.aload_n 0, 1) := by decide +kernel
theorem d_X11_parts_104 : decode m_X11_parts.2.1 104 = .ok (.iload_n 1, 1) := by decide +kernel
theorem d_X11_parts_105 : decode m_X11_parts.2.1 105 = .ok (.iload_n 2, 1) := by decide +kernel
theorem d_X11_parts_106 : decode m_X11_parts.2.1 106 = .ok (.iload_n 3, 1) := by decide +kernel
theorem d_X11_parts_107 : decode m_X11_parts.2.1 107 = .ok (.iload 4, 2) := by decide +kernel
theorem d_X11_parts_109 : decode m_X11_parts.2.1 109 = .ok (.iconst 1, 1) := by decide +kernel
theorem d_X11_parts_110 : decode m_X11_parts.2.1 110 = .ok (.iadd, 1) := by decide +kernel
theorem d_X11_parts_111 : decode m_X11_parts.2.1 111 = .ok (.invokevirtual 386, 3) := by decide +kernel
theorem d_X11_parts_114 : decode m_X11_parts.2.1 114 = .ok (.istore 9, 2) := by decide +kernel
theorem d_X11_parts_116 : decode m_X11_parts.2.1 116 = .ok (.aload_n 0, 1) := by decide +kernel
theorem d_X11_parts_117 : decode m_X11_parts.2.1 117 = .ok (.iconst 0, 1) := by decide +kernel
theorem d_X11_parts_118 : decode m_X11_parts.2.1 118 = .ok (.invokevirtual 326, 3) := by decide +kernel
theorem d_X11_parts_121 : decode m_X11_parts.2.1 121 = .ok (.aload_n 0, 1) := by decide +kernel
theorem d_X11_parts_122 : decode m_X11_parts.2.1 122 = .ok (.iconst 1, 1) := by decide +kernel
theorem d_X11_parts_123 : decode m_X11_parts.2.1 123 = .ok (.invokevirtual 326, 3) := by decide +kernel
theorem d_X11_parts_126 : decode m_X11_parts.2.1 126 = .ok (.iload 9, 2) := by decide +kernel
theorem d_X11_parts_128 : decode m_X11_parts.2.1 128 = .ok (.ifCond .eq 5, 3) := by decide +kernel
theorem d_X11_parts_131 : decode m_X11_parts.2.1 131 = .ok (.iconst 1, 1) := by decide +kernel
theorem d_X11_parts_132 : decode m_X11_parts.2.1 132 = .ok (.ireturn, 1) := by decide +kernel
theorem d_X11_parts_133 : decode m_X11_parts.2.1 133 = .ok (.iinc 6 1, 3) := by decide +kernel
theorem d_X11_parts_136 : decode m_X11_parts.2.1 136 = .ok (.goto (-124), 3) := by decide +kernel
theorem d_X11_parts_139 : decode m_X11_parts.2.1 139 = .ok (.iinc 5 1, 3) := by decide +kernel
theorem d_X11_parts_142 : decode m_X11_parts.2.1 142 = .ok (.goto (-139), 3) := by decide +kernel
theorem d_X11_parts_145 : decode m_X11_parts.2.1 145 = .ok (.iconst 0, 1) := by decide +kernel
theorem d_X11_parts_146 : decode m_X11_parts.2.1 146 = .ok (.ireturn, 1) := by decide +kernel
set_option maxRecDepth 20000 in
theorem e_X11_parts {E : jm_E} {d : Nat} {μ : jm_M} {Q : Option jm_V → jm_M → Prop} {v1 v2 v3 v4 : Int} (h : (∀ v ∈ ([jm_R 133, jm_I v1, jm_I v2, jm_I v3, jm_I v4] : List jm_V), jm_ok v) →
  jg E m_X11_parts d 3 [some (jm_R 133), some (jm_I v1), some (jm_I v2), some (jm_I v3), some (jm_I v4), some (jm_I 0), none, none, none, none] [] μ Q) : jc E m_X11_parts (d + 1) [jm_R 133, jm_I v1, jm_I v2, jm_I v3, jm_I v4] μ Q := by
  refine jm_Cl.of2 (by decide +kernel) (L0 := [some (jm_R 133), some (jm_I v1), some (jm_I v2), some (jm_I v3), some (jm_I v4), none, none, none, none, none]) rfl (Nat.le_of_ble_eq_true rfl) (fun hok => ?_)
  have h := h hok
  refine jm_iconst (v := 0) d_X11_parts_0 rfl (jm_okI (by decide) (by decide)) ?_
  refine jm_istore (L' := [some (jm_R _), some (jm_I _), some (jm_I _), some (jm_I _), some (jm_I _), some (jm_I _), none, none, none, none]) d_X11_parts_1 (Nat.le_of_ble_eq_true rfl) rfl ?_
  exact h
set_option maxRecDepth 20000 in
theorem r_X11_parts_3 {E : jm_E} {d : Nat} {μ : jm_M} {Q : Option jm_V → jm_M → Prop} {v1 v2 v3 v4 v5 : Int} (h :
  ((v1 ≤ v5 →
    Q (some (jm_I 0)) μ) ∧
   (¬ (v1 ≤ v5) →
    jg E m_X11_parts d 12 [some (jm_R 133), some (jm_I v1), some (jm_I v2), some (jm_I v3), some (jm_I v4), some (jm_I v5), some (jm_I 0), none, none, none] [] μ Q))) : jg E m_X11_parts d 3 [some (jm_R 133), some (jm_I v1), some (jm_I v2), some (jm_I v3), some (jm_I v4), some (jm_I v5), none, none, none, none] [] μ Q := by
  refine jm_iload d_X11_parts_3 rfl ?_
  refine jm_iloadn d_X11_parts_5 rfl ?_
  refine jm_icmp_ge (tgt := 145) d_X11_parts_6 (by decide) (fun c1 => ?_) (fun c1 => ?_)
  · have h := h.1 c1
    refine jm_iconst (v := 0) d_X11_parts_145 rfl (jm_okI (by decide) (by decide)) ?_
    exact jm_ret (o := some (jm_I _)) d_X11_parts_146 rfl ⟨Nat.le_refl _, Nat.le_refl _⟩ (jm_r_Z (by decide)) h rfl
  · have h := h.2 c1
    refine jm_iconst (v := 0) d_X11_parts_9 rfl (jm_okI (by decide) (by decide)) ?_
    refine jm_istore (L' := [some (jm_R _), some (jm_I _), some (jm_I _), some (jm_I _), some (jm_I _), some (jm_I _), some (jm_I _), none, none, none]) d_X11_parts_10 (Nat.le_of_ble_eq_true rfl) rfl ?_
    exact h
set_option maxRecDepth 20000 in
theorem r_X11_parts_12 {E : jm_E} {d : Nat} {μ : jm_M} {Q : Option jm_V → jm_M → Prop} {v1 v2 v3 v4 v5 v6 : Int} (h :
  ((v2 ≤ v6 →
    jg E m_X11_parts d 3 [some (jm_R 133), some (jm_I v1), some (jm_I v2), some (jm_I v3), some (jm_I v4), some (jm_I (jm_wr (v5 + 1))), none, none, none, none] [] μ Q) ∧
   (¬ (v2 ≤ v6) →
    jc E m_X11_mayBeSaid d [jm_R 133, jm_I 0, jm_I v5, jm_I v6] μ (fun (o : Option jm_V) (m2 : jm_M) => ∀ r3 : Int, o = some (jm_I r3) → (r3 = 0 ∨ r3 = 1) →
    jc E m_X11_mayBeSaid d [jm_R 133, jm_I 1, jm_I v5, jm_I v6] m2 (fun (o : Option jm_V) (m5 : jm_M) => ∀ r6 : Int, o = some (jm_I r6) → (r6 = 0 ∨ r6 = 1) →
    (0 ≤ v4 ∧ v4 < 8) ∧
    ∀ m9 : jm_M, m9 = (jm_up m5 161 v4 (jm_wr ((jm_wr (16 * v5)) + v6))) →
    ((v4 ≠ (jm_wr (v3 - 1)) →
      ((r3 = 0 →
        jg E m_X11_parts d 12 [some (jm_R 133), some (jm_I v1), some (jm_I v2), some (jm_I v3), some (jm_I v4), some (jm_I v5), some (jm_I (jm_wr (v6 + 1))), none, none, none] [] m9 Q) ∧
       (¬ (r3 = 0) →
        ((r6 ≠ 0 →
          jc E m_X11_push d [jm_R 133, jm_I 0, jm_I v5, jm_I v6] m9 (fun (o : Option jm_V) (m13 : jm_M) => o = none →
          jc E m_X11_push d [jm_R 133, jm_I 1, jm_I v5, jm_I v6] m13 (fun (o : Option jm_V) (m14 : jm_M) => o = none →
          jc E m_X11_parts d [jm_R 133, jm_I v1, jm_I v2, jm_I v3, jm_I (jm_wr (v4 + 1))] m14 (fun (o : Option jm_V) (m15 : jm_M) => ∀ r16 : Int, o = some (jm_I r16) → (r16 = 0 ∨ r16 = 1) →
          jc E m_X11_pop d [jm_R 133, jm_I 0] m15 (fun (o : Option jm_V) (m18 : jm_M) => o = none →
          jc E m_X11_pop d [jm_R 133, jm_I 1] m18 (fun (o : Option jm_V) (m19 : jm_M) => o = none →
          ((r16 = 0 →
            jg E m_X11_parts d 12 [some (jm_R 133), some (jm_I v1), some (jm_I v2), some (jm_I v3), some (jm_I v4), some (jm_I v5), some (jm_I (jm_wr (v6 + 1))), none, none, none] [] m19 Q) ∧
           (¬ (r16 = 0) →
            Q (some (jm_I 1)) m19)))))))) ∧
         (¬ (r6 ≠ 0) →
          jg E m_X11_parts d 12 [some (jm_R 133), some (jm_I v1), some (jm_I v2), some (jm_I v3), some (jm_I v4), some (jm_I v5), some (jm_I (jm_wr (v6 + 1))), none, none, none] [] m9 Q))))) ∧
     (¬ (v4 ≠ (jm_wr (v3 - 1))) →
      ((r3 = r6 →
        jg E m_X11_parts d 12 [some (jm_R 133), some (jm_I v1), some (jm_I v2), some (jm_I v3), some (jm_I v4), some (jm_I v5), some (jm_I (jm_wr (v6 + 1))), none, none, none] [] m9 Q) ∧
       (¬ (r3 = r6) →
        Q (some (jm_I 1)) m9))))))))) : jg E m_X11_parts d 12 [some (jm_R 133), some (jm_I v1), some (jm_I v2), some (jm_I v3), some (jm_I v4), some (jm_I v5), some (jm_I v6), none, none, none] [] μ Q := by
  refine jm_iload d_X11_parts_12 rfl ?_
  refine jm_iloadn d_X11_parts_14 rfl ?_
  refine jm_icmp_ge (tgt := 139) d_X11_parts_15 (by decide) (fun c1 => ?_) (fun c1 => ?_)
  · have h := h.1 c1
    refine jm_iinc (L' := [some (jm_R _), some (jm_I _), some (jm_I _), some (jm_I _), some (jm_I _), some (jm_I _), some (jm_I _), none, none, none]) d_X11_parts_139 rfl rfl (Nat.le_of_ble_eq_true rfl) rfl ?_
    refine jm_goto (tgt := 3) d_X11_parts_142 (by decide) ?_
    exact jm_weak2 h (And.intro rfl (And.intro rfl (And.intro rfl (And.intro rfl (And.intro rfl (And.intro rfl trivial))))))
  · have h := h.2 c1
    refine jm_aloadn d_X11_parts_18 rfl ?_
    refine jm_iconst (v := 0) d_X11_parts_19 rfl (jm_okI (by decide) (by decide)) ?_
    refine jm_iload d_X11_parts_20 rfl ?_
    refine jm_iload d_X11_parts_22 rfl ?_
    refine jm_invV (n1 := jm_N) (mc := 0) (ms := 0) (av := [jm_I _, jm_I _, jm_I _]) w_X11_mayBeSaid l_X11_383 d_X11_parts_24 rfl is_133 ⟨_, _, rfl⟩ ⟨Nat.le_refl _, Nat.le_refl _⟩ (Nat.le_of_ble_eq_true rfl) rfl ?_
    refine jm_Cl.mono h (fun o m2 h hr _ => ?_)
    obtain ⟨r3, rfl, z4⟩ := jm_rokZ hr
    have h := h _ rfl z4
    refine jm_istore (L' := [some (jm_R _), some (jm_I _), some (jm_I _), some (jm_I _), some (jm_I _), some (jm_I _), some (jm_I _), some (jm_I _), none, none]) d_X11_parts_27 (Nat.le_of_ble_eq_true rfl) rfl ?_
    refine jm_aloadn d_X11_parts_29 rfl ?_
    refine jm_iconst (v := 1) d_X11_parts_30 rfl (jm_okI (by decide) (by decide)) ?_
    refine jm_iload d_X11_parts_31 rfl ?_
    refine jm_iload d_X11_parts_33 rfl ?_
    refine jm_invV (n1 := jm_N) (mc := 0) (ms := 0) (av := [jm_I _, jm_I _, jm_I _]) w_X11_mayBeSaid l_X11_383 d_X11_parts_35 rfl is_133 ⟨_, _, rfl⟩ ⟨Nat.le_refl _, Nat.le_refl _⟩ (Nat.le_of_ble_eq_true rfl) rfl ?_
    refine jm_Cl.mono h (fun o m5 h hr _ => ?_)
    obtain ⟨r6, rfl, z7⟩ := jm_rokZ hr
    have h := h _ rfl z7
    refine jm_istore (L' := [some (jm_R _), some (jm_I _), some (jm_I _), some (jm_I _), some (jm_I _), some (jm_I _), some (jm_I _), some (jm_I _), some (jm_I _), none]) d_X11_parts_38 (Nat.le_of_ble_eq_true rfl) rfl ?_
    refine jm_aloadn d_X11_parts_40 rfl ?_
    refine jm_getF (k := 50) (ki := 50) rfl cf_X11 (Nat.le_of_ble_eq_true rfl) f_X11_97 d_X11_parts_41 rfl rfl is_133 fr_133_50 ?_
    refine jm_iload d_X11_parts_44 rfl ?_
    refine jm_bipush (v := 16) d_X11_parts_46 rfl (jm_okI (by decide) (by decide)) ?_
    refine jm_iload d_X11_parts_48 rfl ?_
    refine jm_imul d_X11_parts_50 ?_
    refine jm_iload d_X11_parts_51 rfl ?_
    refine jm_iadd d_X11_parts_53 ?_
    obtain ⟨f8, h⟩ := h
    refine jm_iastore d_X11_parts_54 (ixl_161 f8.1 f8.2) ?_
    have h := h _ rfl
    refine jm_iload d_X11_parts_55 rfl ?_
    refine jm_iloadn d_X11_parts_57 rfl ?_
    refine jm_iconst (v := 1) d_X11_parts_58 rfl (jm_okI (by decide) (by decide)) ?_
    refine jm_isub d_X11_parts_59 ?_
    refine jm_icmp_ne (tgt := 72) d_X11_parts_60 (by decide) (fun c10 => ?_) (fun c10 => ?_)
    · have h := h.1 c10
      refine jm_iload d_X11_parts_72 rfl ?_
      refine jm_if_eq (tgt := 133) d_X11_parts_74 (by decide) (fun c11 => ?_) (fun c11 => ?_)
      · have h := h.1 c11
        refine jm_iinc (L' := [some (jm_R _), some (jm_I _), some (jm_I _), some (jm_I _), some (jm_I _), some (jm_I _), some (jm_I _), some (jm_I _), some (jm_I _), none]) d_X11_parts_133 rfl rfl (Nat.le_of_ble_eq_true rfl) rfl ?_
        refine jm_goto (tgt := 12) d_X11_parts_136 (by decide) ?_
        exact jm_weak2 h (And.intro rfl (And.intro rfl (And.intro rfl (And.intro rfl (And.intro rfl (And.intro rfl (And.intro rfl trivial)))))))
      · have h := h.2 c11
        refine jm_iload d_X11_parts_77 rfl ?_
        refine jm_if_ne (tgt := 85) d_X11_parts_79 (by decide) (fun c12 => ?_) (fun c12 => ?_)
        · have h := h.1 c12
          refine jm_aloadn d_X11_parts_85 rfl ?_
          refine jm_iconst (v := 0) d_X11_parts_86 rfl (jm_okI (by decide) (by decide)) ?_
          refine jm_iload d_X11_parts_87 rfl ?_
          refine jm_iload d_X11_parts_89 rfl ?_
          refine jm_invV (n1 := jm_N) (mc := 0) (ms := 0) (av := [jm_I _, jm_I _, jm_I _]) w_X11_push l_X11_266 d_X11_parts_91 rfl is_133 ⟨_, _, rfl⟩ ⟨Nat.le_refl _, Nat.le_refl _⟩ (Nat.le_of_ble_eq_true rfl) rfl ?_
          refine jm_Cl.mono h (fun o m13 h hr _ => ?_)
          obtain rfl := jm_rokV hr
          have h := h rfl
          refine jm_aloadn d_X11_parts_94 rfl ?_
          refine jm_iconst (v := 1) d_X11_parts_95 rfl (jm_okI (by decide) (by decide)) ?_
          refine jm_iload d_X11_parts_96 rfl ?_
          refine jm_iload d_X11_parts_98 rfl ?_
          refine jm_invV (n1 := jm_N) (mc := 0) (ms := 0) (av := [jm_I _, jm_I _, jm_I _]) w_X11_push l_X11_266 d_X11_parts_100 rfl is_133 ⟨_, _, rfl⟩ ⟨Nat.le_refl _, Nat.le_refl _⟩ (Nat.le_of_ble_eq_true rfl) rfl ?_
          refine jm_Cl.mono h (fun o m14 h hr _ => ?_)
          obtain rfl := jm_rokV hr
          have h := h rfl
          refine jm_aloadn d_X11_parts_103 rfl ?_
          refine jm_iloadn d_X11_parts_104 rfl ?_
          refine jm_iloadn d_X11_parts_105 rfl ?_
          refine jm_iloadn d_X11_parts_106 rfl ?_
          refine jm_iload d_X11_parts_107 rfl ?_
          refine jm_iconst (v := 1) d_X11_parts_109 rfl (jm_okI (by decide) (by decide)) ?_
          refine jm_iadd d_X11_parts_110 ?_
          refine jm_invV (n1 := jm_N) (mc := 0) (ms := 0) (av := [jm_I _, jm_I _, jm_I _, jm_I _]) w_X11_parts l_X11_386 d_X11_parts_111 rfl is_133 ⟨_, _, rfl⟩ ⟨Nat.le_refl _, Nat.le_refl _⟩ (Nat.le_of_ble_eq_true rfl) rfl ?_
          refine jm_Cl.mono h (fun o m15 h hr _ => ?_)
          obtain ⟨r16, rfl, z17⟩ := jm_rokZ hr
          have h := h _ rfl z17
          refine jm_istore (L' := [some (jm_R _), some (jm_I _), some (jm_I _), some (jm_I _), some (jm_I _), some (jm_I _), some (jm_I _), some (jm_I _), some (jm_I _), some (jm_I _)]) d_X11_parts_114 (Nat.le_of_ble_eq_true rfl) rfl ?_
          refine jm_aloadn d_X11_parts_116 rfl ?_
          refine jm_iconst (v := 0) d_X11_parts_117 rfl (jm_okI (by decide) (by decide)) ?_
          refine jm_invV (n1 := jm_N) (mc := 0) (ms := 0) (av := [jm_I _]) w_X11_pop l_X11_326 d_X11_parts_118 rfl is_133 ⟨_, _, rfl⟩ ⟨Nat.le_refl _, Nat.le_refl _⟩ (Nat.le_of_ble_eq_true rfl) rfl ?_
          refine jm_Cl.mono h (fun o m18 h hr _ => ?_)
          obtain rfl := jm_rokV hr
          have h := h rfl
          refine jm_aloadn d_X11_parts_121 rfl ?_
          refine jm_iconst (v := 1) d_X11_parts_122 rfl (jm_okI (by decide) (by decide)) ?_
          refine jm_invV (n1 := jm_N) (mc := 0) (ms := 0) (av := [jm_I _]) w_X11_pop l_X11_326 d_X11_parts_123 rfl is_133 ⟨_, _, rfl⟩ ⟨Nat.le_refl _, Nat.le_refl _⟩ (Nat.le_of_ble_eq_true rfl) rfl ?_
          refine jm_Cl.mono h (fun o m19 h hr _ => ?_)
          obtain rfl := jm_rokV hr
          have h := h rfl
          refine jm_iload d_X11_parts_126 rfl ?_
          refine jm_if_eq (tgt := 133) d_X11_parts_128 (by decide) (fun c20 => ?_) (fun c20 => ?_)
          · have h := h.1 c20
            refine jm_iinc (L' := [some (jm_R _), some (jm_I _), some (jm_I _), some (jm_I _), some (jm_I _), some (jm_I _), some (jm_I _), some (jm_I _), some (jm_I _), some (jm_I _)]) d_X11_parts_133 rfl rfl (Nat.le_of_ble_eq_true rfl) rfl ?_
            refine jm_goto (tgt := 12) d_X11_parts_136 (by decide) ?_
            exact jm_weak2 h (And.intro rfl (And.intro rfl (And.intro rfl (And.intro rfl (And.intro rfl (And.intro rfl (And.intro rfl trivial)))))))
          · have h := h.2 c20
            refine jm_iconst (v := 1) d_X11_parts_131 rfl (jm_okI (by decide) (by decide)) ?_
            exact jm_ret (o := some (jm_I _)) d_X11_parts_132 rfl ⟨Nat.le_refl _, Nat.le_refl _⟩ (jm_r_Z (by decide)) h rfl
        · have h := h.2 c12
          refine jm_goto (tgt := 133) d_X11_parts_82 (by decide) ?_
          refine jm_iinc (L' := [some (jm_R _), some (jm_I _), some (jm_I _), some (jm_I _), some (jm_I _), some (jm_I _), some (jm_I _), some (jm_I _), some (jm_I _), none]) d_X11_parts_133 rfl rfl (Nat.le_of_ble_eq_true rfl) rfl ?_
          refine jm_goto (tgt := 12) d_X11_parts_136 (by decide) ?_
          exact jm_weak2 h (And.intro rfl (And.intro rfl (And.intro rfl (And.intro rfl (And.intro rfl (And.intro rfl (And.intro rfl trivial)))))))
    · have h := h.2 c10
      refine jm_iload d_X11_parts_63 rfl ?_
      refine jm_iload d_X11_parts_65 rfl ?_
      refine jm_icmp_eq (tgt := 133) d_X11_parts_67 (by decide) (fun c21 => ?_) (fun c21 => ?_)
      · have h := h.1 c21
        refine jm_iinc (L' := [some (jm_R _), some (jm_I _), some (jm_I _), some (jm_I _), some (jm_I _), some (jm_I _), some (jm_I _), some (jm_I _), some (jm_I _), none]) d_X11_parts_133 rfl rfl (Nat.le_of_ble_eq_true rfl) rfl ?_
        refine jm_goto (tgt := 12) d_X11_parts_136 (by decide) ?_
        exact jm_weak2 h (And.intro rfl (And.intro rfl (And.intro rfl (And.intro rfl (And.intro rfl (And.intro rfl (And.intro rfl trivial)))))))
      · have h := h.2 c21
        refine jm_iconst (v := 1) d_X11_parts_70 rfl (jm_okI (by decide) (by decide)) ?_
        exact jm_ret (o := some (jm_I _)) d_X11_parts_71 rfl ⟨Nat.le_refl _, Nat.le_refl _⟩ (jm_r_Z (by decide)) h rfl
