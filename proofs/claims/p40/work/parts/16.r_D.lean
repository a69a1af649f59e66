-- X4_init: by hand (objinit)
/-! ('CombTable$Sentence', 'clear', '()V') -/
theorem d_X4_clear_0 : decode m_X4_clear.2.1 0 = .ok (.aload_n 0, 1) := by decide +kernel
theorem d_X4_clear_1 : decode m_X4_clear.2.1 1 = .ok (.iconst 0, 1) := by decide +kernel
theorem d_X4_clear_2 : decode m_X4_clear.2.1 2 = .ok (.putfield 21, 3) := by decide +kernel
theorem d_X4_clear_5 : decode m_X4_clear.2.1 5 = .ok (.aload_n 0, 1) := by decide +kernel
theorem d_X4_clear_6 : decode m_X4_clear.2.1 6 = .ok (.iconst 0, 1) := by decide +kernel
theorem d_X4_clear_7 : decode m_X4_clear.2.1 7 = .ok (.putfield 25, 3) := by decide +kernel
theorem d_X4_clear_10 : decode m_X4_clear.2.1 10 = .ok (.return_, 1) := by decide +kernel
set_option maxRecDepth 20000 in
theorem e_X4_clear {E : jm_E} {d : Nat} {μ : jm_M} {Q : Option jm_V → jm_M → Prop} {v0 : Int} (h : (∀ v ∈ ([jm_R v0] : List jm_V), jm_ok v) →
  (jm_is jm_N v0 1 4) ∧
  Q none (jm_up (jm_up μ v0 0 0) v0 1 0)) : jc E m_X4_clear (d + 1) [jm_R v0] μ Q := by
  refine jm_Cl.of2 (by decide +kernel) (L0 := [some (jm_R v0)]) rfl (Nat.le_of_ble_eq_true rfl) (fun hok => ?_)
  have h := h hok
  refine jm_aloadn d_X4_clear_0 rfl ?_
  refine jm_iconst (v := 0) d_X4_clear_1 rfl (jm_okI (by decide) (by decide)) ?_
  obtain ⟨f1, h⟩ := h
  refine jm_putI (k := 0) (ki := 0) cf_X4 (Nat.le_of_ble_eq_true rfl) f_X4_21 d_X4_clear_2 (fun z => absurd z (by decide)) rfl rfl rfl (fun _ => rfl) f1 ?_
  refine jm_aloadn d_X4_clear_5 rfl ?_
  refine jm_iconst (v := 0) d_X4_clear_6 rfl (jm_okI (by decide) (by decide)) ?_
  refine jm_putI (k := 1) (ki := 1) cf_X4 (Nat.le_of_ble_eq_true rfl) f_X4_25 d_X4_clear_7 (fun z => absurd z (by decide)) rfl rfl rfl (fun _ => rfl) f1 ?_
  exact jm_ret (o := none) d_X4_clear_10 rfl ⟨Nat.le_refl _, Nat.le_refl _⟩ jm_r_V h rfl
/-! ('CombTable$Sentence', 'holds', '(LCombTable$Talk;I)Z') -/
theorem d_X4_holds_0 : decode m_X4_holds.2.1 0 = .ok (.iconst 0, 1) := by decide +kernel
theorem d_X4_holds_1 : decode m_X4_holds.2.1 1 = .ok (.istore_n 3, 1) := by decide +kernel
theorem d_X4_holds_2 : decode m_X4_holds.2.1 2 = .ok (.iconst 0, 1) := by decide +kernel
theorem d_X4_holds_3 : decode m_X4_holds.2.1 3 = .ok (.istore 4, 2) := by decide +kernel
theorem d_X4_holds_5 : decode m_X4_holds.2.1 5 = .ok (.iload 4, 2) := by decide +kernel
theorem d_X4_holds_7 : decode m_X4_holds.2.1 7 = .ok (.aload_n 0, 1) := by decide +kernel
theorem d_X4_holds_8 : decode m_X4_holds.2.1 8 = .ok (.getfield 25, 3) := by decide +kernel
theorem d_X4_holds_11 : decode m_X4_holds.2.1 11 = .ok (.if_icmp .ge 104, 3) := by decide +kernel
theorem d_X4_holds_14 : decode m_X4_holds.2.1 14 = .ok (.iload 4, 2) := by decide +kernel
theorem d_X4_holds_16 : decode m_X4_holds.2.1 16 = .ok (.bipush 64, 2) := by decide +kernel
theorem d_X4_holds_18 : decode m_X4_holds.2.1 18 = .ok (.if_icmp .ge 97, 3) := by decide +kernel
theorem d_X4_holds_21 : decode m_X4_holds.2.1 21 = .ok (.iload_n 3, 1) := by decide +kernel
theorem d_X4_holds_22 : decode m_X4_holds.2.1 22 = .ok (.iconst 1, 1) := by decide +kernel
theorem d_X4_holds_23 : decode m_X4_holds.2.1 23 = .ok (.iand, 1) := by decide +kernel
theorem d_X4_holds_24 : decode m_X4_holds.2.1 24 = .ok (.istore 5, 2) := by decide +kernel
theorem d_X4_holds_26 : decode m_X4_holds.2.1 26 = .ok (.aload_n 0, 1) := by decide +kernel
theorem d_X4_holds_27 : decode m_X4_holds.2.1 27 = .ok (.getfield 11, 3) := by decide +kernel
theorem d_X4_holds_30 : decode m_X4_holds.2.1 30 = .ok (.iload 4, 2) := by decide +kernel
theorem d_X4_holds_32 : decode m_X4_holds.2.1 32 = .ok (.iaload, 1) := by decide +kernel
theorem d_X4_holds_33 : decode m_X4_holds.2.1 33 = .ok (.ifCond .ne 10, 3) := by decide +kernel
theorem d_X4_holds_36 : decode m_X4_holds.2.1 36 = .ok (.iload_n 3, 1) := by decide +kernel
theorem d_X4_holds_37 : decode m_X4_holds.2.1 37 = .ok (.iconst 1, 1) := by decide +kernel
theorem d_X4_holds_38 : decode m_X4_holds.2.1 38 = .ok (.ixor, 1) := by decide +kernel
theorem d_X4_holds_39 : decode m_X4_holds.2.1 39 = .ok (.istore_n 3, 1) := by decide +kernel
theorem d_X4_holds_40 : decode m_X4_holds.2.1 40 = .ok (.goto 69, 3) := by decide +kernel
theorem d_X4_holds_43 : decode m_X4_holds.2.1 43 = .ok (.aload_n 0, 1) := by decide +kernel
theorem d_X4_holds_44 : decode m_X4_holds.2.1 44 = .ok (.getfield 11, 3) := by decide +kernel
theorem d_X4_holds_47 : decode m_X4_holds.2.1 47 = .ok (.iload 4, 2) := by decide +kernel
theorem d_X4_holds_49 : decode m_X4_holds.2.1 49 = .ok (.iaload, 1) := by decide +kernel
theorem d_X4_holds_50 : decode m_X4_holds.2.1 50 = .ok (.iconst 1, 1) := by decide +kernel
theorem d_X4_holds_51 : decode m_X4_holds.2.1 51 = .ok (.if_icmp .ne 16, 3) := by decide +kernel
theorem d_X4_holds_54 : decode m_X4_holds.2.1 54 = .ok (.iload_n 3, 1) := by decide +kernel
theorem d_X4_holds_55 : decode m_X4_holds.2.1 55 = .ok (.iconst 1, 1) := by decide +kernel
theorem d_X4_holds_56 : decode m_X4_holds.2.1 56 = .ok (.iushr, 1) := by decide +kernel
theorem d_X4_holds_57 : decode m_X4_holds.2.1 57 = .ok (.bipush (-2), 2) := by decide +kernel
theorem d_X4_holds_59 : decode m_X4_holds.2.1 59 = .ok (.iload 5, 2) := by decide +kernel
theorem d_X4_holds_61 : decode m_X4_holds.2.1 61 = .ok (.ior, 1) := by decide +kernel
theorem d_X4_holds_62 : decode m_X4_holds.2.1 62 = .ok (.iand, 1) := by decide +kernel
theorem d_X4_holds_63 : decode m_X4_holds.2.1 63 = .ok (.istore_n 3, 1) := by decide +kernel
theorem d_X4_holds_64 : decode m_X4_holds.2.1 64 = .ok (.goto 45, 3) := by decide +kernel
theorem d_X4_holds_67 : decode m_X4_holds.2.1 67 = .ok (.aload_n 0, 1) := by decide +kernel
theorem d_X4_holds_68 : decode m_X4_holds.2.1 68 = .ok (.getfield 11, 3) := by decide +kernel
theorem d_X4_holds_71 : decode m_X4_holds.2.1 71 = .ok (.iload 4, 2) := by decide +kernel
theorem d_X4_holds_73 : decode m_X4_holds.2.1 73 = .ok (.iaload, 1) := by decide +kernel
theorem d_X4_holds_74 : decode m_X4_holds.2.1 74 = .ok (.iconst 2, 1) := by decide +kernel
theorem d_X4_holds_75 : decode m_X4_holds.2.1 75 = .ok (.if_icmp .ne 13, 3) := by decide +kernel
theorem d_X4_holds_78 : decode m_X4_holds.2.1 78 = .ok (.iload_n 3, 1) := by decide +kernel
theorem d_X4_holds_79 : decode m_X4_holds.2.1 79 = .ok (.iconst 1, 1) := by decide +kernel
theorem d_X4_holds_80 : decode m_X4_holds.2.1 80 = .ok (.iushr, 1) := by decide +kernel
theorem d_X4_holds_81 : decode m_X4_holds.2.1 81 = .ok (.iload 5, 2) := by decide +kernel
theorem d_X4_holds_83 : decode m_X4_holds.2.1 83 = .ok (.ior, 1) := by decide +kernel
theorem d_X4_holds_84 : decode m_X4_holds.2.1 84 = .ok (.istore_n 3, 1) := by decide +kernel
theorem d_X4_holds_85 : decode m_X4_holds.2.1 85 = .ok (.goto 24, 3) := by decide +kernel
theorem d_X4_holds_88 : decode m_X4_holds.2.1 88 = .ok (.iload_n 3, 1) := by decide +kernel
theorem d_X4_holds_89 : decode m_X4_holds.2.1 89 = .ok (.iconst 1, 1) := by decide +kernel
theorem d_X4_holds_90 : decode m_X4_holds.2.1 90 = .ok (.ishl, 1) := by decide +kernel
theorem d_X4_holds_91 : decode m_X4_holds.2.1 91 = .ok (.aload_n 0, 1) := by decide +kernel
theorem d_X4_holds_92 : decode m_X4_holds.2.1 92 = .ok (.aload_n 1, 1) := by decide +kernel
theorem d_X4_holds_93 : decode m_X4_holds.2.1 93 = .ok (.iload_n 2, 1) := by decide +kernel
theorem d_X4_holds_94 : decode m_X4_holds.2.1 94 = .ok (.iload 4, 2) := by decide +kernel
theorem d_X4_holds_96 : decode m_X4_holds.2.1 96 = .ok (.invokevirtual 34, 3) := by decide +kernel
theorem d_X4_holds_99 : decode m_X4_holds.2.1 99 = .ok (.ifCond .eq 7, 3) := by decide +kernel
theorem d_X4_holds_102 : decode m_X4_holds.2.1 102 = .ok (.iconst 1, 1) := by decide +kernel
theorem d_X4_holds_103 : decode m_X4_holds.2.1 103 = .ok (.goto 4, 3) := by decide +kernel
theorem d_X4_holds_106 : decode m_X4_holds.2.1 106 = .ok (.iconst 0, 1) := by decide +kernel
theorem d_X4_holds_107 : decode m_X4_holds.2.1 107 = .ok (.ior, 1) := by decide +kernel
theorem d_X4_holds_108 : decode m_X4_holds.2.1 108 = .ok (.istore_n 3, 1) := by decide +kernel
theorem d_X4_holds_109 : decode m_X4_holds.2.1 109 = .ok (.iinc 4 1, 3) := by decide +kernel
theorem d_X4_holds_112 : decode m_X4_holds.2.1 112 = .ok (.goto (-107), 3) := by decide +kernel
theorem d_X4_holds_115 : decode m_X4_holds.2.1 115 = .ok (.iload_n 3, 1) := by decide +kernel
theorem d_X4_holds_116 : decode m_X4_holds.2.1 116 = .ok (.iconst 1, 1) := by decide +kernel
theorem d_X4_holds_117 : decode m_X4_holds.2.1 117 = .ok (.iand, 1) := by decide +kernel
theorem d_X4_holds_118 : decode m_X4_holds.2.1 118 = .ok (.ifCond .eq 7, 3) := by decide +kernel
theorem d_X4_holds_121 : decode m_X4_holds.2.1 121 = .ok (.iconst 1, 1) := by decide +kernel
theorem d_X4_holds_122 : decode m_X4_holds.2.1 122 = .ok (.goto 4, 3) := by decide +kernel
theorem d_X4_holds_125 : decode m_X4_holds.2.1 125 = .ok (.iconst 0, 1) := by decide +kernel
theorem d_X4_holds_126 : decode m_X4_holds.2.1 126 = .ok (.ireturn, 1) := by decide +kernel
set_option maxRecDepth 20000 in
theorem e_X4_holds {E : jm_E} {d : Nat} {μ : jm_M} {Q : Option jm_V → jm_M → Prop} {v0 v1 v2 : Int} (h : (∀ v ∈ ([jm_R v0, jm_R v1, jm_I v2] : List jm_V), jm_ok v) →
  jg E m_X4_holds d 5 [some (jm_R v0), some (jm_R v1), some (jm_I v2), some (jm_I 0), some (jm_I 0), none] [] μ Q) : jc E m_X4_holds (d + 1) [jm_R v0, jm_R v1, jm_I v2] μ Q := by
  refine jm_Cl.of2 (by decide +kernel) (L0 := [some (jm_R v0), some (jm_R v1), some (jm_I v2), none, none, none]) rfl (Nat.le_of_ble_eq_true rfl) (fun hok => ?_)
  have h := h hok
  refine jm_iconst (v := 0) d_X4_holds_0 rfl (jm_okI (by decide) (by decide)) ?_
  refine jm_istoren (L' := [some (jm_R _), some (jm_R _), some (jm_I _), some (jm_I _), none, none]) d_X4_holds_1 (Nat.le_of_ble_eq_true rfl) rfl ?_
  refine jm_iconst (v := 0) d_X4_holds_2 rfl (jm_okI (by decide) (by decide)) ?_
  refine jm_istore (L' := [some (jm_R _), some (jm_R _), some (jm_I _), some (jm_I _), some (jm_I _), none]) d_X4_holds_3 (Nat.le_of_ble_eq_true rfl) rfl ?_
  exact h
set_option maxRecDepth 20000 in
theorem r_X4_holds_5 {E : jm_E} {d : Nat} {μ : jm_M} {Q : Option jm_V → jm_M → Prop} {v0 v1 v2 v3 v4 : Int} (h :
  (jm_is jm_N v0 1 4) ∧
  ((μ v0 1 ≤ v4 →
    ((jm_and v3 1 = 0 →
      Q (some (jm_I 0)) μ) ∧
     (¬ (jm_and v3 1 = 0) →
      Q (some (jm_I 1)) μ))) ∧
   (¬ (μ v0 1 ≤ v4) →
    ((64 ≤ v4 →
      ((jm_and v3 1 = 0 →
        Q (some (jm_I 0)) μ) ∧
       (¬ (jm_and v3 1 = 0) →
        Q (some (jm_I 1)) μ))) ∧
     (¬ (64 ≤ v4) →
      ∀ x6 : Int, x6 = jm_and v3 1 →
      (0 ≤ v4 ∧ v4 < 64) ∧
      (((μ ((v0 + 1)) v4) ≠ 0 →
        (((μ ((v0 + 1)) v4) ≠ 1 →
          (((μ ((v0 + 1)) v4) ≠ 2 →
            jc E m_X4_isSo d [jm_R v0, jm_R v1, jm_I v2, jm_I v4] μ (fun (o : Option jm_V) (m11 : jm_M) => ∀ r12 : Int, o = some (jm_I r12) → (r12 = 0 ∨ r12 = 1) →
            ((r12 = 0 →
              ∀ x15 : Int, x15 = jm_or (jm_shl v3 1) 0 →
              jg E m_X4_holds d 5 [some (jm_R v0), some (jm_R v1), some (jm_I v2), some (jm_I x15), some (jm_I (jm_wr (v4 + 1))), none] [] m11 Q) ∧
             (¬ (r12 = 0) →
              ∀ x16 : Int, x16 = jm_or (jm_shl v3 1) 1 →
              jg E m_X4_holds d 5 [some (jm_R v0), some (jm_R v1), some (jm_I v2), some (jm_I x16), some (jm_I (jm_wr (v4 + 1))), none] [] m11 Q)))) ∧
           (¬ ((μ ((v0 + 1)) v4) ≠ 2) →
            ∀ x17 : Int, x17 = jm_or (jm_ushr v3 1) x6 →
            jg E m_X4_holds d 5 [some (jm_R v0), some (jm_R v1), some (jm_I v2), some (jm_I x17), some (jm_I (jm_wr (v4 + 1))), none] [] μ Q))) ∧
         (¬ ((μ ((v0 + 1)) v4) ≠ 1) →
          ∀ x18 : Int, x18 = jm_and (jm_ushr v3 1) (jm_or ((-2)) x6) →
          jg E m_X4_holds d 5 [some (jm_R v0), some (jm_R v1), some (jm_I v2), some (jm_I x18), some (jm_I (jm_wr (v4 + 1))), none] [] μ Q))) ∧
       (¬ ((μ ((v0 + 1)) v4) ≠ 0) →
        ∀ x19 : Int, x19 = jm_xor v3 1 →
        jg E m_X4_holds d 5 [some (jm_R v0), some (jm_R v1), some (jm_I v2), some (jm_I x19), some (jm_I (jm_wr (v4 + 1))), none] [] μ Q))))))) : jg E m_X4_holds d 5 [some (jm_R v0), some (jm_R v1), some (jm_I v2), some (jm_I v3), some (jm_I v4), none] [] μ Q := by
  refine jm_iload d_X4_holds_5 rfl ?_
  refine jm_aloadn d_X4_holds_7 rfl ?_
  obtain ⟨f1, h⟩ := h
  refine jm_getI (k := 1) (ki := 1) cf_X4 (Nat.le_of_ble_eq_true rfl) f_X4_25 d_X4_holds_8 rfl rfl f1 rfl ?_
  refine jm_icmp_ge (tgt := 115) d_X4_holds_11 (by decide) (fun c2 => ?_) (fun c2 => ?_)
  · have h := h.1 c2
    refine jm_iloadn d_X4_holds_115 rfl ?_
    refine jm_iconst (v := 1) d_X4_holds_116 rfl (jm_okI (by decide) (by decide)) ?_
    refine jm_iand d_X4_holds_117 ?_
    refine jm_if_eq (tgt := 125) d_X4_holds_118 (by decide) (fun c3 => ?_) (fun c3 => ?_)
    · have h := h.1 c3
      refine jm_iconst (v := 0) d_X4_holds_125 rfl (jm_okI (by decide) (by decide)) ?_
      exact jm_ret (o := some (jm_I _)) d_X4_holds_126 rfl ⟨Nat.le_refl _, Nat.le_refl _⟩ (jm_r_Z (by decide)) h rfl
    · have h := h.2 c3
      refine jm_iconst (v := 1) d_X4_holds_121 rfl (jm_okI (by decide) (by decide)) ?_
      refine jm_goto (tgt := 126) d_X4_holds_122 (by decide) ?_
      exact jm_ret (o := some (jm_I _)) d_X4_holds_126 rfl ⟨Nat.le_refl _, Nat.le_refl _⟩ (jm_r_Z (by decide)) h rfl
  · have h := h.2 c2
    refine jm_iload d_X4_holds_14 rfl ?_
    refine jm_bipush (v := 64) d_X4_holds_16 rfl (jm_okI (by decide) (by decide)) ?_
    refine jm_icmp_ge (tgt := 115) d_X4_holds_18 (by decide) (fun c4 => ?_) (fun c4 => ?_)
    · have h := h.1 c4
      refine jm_iloadn d_X4_holds_115 rfl ?_
      refine jm_iconst (v := 1) d_X4_holds_116 rfl (jm_okI (by decide) (by decide)) ?_
      refine jm_iand d_X4_holds_117 ?_
      refine jm_if_eq (tgt := 125) d_X4_holds_118 (by decide) (fun c5 => ?_) (fun c5 => ?_)
      · have h := h.1 c5
        refine jm_iconst (v := 0) d_X4_holds_125 rfl (jm_okI (by decide) (by decide)) ?_
        exact jm_ret (o := some (jm_I _)) d_X4_holds_126 rfl ⟨Nat.le_refl _, Nat.le_refl _⟩ (jm_r_Z (by decide)) h rfl
      · have h := h.2 c5
        refine jm_iconst (v := 1) d_X4_holds_121 rfl (jm_okI (by decide) (by decide)) ?_
        refine jm_goto (tgt := 126) d_X4_holds_122 (by decide) ?_
        exact jm_ret (o := some (jm_I _)) d_X4_holds_126 rfl ⟨Nat.le_refl _, Nat.le_refl _⟩ (jm_r_Z (by decide)) h rfl
    · have h := h.2 c4
      refine jm_iloadn d_X4_holds_21 rfl ?_
      refine jm_iconst (v := 1) d_X4_holds_22 rfl (jm_okI (by decide) (by decide)) ?_
      refine jm_iand d_X4_holds_23 ?_
      have h := h _ rfl
      refine jm_istore (L' := [some (jm_R _), some (jm_R _), some (jm_I _), some (jm_I _), some (jm_I _), some (jm_I _)]) d_X4_holds_24 (Nat.le_of_ble_eq_true rfl) rfl ?_
      refine jm_aloadn d_X4_holds_26 rfl ?_
      refine jm_getF (k := 2) (ki := 2) rfl cf_X4 (Nat.le_of_ble_eq_true rfl) f_X4_11 d_X4_holds_27 rfl rfl f1 (fc_4_2 f1) ?_
      refine jm_iload d_X4_holds_30 rfl ?_
      obtain ⟨f7, h⟩ := h
      refine jm_iaload d_X4_holds_32 (xc_4_2 f1 f7.1 f7.2) ?_
      refine jm_if_ne (tgt := 43) d_X4_holds_33 (by decide) (fun c8 => ?_) (fun c8 => ?_)
      · have h := h.1 c8
        refine jm_aloadn d_X4_holds_43 rfl ?_
        refine jm_getF (k := 2) (ki := 2) rfl cf_X4 (Nat.le_of_ble_eq_true rfl) f_X4_11 d_X4_holds_44 rfl rfl f1 (fc_4_2 f1) ?_
        refine jm_iload d_X4_holds_47 rfl ?_
        refine jm_iaload d_X4_holds_49 (xc_4_2 f1 f7.1 f7.2) ?_
        refine jm_iconst (v := 1) d_X4_holds_50 rfl (jm_okI (by decide) (by decide)) ?_
        refine jm_icmp_ne (tgt := 67) d_X4_holds_51 (by decide) (fun c9 => ?_) (fun c9 => ?_)
        · have h := h.1 c9
          refine jm_aloadn d_X4_holds_67 rfl ?_
          refine jm_getF (k := 2) (ki := 2) rfl cf_X4 (Nat.le_of_ble_eq_true rfl) f_X4_11 d_X4_holds_68 rfl rfl f1 (fc_4_2 f1) ?_
          refine jm_iload d_X4_holds_71 rfl ?_
          refine jm_iaload d_X4_holds_73 (xc_4_2 f1 f7.1 f7.2) ?_
          refine jm_iconst (v := 2) d_X4_holds_74 rfl (jm_okI (by decide) (by decide)) ?_
          refine jm_icmp_ne (tgt := 88) d_X4_holds_75 (by decide) (fun c10 => ?_) (fun c10 => ?_)
          · have h := h.1 c10
            refine jm_iloadn d_X4_holds_88 rfl ?_
            refine jm_iconst (v := 1) d_X4_holds_89 rfl (jm_okI (by decide) (by decide)) ?_
            refine jm_ishl d_X4_holds_90 ?_
            refine jm_aloadn d_X4_holds_91 rfl ?_
            refine jm_aloadn d_X4_holds_92 rfl ?_
            refine jm_iloadn d_X4_holds_93 rfl ?_
            refine jm_iload d_X4_holds_94 rfl ?_
            refine jm_invV (n1 := jm_N) (mc := 0) (ms := 0) (av := [jm_R _, jm_I _, jm_I _]) w_X4_isSo l_X4_34 d_X4_holds_96 rfl f1 ⟨_, _, rfl⟩ ⟨Nat.le_refl _, Nat.le_refl _⟩ (Nat.le_of_ble_eq_true rfl) rfl ?_
            refine jm_Cl.mono h (fun o m11 h hr _ => ?_)
            obtain ⟨r12, rfl, z13⟩ := jm_rokZ hr
            have h := h _ rfl z13
            refine jm_if_eq (tgt := 106) d_X4_holds_99 (by decide) (fun c14 => ?_) (fun c14 => ?_)
            · have h := h.1 c14
              refine jm_iconst (v := 0) d_X4_holds_106 rfl (jm_okI (by decide) (by decide)) ?_
              refine jm_ior d_X4_holds_107 ?_
              have h := h _ rfl
              refine jm_istoren (L' := [some (jm_R _), some (jm_R _), some (jm_I _), some (jm_I _), some (jm_I _), some (jm_I _)]) d_X4_holds_108 (Nat.le_of_ble_eq_true rfl) rfl ?_
              refine jm_iinc (L' := [some (jm_R _), some (jm_R _), some (jm_I _), some (jm_I _), some (jm_I _), some (jm_I _)]) d_X4_holds_109 rfl rfl (Nat.le_of_ble_eq_true rfl) rfl ?_
              refine jm_goto (tgt := 5) d_X4_holds_112 (by decide) ?_
              exact jm_weak2 h (And.intro rfl (And.intro rfl (And.intro rfl (And.intro rfl (And.intro rfl trivial)))))
            · have h := h.2 c14
              refine jm_iconst (v := 1) d_X4_holds_102 rfl (jm_okI (by decide) (by decide)) ?_
              refine jm_goto (tgt := 107) d_X4_holds_103 (by decide) ?_
              refine jm_ior d_X4_holds_107 ?_
              have h := h _ rfl
              refine jm_istoren (L' := [some (jm_R _), some (jm_R _), some (jm_I _), some (jm_I _), some (jm_I _), some (jm_I _)]) d_X4_holds_108 (Nat.le_of_ble_eq_true rfl) rfl ?_
              refine jm_iinc (L' := [some (jm_R _), some (jm_R _), some (jm_I _), some (jm_I _), some (jm_I _), some (jm_I _)]) d_X4_holds_109 rfl rfl (Nat.le_of_ble_eq_true rfl) rfl ?_
              refine jm_goto (tgt := 5) d_X4_holds_112 (by decide) ?_
              exact jm_weak2 h (And.intro rfl (And.intro rfl (And.intro rfl (And.intro rfl (And.intro rfl trivial)))))
          · have h := h.2 c10
            refine jm_iloadn d_X4_holds_78 rfl ?_
            refine jm_iconst (v := 1) d_X4_holds_79 rfl (jm_okI (by decide) (by decide)) ?_
            refine jm_iushr d_X4_holds_80 ?_
            refine jm_iload d_X4_holds_81 rfl ?_
            refine jm_ior d_X4_holds_83 ?_
            have h := h _ rfl
            refine jm_istoren (L' := [some (jm_R _), some (jm_R _), some (jm_I _), some (jm_I _), some (jm_I _), some (jm_I _)]) d_X4_holds_84 (Nat.le_of_ble_eq_true rfl) rfl ?_
            refine jm_goto (tgt := 109) d_X4_holds_85 (by decide) ?_
            refine jm_iinc (L' := [some (jm_R _), some (jm_R _), some (jm_I _), some (jm_I _), some (jm_I _), some (jm_I _)]) d_X4_holds_109 rfl rfl (Nat.le_of_ble_eq_true rfl) rfl ?_
            refine jm_goto (tgt := 5) d_X4_holds_112 (by decide) ?_
            exact jm_weak2 h (And.intro rfl (And.intro rfl (And.intro rfl (And.intro rfl (And.intro rfl trivial)))))
        · have h := h.2 c9
          refine jm_iloadn d_X4_holds_54 rfl ?_
          refine jm_iconst (v := 1) d_X4_holds_55 rfl (jm_okI (by decide) (by decide)) ?_
          refine jm_iushr d_X4_holds_56 ?_
          refine jm_bipush (v := (-2)) d_X4_holds_57 rfl (jm_okI (by decide) (by decide)) ?_
          refine jm_iload d_X4_holds_59 rfl ?_
          refine jm_ior d_X4_holds_61 ?_
          refine jm_iand d_X4_holds_62 ?_
          have h := h _ rfl
          refine jm_istoren (L' := [some (jm_R _), some (jm_R _), some (jm_I _), some (jm_I _), some (jm_I _), some (jm_I _)]) d_X4_holds_63 (Nat.le_of_ble_eq_true rfl) rfl ?_
          refine jm_goto (tgt := 109) d_X4_holds_64 (by decide) ?_
          refine jm_iinc (L' := [some (jm_R _), some (jm_R _), some (jm_I _), some (jm_I _), some (jm_I _), some (jm_I _)]) d_X4_holds_109 rfl rfl (Nat.le_of_ble_eq_true rfl) rfl ?_
          refine jm_goto (tgt := 5) d_X4_holds_112 (by decide) ?_
          exact jm_weak2 h (And.intro rfl (And.intro rfl (And.intro rfl (And.intro rfl (And.intro rfl trivial)))))
      · have h := h.2 c8
        refine jm_iloadn d_X4_holds_36 rfl ?_
        refine jm_iconst (v := 1) d_X4_holds_37 rfl (jm_okI (by decide) (by decide)) ?_
        refine jm_ixor d_X4_holds_38 ?_
        have h := h _ rfl
        refine jm_istoren (L' := [some (jm_R _), some (jm_R _), some (jm_I _), some (jm_I _), some (jm_I _), some (jm_I _)]) d_X4_holds_39 (Nat.le_of_ble_eq_true rfl) rfl ?_
        refine jm_goto (tgt := 109) d_X4_holds_40 (by decide) ?_
        refine jm_iinc (L' := [some (jm_R _), some (jm_R _), some (jm_I _), some (jm_I _), some (jm_I _), some (jm_I _)]) d_X4_holds_109 rfl rfl (Nat.le_of_ble_eq_true rfl) rfl ?_
        refine jm_goto (tgt := 5) d_X4_holds_112 (by decide) ?_
        exact jm_weak2 h (And.intro rfl (And.intro rfl (And.intro rfl (And.intro rfl (And.intro rfl trivial)))))
/-! ('CombTable$Sentence', 'isSo', '(LCombTable$Talk;II)Z') -/
theorem d_X4_isSo_0 : decode m_X4_isSo.2.1 0 = .ok (.iload_n 3, 1) := by decide +kernel
theorem d_X4_isSo_1 : decode m_X4_isSo.2.1 1 = .ok (.ifCond .lt 9, 3) := by decide +kernel
theorem d_X4_isSo_4 : decode m_X4_isSo.2.1 4 = .ok (.iload_n 3, 1) := by decide +kernel
theorem d_X4_isSo_5 : decode m_X4_isSo.2.1 5 = .ok (.bipush 64, 2) := by decide +kernel
theorem d_X4_isSo_7 : decode m_X4_isSo.2.1 7 = .ok (.if_icmp .lt 5, 3) := by decide +kernel
theorem d_X4_isSo_10 : decode m_X4_isSo.2.1 10 = .ok (.iconst 0, 1) := by decide +kernel
theorem d_X4_isSo_11 : decode m_X4_isSo.2.1 11 = .ok (.ireturn, 1) := by decide +kernel
theorem d_X4_isSo_12 : decode m_X4_isSo.2.1 12 = .ok (.aload_n 0, 1) := by decide +kernel
theorem d_X4_isSo_13 : decode m_X4_isSo.2.1 13 = .ok (.getfield 11, 3) := by decide +kernel
theorem d_X4_isSo_16 : decode m_X4_isSo.2.1 16 = .ok (.iload_n 3, 1) := by decide +kernel
theorem d_X4_isSo_17 : decode m_X4_isSo.2.1 17 = .ok (.iaload, 1) := by decide +kernel
theorem d_X4_isSo_18 : decode m_X4_isSo.2.1 18 = .ok (.tableswitch 167 3 8 #[38, 59, 85, 106, 123, 145], 38) := by decide +kernel
theorem d_X4_isSo_56 : decode m_X4_isSo.2.1 56 = .ok (.aload_n 1, 1) := by decide +kernel
theorem d_X4_isSo_57 : decode m_X4_isSo.2.1 57 = .ok (.iload_n 2, 1) := by decide +kernel
theorem d_X4_isSo_58 : decode m_X4_isSo.2.1 58 = .ok (.iconst 0, 1) := by decide +kernel
theorem d_X4_isSo_59 : decode m_X4_isSo.2.1 59 = .ok (.invokevirtual 40, 3) := by decide +kernel
theorem d_X4_isSo_62 : decode m_X4_isSo.2.1 62 = .ok (.aload_n 0, 1) := by decide +kernel
theorem d_X4_isSo_63 : decode m_X4_isSo.2.1 63 = .ok (.getfield 18, 3) := by decide +kernel
theorem d_X4_isSo_66 : decode m_X4_isSo.2.1 66 = .ok (.iload_n 3, 1) := by decide +kernel
theorem d_X4_isSo_67 : decode m_X4_isSo.2.1 67 = .ok (.iaload, 1) := by decide +kernel
theorem d_X4_isSo_68 : decode m_X4_isSo.2.1 68 = .ok (.if_icmp .ne 7, 3) := by decide +kernel
theorem d_X4_isSo_71 : decode m_X4_isSo.2.1 71 = .ok (.iconst 1, 1) := by decide +kernel
theorem d_X4_isSo_72 : decode m_X4_isSo.2.1 72 = .ok (.goto 4, 3) := by decide +kernel
theorem d_X4_isSo_75 : decode m_X4_isSo.2.1 75 = .ok (.iconst 0, 1) := by decide +kernel
theorem d_X4_isSo_76 : decode m_X4_isSo.2.1 76 = .ok (.ireturn, 1) := by decide +kernel
theorem d_X4_isSo_77 : decode m_X4_isSo.2.1 77 = .ok (.aload_n 1, 1) := by decide +kernel
theorem d_X4_isSo_78 : decode m_X4_isSo.2.1 78 = .ok (.aload_n 1, 1) := by decide +kernel
theorem d_X4_isSo_79 : decode m_X4_isSo.2.1 79 = .ok (.iload_n 2, 1) := by decide +kernel
theorem d_X4_isSo_80 : decode m_X4_isSo.2.1 80 = .ok (.iconst 2, 1) := by decide +kernel
theorem d_X4_isSo_81 : decode m_X4_isSo.2.1 81 = .ok (.invokevirtual 40, 3) := by decide +kernel
theorem d_X4_isSo_84 : decode m_X4_isSo.2.1 84 = .ok (.iconst 0, 1) := by decide +kernel
theorem d_X4_isSo_85 : decode m_X4_isSo.2.1 85 = .ok (.invokevirtual 40, 3) := by decide +kernel
theorem d_X4_isSo_88 : decode m_X4_isSo.2.1 88 = .ok (.aload_n 0, 1) := by decide +kernel
theorem d_X4_isSo_89 : decode m_X4_isSo.2.1 89 = .ok (.getfield 18, 3) := by decide +kernel
theorem d_X4_isSo_92 : decode m_X4_isSo.2.1 92 = .ok (.iload_n 3, 1) := by decide +kernel
theorem d_X4_isSo_93 : decode m_X4_isSo.2.1 93 = .ok (.iaload, 1) := by decide +kernel
theorem d_X4_isSo_94 : decode m_X4_isSo.2.1 94 = .ok (.if_icmp .ne 7, 3) := by decide +kernel
theorem d_X4_isSo_97 : decode m_X4_isSo.2.1 97 = .ok (.iconst 1, 1) := by decide +kernel
theorem d_X4_isSo_98 : decode m_X4_isSo.2.1 98 = .ok (.goto 4, 3) := by decide +kernel
theorem d_X4_isSo_101 : decode m_X4_isSo.2.1 101 = .ok (.iconst 0, 1) := by decide +kernel
theorem d_X4_isSo_102 : decode m_X4_isSo.2.1 102 = .ok (.ireturn, 1) := by decide +kernel
theorem d_X4_isSo_103 : decode m_X4_isSo.2.1 103 = .ok (.aload_n 1, 1) := by decide +kernel
theorem d_X4_isSo_104 : decode m_X4_isSo.2.1 104 = .ok (.iload_n 2, 1) := by decide +kernel
theorem d_X4_isSo_105 : decode m_X4_isSo.2.1 105 = .ok (.iconst 1, 1) := by decide +kernel
theorem d_X4_isSo_106 : decode m_X4_isSo.2.1 106 = .ok (.invokevirtual 40, 3) := by decide +kernel
theorem d_X4_isSo_109 : decode m_X4_isSo.2.1 109 = .ok (.aload_n 0, 1) := by decide +kernel
theorem d_X4_isSo_110 : decode m_X4_isSo.2.1 110 = .ok (.getfield 18, 3) := by decide +kernel
theorem d_X4_isSo_113 : decode m_X4_isSo.2.1 113 = .ok (.iload_n 3, 1) := by decide +kernel
theorem d_X4_isSo_114 : decode m_X4_isSo.2.1 114 = .ok (.iaload, 1) := by decide +kernel
theorem d_X4_isSo_115 : decode m_X4_isSo.2.1 115 = .ok (.if_icmp .ne 7, 3) := by decide +kernel
theorem d_X4_isSo_118 : decode m_X4_isSo.2.1 118 = .ok (.iconst 1, 1) := by decide +kernel
theorem d_X4_isSo_119 : decode m_X4_isSo.2.1 119 = .ok (.goto 4, 3) := by decide +kernel
theorem d_X4_isSo_122 : decode m_X4_isSo.2.1 122 = .ok (.iconst 0, 1) := by decide +kernel
theorem d_X4_isSo_123 : decode m_X4_isSo.2.1 123 = .ok (.ireturn, 1) := by decide +kernel
theorem d_X4_isSo_124 : decode m_X4_isSo.2.1 124 = .ok (.iload_n 2, 1) := by decide +kernel
theorem d_X4_isSo_125 : decode m_X4_isSo.2.1 125 = .ok (.aload_n 0, 1) := by decide +kernel
theorem d_X4_isSo_126 : decode m_X4_isSo.2.1 126 = .ok (.getfield 15, 3) := by decide +kernel
theorem d_X4_isSo_129 : decode m_X4_isSo.2.1 129 = .ok (.iload_n 3, 1) := by decide +kernel
theorem d_X4_isSo_130 : decode m_X4_isSo.2.1 130 = .ok (.iaload, 1) := by decide +kernel
theorem d_X4_isSo_131 : decode m_X4_isSo.2.1 131 = .ok (.aload_n 0, 1) := by decide +kernel
theorem d_X4_isSo_132 : decode m_X4_isSo.2.1 132 = .ok (.getfield 18, 3) := by decide +kernel
theorem d_X4_isSo_135 : decode m_X4_isSo.2.1 135 = .ok (.iload_n 3, 1) := by decide +kernel
theorem d_X4_isSo_136 : decode m_X4_isSo.2.1 136 = .ok (.iaload, 1) := by decide +kernel
theorem d_X4_isSo_137 : decode m_X4_isSo.2.1 137 = .ok (.invokestatic 44, 3) := by decide +kernel
theorem d_X4_isSo_140 : decode m_X4_isSo.2.1 140 = .ok (.ireturn, 1) := by decide +kernel
theorem d_X4_isSo_141 : decode m_X4_isSo.2.1 141 = .ok (.aload_n 1, 1) := by decide +kernel
theorem d_X4_isSo_142 : decode m_X4_isSo.2.1 142 = .ok (.iload_n 2, 1) := by decide +kernel
theorem d_X4_isSo_143 : decode m_X4_isSo.2.1 143 = .ok (.iconst 3, 1) := by decide +kernel
theorem d_X4_isSo_144 : decode m_X4_isSo.2.1 144 = .ok (.invokevirtual 40, 3) := by decide +kernel
theorem d_X4_isSo_147 : decode m_X4_isSo.2.1 147 = .ok (.aload_n 0, 1) := by decide +kernel
theorem d_X4_isSo_148 : decode m_X4_isSo.2.1 148 = .ok (.getfield 15, 3) := by decide +kernel
theorem d_X4_isSo_151 : decode m_X4_isSo.2.1 151 = .ok (.iload_n 3, 1) := by decide +kernel
theorem d_X4_isSo_152 : decode m_X4_isSo.2.1 152 = .ok (.iaload, 1) := by decide +kernel
theorem d_X4_isSo_153 : decode m_X4_isSo.2.1 153 = .ok (.aload_n 0, 1) := by decide +kernel
theorem d_X4_isSo_154 : decode m_X4_isSo.2.1 154 = .ok (.getfield 18, 3) := by decide +kernel
theorem d_X4_isSo_157 : decode m_X4_isSo.2.1 157 = .ok (.iload_n 3, 1) := by decide +kernel
theorem d_X4_isSo_158 : decode m_X4_isSo.2.1 158 = .ok (.iaload, 1) := by decide +kernel
theorem d_X4_isSo_159 : decode m_X4_isSo.2.1 159 = .ok (.invokestatic 44, 3) := by decide +kernel
theorem d_X4_isSo_162 : decode m_X4_isSo.2.1 162 = .ok (.ireturn, 1) := by decide +kernel
theorem d_X4_isSo_163 : decode m_X4_isSo.2.1 163 = .ok (.aload_n 1, 1) := by decide +kernel
theorem d_X4_isSo_164 : decode m_X4_isSo.2.1 164 = .ok (.iload_n 2, 1) := by decide +kernel
theorem d_X4_isSo_165 : decode m_X4_isSo.2.1 165 = .ok (.iconst 4, 1) := by decide +kernel
theorem d_X4_isSo_166 : decode m_X4_isSo.2.1 166 = .ok (.invokevirtual 40, 3) := by decide +kernel
theorem d_X4_isSo_169 : decode m_X4_isSo.2.1 169 = .ok (.aload_n 0, 1) := by decide +kernel
theorem d_X4_isSo_170 : decode m_X4_isSo.2.1 170 = .ok (.getfield 15, 3) := by decide +kernel
theorem d_X4_isSo_173 : decode m_X4_isSo.2.1 173 = .ok (.iload_n 3, 1) := by decide +kernel
theorem d_X4_isSo_174 : decode m_X4_isSo.2.1 174 = .ok (.iaload, 1) := by decide +kernel
theorem d_X4_isSo_175 : decode m_X4_isSo.2.1 175 = .ok (.aload_n 0, 1) := by decide +kernel
theorem d_X4_isSo_176 : decode m_X4_isSo.2.1 176 = .ok (.getfield 18, 3) := by decide +kernel
theorem d_X4_isSo_179 : decode m_X4_isSo.2.1 179 = .ok (.iload_n 3, 1) := by decide +kernel
theorem d_X4_isSo_180 : decode m_X4_isSo.2.1 180 = .ok (.iaload, 1) := by decide +kernel
theorem d_X4_isSo_181 : decode m_X4_isSo.2.1 181 = .ok (.invokestatic 44, 3) := by decide +kernel
theorem d_X4_isSo_184 : decode m_X4_isSo.2.1 184 = .ok (.ireturn, 1) := by decide +kernel
theorem d_X4_isSo_185 : decode m_X4_isSo.2.1 185 = .ok (.aload_n 1, 1) := by decide +kernel
theorem d_X4_isSo_186 : decode m_X4_isSo.2.1 186 = .ok (.iload_n 2, 1) := by decide +kernel
theorem d_X4_isSo_187 : decode m_X4_isSo.2.1 187 = .ok (.invokevirtual 48, 3) := by decide +kernel
theorem d_X4_isSo_190 : decode m_X4_isSo.2.1 190 = .ok (.aload_n 0, 1) := by decide +kernel
theorem d_X4_isSo_191 : decode m_X4_isSo.2.1 191 = .ok (.getfield 15, 3) := by decide +kernel
theorem d_X4_isSo_194 : decode m_X4_isSo.2.1 194 = .ok (.iload_n 3, 1) := by decide +kernel
theorem d_X4_isSo_195 : decode m_X4_isSo.2.1 195 = .ok (.iaload, 1) := by decide +kernel
theorem d_X4_isSo_196 : decode m_X4_isSo.2.1 196 = .ok (.aload_n 0, 1) := by decide +kernel
theorem d_X4_isSo_197 : decode m_X4_isSo.2.1 197 = .ok (.getfield 18, 3) := by decide +kernel
theorem d_X4_isSo_200 : decode m_X4_isSo.2.1 200 = .ok (.iload_n 3, 1) := by decide +kernel
theorem d_X4_isSo_201 : decode m_X4_isSo.2.1 201 = .ok (.iaload, 1) := by decide +kernel
theorem d_X4_isSo_202 : decode m_X4_isSo.2.1 202 = .ok (.invokestatic 44, 3) := by decide +kernel
theorem d_X4_isSo_205 : decode m_X4_isSo.2.1 205 = .ok (.ireturn, 1) := by decide +kernel
set_option maxRecDepth 20000 in
theorem e_X4_isSo {E : jm_E} {d : Nat} {μ : jm_M} {Q : Option jm_V → jm_M → Prop} {v0 v1 v2 v3 : Int} (h : (∀ v ∈ ([jm_R v0, jm_R v1, jm_I v2, jm_I v3] : List jm_V), jm_ok v) →
  ((v3 < 0 →
    Q (some (jm_I 0)) μ) ∧
   (¬ (v3 < 0) →
    ((v3 < 64 →
      (jm_is jm_N v0 1 4) ∧
      (0 ≤ v3 ∧ v3 < 64) ∧
      ∀ x5 : Int, x5 = μ ((v0 + 1)) v3 →
      ((x5 = 3 →
        (jm_is jm_N v1 1 6) ∧
        jc E m_X6_tell d [jm_R v1, jm_I v2, jm_I 0] μ (fun (o : Option jm_V) (m7 : jm_M) => ∀ r9 : Int, o = some (jm_I r9) →
        ((r9 ≠ (m7 ((v0 + 3)) v3) →
          Q (some (jm_I 0)) m7) ∧
         (¬ (r9 ≠ (m7 ((v0 + 3)) v3)) →
          Q (some (jm_I 1)) m7)))) ∧
       (¬ (x5 = 3) →
        ((x5 = 4 →
          (jm_is jm_N v1 1 6) ∧
          jc E m_X6_tell d [jm_R v1, jm_I v2, jm_I 2] μ (fun (o : Option jm_V) (m12 : jm_M) => ∀ r14 : Int, o = some (jm_I r14) →
          jc E m_X6_tell d [jm_R v1, jm_I r14, jm_I 0] m12 (fun (o : Option jm_V) (m15 : jm_M) => ∀ r16 : Int, o = some (jm_I r16) →
          ((r16 ≠ (m15 ((v0 + 3)) v3) →
            Q (some (jm_I 0)) m15) ∧
           (¬ (r16 ≠ (m15 ((v0 + 3)) v3)) →
            Q (some (jm_I 1)) m15))))) ∧
         (¬ (x5 = 4) →
          ((x5 = 5 →
            (jm_is jm_N v1 1 6) ∧
            jc E m_X6_tell d [jm_R v1, jm_I v2, jm_I 1] μ (fun (o : Option jm_V) (m19 : jm_M) => ∀ r21 : Int, o = some (jm_I r21) →
            ((r21 ≠ (m19 ((v0 + 3)) v3) →
              Q (some (jm_I 0)) m19) ∧
             (¬ (r21 ≠ (m19 ((v0 + 3)) v3)) →
              Q (some (jm_I 1)) m19)))) ∧
           (¬ (x5 = 5) →
            ((x5 = 6 →
              jc E m_X4_compares d [jm_I v2, jm_I (μ ((v0 + 2)) v3), jm_I (μ ((v0 + 3)) v3)] μ (fun (o : Option jm_V) (m24 : jm_M) => ∀ r25 : Int, o = some (jm_I r25) → (r25 = 0 ∨ r25 = 1) →
              Q (some (jm_I r25)) m24)) ∧
             (¬ (x5 = 6) →
              ((x5 = 7 →
                (jm_is jm_N v1 1 6) ∧
                jc E m_X6_tell d [jm_R v1, jm_I v2, jm_I 3] μ (fun (o : Option jm_V) (m28 : jm_M) => ∀ r30 : Int, o = some (jm_I r30) →
                jc E m_X4_compares d [jm_I r30, jm_I (m28 ((v0 + 2)) v3), jm_I (m28 ((v0 + 3)) v3)] m28 (fun (o : Option jm_V) (m31 : jm_M) => ∀ r32 : Int, o = some (jm_I r32) → (r32 = 0 ∨ r32 = 1) →
                Q (some (jm_I r32)) m31))) ∧
               (¬ (x5 = 7) →
                ((x5 = 8 →
                  (jm_is jm_N v1 1 6) ∧
                  jc E m_X6_tell d [jm_R v1, jm_I v2, jm_I 4] μ (fun (o : Option jm_V) (m35 : jm_M) => ∀ r37 : Int, o = some (jm_I r37) →
                  jc E m_X4_compares d [jm_I r37, jm_I (m35 ((v0 + 2)) v3), jm_I (m35 ((v0 + 3)) v3)] m35 (fun (o : Option jm_V) (m38 : jm_M) => ∀ r39 : Int, o = some (jm_I r39) → (r39 = 0 ∨ r39 = 1) →
                  Q (some (jm_I r39)) m38))) ∧
                 (¬ (x5 = 8) →
                  (jm_is jm_N v1 1 6) ∧
                  jc E m_X6_stateOf d [jm_R v1, jm_I v2] μ (fun (o : Option jm_V) (m41 : jm_M) => ∀ r43 : Int, o = some (jm_I r43) →
                  jc E m_X4_compares d [jm_I r43, jm_I (m41 ((v0 + 2)) v3), jm_I (m41 ((v0 + 3)) v3)] m41 (fun (o : Option jm_V) (m44 : jm_M) => ∀ r45 : Int, o = some (jm_I r45) → (r45 = 0 ∨ r45 = 1) →
                  Q (some (jm_I r45)) m44))))))))))))))) ∧
     (¬ (v3 < 64) →
      Q (some (jm_I 0)) μ))))) : jc E m_X4_isSo (d + 1) [jm_R v0, jm_R v1, jm_I v2, jm_I v3] μ Q := by
  refine jm_Cl.of2 (by decide +kernel) (L0 := [some (jm_R v0), some (jm_R v1), some (jm_I v2), some (jm_I v3)]) rfl (Nat.le_of_ble_eq_true rfl) (fun hok => ?_)
  have h := h hok
  refine jm_iloadn d_X4_isSo_0 rfl ?_
  refine jm_if_lt (tgt := 10) d_X4_isSo_1 (by decide) (fun c1 => ?_) (fun c1 => ?_)
  · have h := h.1 c1
    refine jm_iconst (v := 0) d_X4_isSo_10 rfl (jm_okI (by decide) (by decide)) ?_
    exact jm_ret (o := some (jm_I _)) d_X4_isSo_11 rfl ⟨Nat.le_refl _, Nat.le_refl _⟩ (jm_r_Z (by decide)) h rfl
  · have h := h.2 c1
    refine jm_iloadn d_X4_isSo_4 rfl ?_
    refine jm_bipush (v := 64) d_X4_isSo_5 rfl (jm_okI (by decide) (by decide)) ?_
    refine jm_icmp_lt (tgt := 12) d_X4_isSo_7 (by decide) (fun c2 => ?_) (fun c2 => ?_)
    · have h := h.1 c2
      refine jm_aloadn d_X4_isSo_12 rfl ?_
      obtain ⟨f3, h⟩ := h
      refine jm_getF (k := 2) (ki := 2) rfl cf_X4 (Nat.le_of_ble_eq_true rfl) f_X4_11 d_X4_isSo_13 rfl rfl f3 (fc_4_2 f3) ?_
      refine jm_iloadn d_X4_isSo_16 rfl ?_
      obtain ⟨f4, h⟩ := h
      refine jm_iaload d_X4_isSo_17 (xc_4_2 f3 f4.1 f4.2) ?_
      refine jm_nmI (fun x5 hx5 => ?_)
      have h := h _ hx5
      by_cases c6 : x5 = 3
      · have h := h.1 c6
        refine jm_table (tgt := 56) (off := 38) d_X4_isSo_18 (by rw [c6]; decide) (by rw [c6]; decide) (by rw [c6]; rfl) (by decide) ?_
        refine jm_aloadn d_X4_isSo_56 rfl ?_
        refine jm_iloadn d_X4_isSo_57 rfl ?_
        refine jm_iconst (v := 0) d_X4_isSo_58 rfl (jm_okI (by decide) (by decide)) ?_
        obtain ⟨f8, h⟩ := h
        refine jm_invV (n1 := jm_N) (mc := 0) (ms := 0) (av := [jm_I _, jm_I _]) w_X6_tell l_X4_40 d_X4_isSo_59 rfl f8 ⟨_, _, rfl⟩ ⟨Nat.le_refl _, Nat.le_refl _⟩ (Nat.le_of_ble_eq_true rfl) rfl ?_
        refine jm_Cl.mono h (fun o m7 h hr _ => ?_)
        obtain ⟨r9, rfl⟩ := jm_rokI hr
        have h := h _ rfl
        refine jm_aloadn d_X4_isSo_62 rfl ?_
        refine jm_getF (k := 4) (ki := 4) rfl cf_X4 (Nat.le_of_ble_eq_true rfl) f_X4_18 d_X4_isSo_63 rfl rfl f3 (fc_4_4 f3) ?_
        refine jm_iloadn d_X4_isSo_66 rfl ?_
        refine jm_iaload d_X4_isSo_67 (xc_4_4 f3 f4.1 f4.2) ?_
        refine jm_icmp_ne (tgt := 75) d_X4_isSo_68 (by decide) (fun c10 => ?_) (fun c10 => ?_)
        · have h := h.1 c10
          refine jm_iconst (v := 0) d_X4_isSo_75 rfl (jm_okI (by decide) (by decide)) ?_
          exact jm_ret (o := some (jm_I _)) d_X4_isSo_76 rfl ⟨Nat.le_refl _, Nat.le_refl _⟩ (jm_r_Z (by decide)) h rfl
        · have h := h.2 c10
          refine jm_iconst (v := 1) d_X4_isSo_71 rfl (jm_okI (by decide) (by decide)) ?_
          refine jm_goto (tgt := 76) d_X4_isSo_72 (by decide) ?_
          exact jm_ret (o := some (jm_I _)) d_X4_isSo_76 rfl ⟨Nat.le_refl _, Nat.le_refl _⟩ (jm_r_Z (by decide)) h rfl
      · have h := h.2 c6
        by_cases c11 : x5 = 4
        · have h := h.1 c11
          refine jm_table (tgt := 77) (off := 59) d_X4_isSo_18 (by rw [c11]; decide) (by rw [c11]; decide) (by rw [c11]; rfl) (by decide) ?_
          refine jm_aloadn d_X4_isSo_77 rfl ?_
          refine jm_aloadn d_X4_isSo_78 rfl ?_
          refine jm_iloadn d_X4_isSo_79 rfl ?_
          refine jm_iconst (v := 2) d_X4_isSo_80 rfl (jm_okI (by decide) (by decide)) ?_
          obtain ⟨f13, h⟩ := h
          refine jm_invV (n1 := jm_N) (mc := 0) (ms := 0) (av := [jm_I _, jm_I _]) w_X6_tell l_X4_40 d_X4_isSo_81 rfl f13 ⟨_, _, rfl⟩ ⟨Nat.le_refl _, Nat.le_refl _⟩ (Nat.le_of_ble_eq_true rfl) rfl ?_
          refine jm_Cl.mono h (fun o m12 h hr _ => ?_)
          obtain ⟨r14, rfl⟩ := jm_rokI hr
          have h := h _ rfl
          refine jm_iconst (v := 0) d_X4_isSo_84 rfl (jm_okI (by decide) (by decide)) ?_
          refine jm_invV (n1 := jm_N) (mc := 0) (ms := 0) (av := [jm_I _, jm_I _]) w_X6_tell l_X4_40 d_X4_isSo_85 rfl f13 ⟨_, _, rfl⟩ ⟨Nat.le_refl _, Nat.le_refl _⟩ (Nat.le_of_ble_eq_true rfl) rfl ?_
          refine jm_Cl.mono h (fun o m15 h hr _ => ?_)
          obtain ⟨r16, rfl⟩ := jm_rokI hr
          have h := h _ rfl
          refine jm_aloadn d_X4_isSo_88 rfl ?_
          refine jm_getF (k := 4) (ki := 4) rfl cf_X4 (Nat.le_of_ble_eq_true rfl) f_X4_18 d_X4_isSo_89 rfl rfl f3 (fc_4_4 f3) ?_
          refine jm_iloadn d_X4_isSo_92 rfl ?_
          refine jm_iaload d_X4_isSo_93 (xc_4_4 f3 f4.1 f4.2) ?_
          refine jm_icmp_ne (tgt := 101) d_X4_isSo_94 (by decide) (fun c17 => ?_) (fun c17 => ?_)
          · have h := h.1 c17
            refine jm_iconst (v := 0) d_X4_isSo_101 rfl (jm_okI (by decide) (by decide)) ?_
            exact jm_ret (o := some (jm_I _)) d_X4_isSo_102 rfl ⟨Nat.le_refl _, Nat.le_refl _⟩ (jm_r_Z (by decide)) h rfl
          · have h := h.2 c17
            refine jm_iconst (v := 1) d_X4_isSo_97 rfl (jm_okI (by decide) (by decide)) ?_
            refine jm_goto (tgt := 102) d_X4_isSo_98 (by decide) ?_
            exact jm_ret (o := some (jm_I _)) d_X4_isSo_102 rfl ⟨Nat.le_refl _, Nat.le_refl _⟩ (jm_r_Z (by decide)) h rfl
        · have h := h.2 c11
          by_cases c18 : x5 = 5
          · have h := h.1 c18
            refine jm_table (tgt := 103) (off := 85) d_X4_isSo_18 (by rw [c18]; decide) (by rw [c18]; decide) (by rw [c18]; rfl) (by decide) ?_
            refine jm_aloadn d_X4_isSo_103 rfl ?_
            refine jm_iloadn d_X4_isSo_104 rfl ?_
            refine jm_iconst (v := 1) d_X4_isSo_105 rfl (jm_okI (by decide) (by decide)) ?_
            obtain ⟨f20, h⟩ := h
            refine jm_invV (n1 := jm_N) (mc := 0) (ms := 0) (av := [jm_I _, jm_I _]) w_X6_tell l_X4_40 d_X4_isSo_106 rfl f20 ⟨_, _, rfl⟩ ⟨Nat.le_refl _, Nat.le_refl _⟩ (Nat.le_of_ble_eq_true rfl) rfl ?_
            refine jm_Cl.mono h (fun o m19 h hr _ => ?_)
            obtain ⟨r21, rfl⟩ := jm_rokI hr
            have h := h _ rfl
            refine jm_aloadn d_X4_isSo_109 rfl ?_
            refine jm_getF (k := 4) (ki := 4) rfl cf_X4 (Nat.le_of_ble_eq_true rfl) f_X4_18 d_X4_isSo_110 rfl rfl f3 (fc_4_4 f3) ?_
            refine jm_iloadn d_X4_isSo_113 rfl ?_
            refine jm_iaload d_X4_isSo_114 (xc_4_4 f3 f4.1 f4.2) ?_
            refine jm_icmp_ne (tgt := 122) d_X4_isSo_115 (by decide) (fun c22 => ?_) (fun c22 => ?_)
            · have h := h.1 c22
              refine jm_iconst (v := 0) d_X4_isSo_122 rfl (jm_okI (by decide) (by decide)) ?_
              exact jm_ret (o := some (jm_I _)) d_X4_isSo_123 rfl ⟨Nat.le_refl _, Nat.le_refl _⟩ (jm_r_Z (by decide)) h rfl
            · have h := h.2 c22
              refine jm_iconst (v := 1) d_X4_isSo_118 rfl (jm_okI (by decide) (by decide)) ?_
              refine jm_goto (tgt := 123) d_X4_isSo_119 (by decide) ?_
              exact jm_ret (o := some (jm_I _)) d_X4_isSo_123 rfl ⟨Nat.le_refl _, Nat.le_refl _⟩ (jm_r_Z (by decide)) h rfl
          · have h := h.2 c18
            by_cases c23 : x5 = 6
            · have h := h.1 c23
              refine jm_table (tgt := 124) (off := 106) d_X4_isSo_18 (by rw [c23]; decide) (by rw [c23]; decide) (by rw [c23]; rfl) (by decide) ?_
              refine jm_iloadn d_X4_isSo_124 rfl ?_
              refine jm_aloadn d_X4_isSo_125 rfl ?_
              refine jm_getF (k := 3) (ki := 3) rfl cf_X4 (Nat.le_of_ble_eq_true rfl) f_X4_15 d_X4_isSo_126 rfl rfl f3 (fc_4_3 f3) ?_
              refine jm_iloadn d_X4_isSo_129 rfl ?_
              refine jm_iaload d_X4_isSo_130 (xc_4_3 f3 f4.1 f4.2) ?_
              refine jm_aloadn d_X4_isSo_131 rfl ?_
              refine jm_getF (k := 4) (ki := 4) rfl cf_X4 (Nat.le_of_ble_eq_true rfl) f_X4_18 d_X4_isSo_132 rfl rfl f3 (fc_4_4 f3) ?_
              refine jm_iloadn d_X4_isSo_135 rfl ?_
              refine jm_iaload d_X4_isSo_136 (xc_4_4 f3 f4.1 f4.2) ?_
              refine jm_invS (n1 := jm_N) (mc := 0) (ms := 0) (av := [jm_I _, jm_I _, jm_I _]) w_X4_compares l_X4_44 d_X4_isSo_137 rfl ⟨Nat.le_refl _, Nat.le_refl _⟩ (Nat.le_of_ble_eq_true rfl) rfl ?_
              refine jm_Cl.mono h (fun o m24 h hr _ => ?_)
              obtain ⟨r25, rfl, z26⟩ := jm_rokZ hr
              have h := h _ rfl z26
              exact jm_ret (o := some (jm_I _)) d_X4_isSo_140 rfl ⟨Nat.le_refl _, Nat.le_refl _⟩ (jm_r_Z z26) h rfl
            · have h := h.2 c23
              by_cases c27 : x5 = 7
              · have h := h.1 c27
                refine jm_table (tgt := 141) (off := 123) d_X4_isSo_18 (by rw [c27]; decide) (by rw [c27]; decide) (by rw [c27]; rfl) (by decide) ?_
                refine jm_aloadn d_X4_isSo_141 rfl ?_
                refine jm_iloadn d_X4_isSo_142 rfl ?_
                refine jm_iconst (v := 3) d_X4_isSo_143 rfl (jm_okI (by decide) (by decide)) ?_
                obtain ⟨f29, h⟩ := h
                refine jm_invV (n1 := jm_N) (mc := 0) (ms := 0) (av := [jm_I _, jm_I _]) w_X6_tell l_X4_40 d_X4_isSo_144 rfl f29 ⟨_, _, rfl⟩ ⟨Nat.le_refl _, Nat.le_refl _⟩ (Nat.le_of_ble_eq_true rfl) rfl ?_
                refine jm_Cl.mono h (fun o m28 h hr _ => ?_)
                obtain ⟨r30, rfl⟩ := jm_rokI hr
                have h := h _ rfl
                refine jm_aloadn d_X4_isSo_147 rfl ?_
                refine jm_getF (k := 3) (ki := 3) rfl cf_X4 (Nat.le_of_ble_eq_true rfl) f_X4_15 d_X4_isSo_148 rfl rfl f3 (fc_4_3 f3) ?_
                refine jm_iloadn d_X4_isSo_151 rfl ?_
                refine jm_iaload d_X4_isSo_152 (xc_4_3 f3 f4.1 f4.2) ?_
                refine jm_aloadn d_X4_isSo_153 rfl ?_
                refine jm_getF (k := 4) (ki := 4) rfl cf_X4 (Nat.le_of_ble_eq_true rfl) f_X4_18 d_X4_isSo_154 rfl rfl f3 (fc_4_4 f3) ?_
                refine jm_iloadn d_X4_isSo_157 rfl ?_
                refine jm_iaload d_X4_isSo_158 (xc_4_4 f3 f4.1 f4.2) ?_
                refine jm_invS (n1 := jm_N) (mc := 0) (ms := 0) (av := [jm_I _, jm_I _, jm_I _]) w_X4_compares l_X4_44 d_X4_isSo_159 rfl ⟨Nat.le_refl _, Nat.le_refl _⟩ (Nat.le_of_ble_eq_true rfl) rfl ?_
                refine jm_Cl.mono h (fun o m31 h hr _ => ?_)
                obtain ⟨r32, rfl, z33⟩ := jm_rokZ hr
                have h := h _ rfl z33
                exact jm_ret (o := some (jm_I _)) d_X4_isSo_162 rfl ⟨Nat.le_refl _, Nat.le_refl _⟩ (jm_r_Z z33) h rfl
              · have h := h.2 c27
                by_cases c34 : x5 = 8
                · have h := h.1 c34
                  refine jm_table (tgt := 163) (off := 145) d_X4_isSo_18 (by rw [c34]; decide) (by rw [c34]; decide) (by rw [c34]; rfl) (by decide) ?_
                  refine jm_aloadn d_X4_isSo_163 rfl ?_
                  refine jm_iloadn d_X4_isSo_164 rfl ?_
                  refine jm_iconst (v := 4) d_X4_isSo_165 rfl (jm_okI (by decide) (by decide)) ?_
                  obtain ⟨f36, h⟩ := h
                  refine jm_invV (n1 := jm_N) (mc := 0) (ms := 0) (av := [jm_I _, jm_I _]) w_X6_tell l_X4_40 d_X4_isSo_166 rfl f36 ⟨_, _, rfl⟩ ⟨Nat.le_refl _, Nat.le_refl _⟩ (Nat.le_of_ble_eq_true rfl) rfl ?_
                  refine jm_Cl.mono h (fun o m35 h hr _ => ?_)
                  obtain ⟨r37, rfl⟩ := jm_rokI hr
                  have h := h _ rfl
                  refine jm_aloadn d_X4_isSo_169 rfl ?_
                  refine jm_getF (k := 3) (ki := 3) rfl cf_X4 (Nat.le_of_ble_eq_true rfl) f_X4_15 d_X4_isSo_170 rfl rfl f3 (fc_4_3 f3) ?_
                  refine jm_iloadn d_X4_isSo_173 rfl ?_
                  refine jm_iaload d_X4_isSo_174 (xc_4_3 f3 f4.1 f4.2) ?_
                  refine jm_aloadn d_X4_isSo_175 rfl ?_
                  refine jm_getF (k := 4) (ki := 4) rfl cf_X4 (Nat.le_of_ble_eq_true rfl) f_X4_18 d_X4_isSo_176 rfl rfl f3 (fc_4_4 f3) ?_
                  refine jm_iloadn d_X4_isSo_179 rfl ?_
                  refine jm_iaload d_X4_isSo_180 (xc_4_4 f3 f4.1 f4.2) ?_
                  refine jm_invS (n1 := jm_N) (mc := 0) (ms := 0) (av := [jm_I _, jm_I _, jm_I _]) w_X4_compares l_X4_44 d_X4_isSo_181 rfl ⟨Nat.le_refl _, Nat.le_refl _⟩ (Nat.le_of_ble_eq_true rfl) rfl ?_
                  refine jm_Cl.mono h (fun o m38 h hr _ => ?_)
                  obtain ⟨r39, rfl, z40⟩ := jm_rokZ hr
                  have h := h _ rfl z40
                  exact jm_ret (o := some (jm_I _)) d_X4_isSo_184 rfl ⟨Nat.le_refl _, Nat.le_refl _⟩ (jm_r_Z z40) h rfl
                · have h := h.2 c34
                  refine jm_tableD (tgt := 185) d_X4_isSo_18 (jm_tb2 (jm_tb1 (jm_tb1 (jm_tb1 (jm_tb1 (jm_tb1 (jm_tb1 (jm_tb0 3) c6) c11) c18) c23) c27) c34) rfl) (by decide) ?_
                  refine jm_aloadn d_X4_isSo_185 rfl ?_
                  refine jm_iloadn d_X4_isSo_186 rfl ?_
                  obtain ⟨f42, h⟩ := h
                  refine jm_invV (n1 := jm_N) (mc := 0) (ms := 0) (av := [jm_I _]) w_X6_stateOf l_X4_48 d_X4_isSo_187 rfl f42 ⟨_, _, rfl⟩ ⟨Nat.le_refl _, Nat.le_refl _⟩ (Nat.le_of_ble_eq_true rfl) rfl ?_
                  refine jm_Cl.mono h (fun o m41 h hr _ => ?_)
                  obtain ⟨r43, rfl⟩ := jm_rokI hr
                  have h := h _ rfl
                  refine jm_aloadn d_X4_isSo_190 rfl ?_
                  refine jm_getF (k := 3) (ki := 3) rfl cf_X4 (Nat.le_of_ble_eq_true rfl) f_X4_15 d_X4_isSo_191 rfl rfl f3 (fc_4_3 f3) ?_
                  refine jm_iloadn d_X4_isSo_194 rfl ?_
                  refine jm_iaload d_X4_isSo_195 (xc_4_3 f3 f4.1 f4.2) ?_
                  refine jm_aloadn d_X4_isSo_196 rfl ?_
                  refine jm_getF (k := 4) (ki := 4) rfl cf_X4 (Nat.le_of_ble_eq_true rfl) f_X4_18 d_X4_isSo_197 rfl rfl f3 (fc_4_4 f3) ?_
                  refine jm_iloadn d_X4_isSo_200 rfl ?_
                  refine jm_iaload d_X4_isSo_201 (xc_4_4 f3 f4.1 f4.2) ?_
                  refine jm_invS (n1 := jm_N) (mc := 0) (ms := 0) (av := [jm_I _, jm_I _, jm_I _]) w_X4_compares l_X4_44 d_X4_isSo_202 rfl ⟨Nat.le_refl _, Nat.le_refl _⟩ (Nat.le_of_ble_eq_true rfl) rfl ?_
                  refine jm_Cl.mono h (fun o m44 h hr _ => ?_)
                  obtain ⟨r45, rfl, z46⟩ := jm_rokZ hr
                  have h := h _ rfl z46
                  exact jm_ret (o := some (jm_I _)) d_X4_isSo_205 rfl ⟨Nat.le_refl _, Nat.le_refl _⟩ (jm_r_Z z46) h rfl
    · have h := h.2 c2
      refine jm_iconst (v := 0) d_X4_isSo_10 rfl (jm_okI (by decide) (by decide)) ?_
      exact jm_ret (o := some (jm_I _)) d_X4_isSo_11 rfl ⟨Nat.le_refl _, Nat.le_refl _⟩ (jm_r_Z (by decide)) h rfl
/-! ('CombTable$Sentence', 'compares', '(III)Z') -/
theorem d_X4_compares_0 : decode m_X4_compares.2.1 0 = .ok (.iload_n 1, 1) := by decide +kernel
theorem d_X4_compares_1 : decode m_X4_compares.2.1 1 = .ok (.bipush 60, 2) := by decide +kernel
theorem d_X4_compares_3 : decode m_X4_compares.2.1 3 = .ok (.if_icmp .ne 14, 3) := by decide +kernel
theorem d_X4_compares_6 : decode m_X4_compares.2.1 6 = .ok (.iload_n 0, 1) := by decide +kernel
theorem d_X4_compares_7 : decode m_X4_compares.2.1 7 = .ok (.iload_n 2, 1) := by decide +kernel
theorem d_X4_compares_8 : decode m_X4_compares.2.1 8 = .ok (.if_icmp .ge 7, 3) := by decide +kernel
theorem d_X4_compares_11 : decode m_X4_compares.2.1 11 = .ok (.iconst 1, 1) := by decide +kernel
theorem d_X4_compares_12 : decode m_X4_compares.2.1 12 = .ok (.goto 4, 3) := by decide +kernel
theorem d_X4_compares_15 : decode m_X4_compares.2.1 15 = .ok (.iconst 0, 1) := by decide +kernel
theorem d_X4_compares_16 : decode m_X4_compares.2.1 16 = .ok (.ireturn, 1) := by decide +kernel
theorem d_X4_compares_17 : decode m_X4_compares.2.1 17 = .ok (.iload_n 1, 1) := by decide +kernel
theorem d_X4_compares_18 : decode m_X4_compares.2.1 18 = .ok (.bipush 61, 2) := by decide +kernel
theorem d_X4_compares_20 : decode m_X4_compares.2.1 20 = .ok (.if_icmp .ne 16, 3) := by decide +kernel
theorem d_X4_compares_23 : decode m_X4_compares.2.1 23 = .ok (.iload_n 0, 1) := by decide +kernel
theorem d_X4_compares_24 : decode m_X4_compares.2.1 24 = .ok (.iload_n 2, 1) := by decide +kernel
theorem d_X4_compares_25 : decode m_X4_compares.2.1 25 = .ok (.if_icmp .ne 7, 3) := by decide +kernel
theorem d_X4_compares_28 : decode m_X4_compares.2.1 28 = .ok (.iconst 1, 1) := by decide +kernel
theorem d_X4_compares_29 : decode m_X4_compares.2.1 29 = .ok (.goto 17, 3) := by decide +kernel
theorem d_X4_compares_32 : decode m_X4_compares.2.1 32 = .ok (.iconst 0, 1) := by decide +kernel
theorem d_X4_compares_33 : decode m_X4_compares.2.1 33 = .ok (.goto 13, 3) := by decide +kernel
theorem d_X4_compares_36 : decode m_X4_compares.2.1 36 = .ok (.iload_n 0, 1) := by decide +kernel
theorem d_X4_compares_37 : decode m_X4_compares.2.1 37 = .ok (.iload_n 2, 1) := by decide +kernel
theorem d_X4_compares_38 : decode m_X4_compares.2.1 38 = .ok (.if_icmp .le 7, 3) := by decide +kernel
theorem d_X4_compares_41 : decode m_X4_compares.2.1 41 = .ok (.iconst 1, 1) := by decide +kernel
theorem d_X4_compares_42 : decode m_X4_compares.2.1 42 = .ok (.goto 4, 3) := by decide +kernel
theorem d_X4_compares_45 : decode m_X4_compares.2.1 45 = .ok (.iconst 0, 1) := by decide +kernel
theorem d_X4_compares_46 : decode m_X4_compares.2.1 46 = .ok (.ireturn, 1) := by decide +kernel
set_option maxRecDepth 20000 in
theorem e_X4_compares {E : jm_E} {d : Nat} {μ : jm_M} {Q : Option jm_V → jm_M → Prop} {v0 v1 v2 : Int} (h : (∀ v ∈ ([jm_I v0, jm_I v1, jm_I v2] : List jm_V), jm_ok v) →
  ((v1 ≠ 60 →
    ((v1 ≠ 61 →
      ((v0 ≤ v2 →
        Q (some (jm_I 0)) μ) ∧
       (¬ (v0 ≤ v2) →
        Q (some (jm_I 1)) μ))) ∧
     (¬ (v1 ≠ 61) →
      ((v0 ≠ v2 →
        Q (some (jm_I 0)) μ) ∧
       (¬ (v0 ≠ v2) →
        Q (some (jm_I 1)) μ))))) ∧
   (¬ (v1 ≠ 60) →
    ((v2 ≤ v0 →
      Q (some (jm_I 0)) μ) ∧
     (¬ (v2 ≤ v0) →
      Q (some (jm_I 1)) μ))))) : jc E m_X4_compares (d + 1) [jm_I v0, jm_I v1, jm_I v2] μ Q := by
  refine jm_Cl.of2 (by decide +kernel) (L0 := [some (jm_I v0), some (jm_I v1), some (jm_I v2)]) rfl (Nat.le_of_ble_eq_true rfl) (fun hok => ?_)
  have h := h hok
  refine jm_iloadn d_X4_compares_0 rfl ?_
  refine jm_bipush (v := 60) d_X4_compares_1 rfl (jm_okI (by decide) (by decide)) ?_
  refine jm_icmp_ne (tgt := 17) d_X4_compares_3 (by decide) (fun c1 => ?_) (fun c1 => ?_)
  · have h := h.1 c1
    refine jm_iloadn d_X4_compares_17 rfl ?_
    refine jm_bipush (v := 61) d_X4_compares_18 rfl (jm_okI (by decide) (by decide)) ?_
    refine jm_icmp_ne (tgt := 36) d_X4_compares_20 (by decide) (fun c2 => ?_) (fun c2 => ?_)
    · have h := h.1 c2
      refine jm_iloadn d_X4_compares_36 rfl ?_
      refine jm_iloadn d_X4_compares_37 rfl ?_
      refine jm_icmp_le (tgt := 45) d_X4_compares_38 (by decide) (fun c3 => ?_) (fun c3 => ?_)
      · have h := h.1 c3
        refine jm_iconst (v := 0) d_X4_compares_45 rfl (jm_okI (by decide) (by decide)) ?_
        exact jm_ret (o := some (jm_I _)) d_X4_compares_46 rfl ⟨Nat.le_refl _, Nat.le_refl _⟩ (jm_r_Z (by decide)) h rfl
      · have h := h.2 c3
        refine jm_iconst (v := 1) d_X4_compares_41 rfl (jm_okI (by decide) (by decide)) ?_
        refine jm_goto (tgt := 46) d_X4_compares_42 (by decide) ?_
        exact jm_ret (o := some (jm_I _)) d_X4_compares_46 rfl ⟨Nat.le_refl _, Nat.le_refl _⟩ (jm_r_Z (by decide)) h rfl
    · have h := h.2 c2
      refine jm_iloadn d_X4_compares_23 rfl ?_
      refine jm_iloadn d_X4_compares_24 rfl ?_
      refine jm_icmp_ne (tgt := 32) d_X4_compares_25 (by decide) (fun c4 => ?_) (fun c4 => ?_)
      · have h := h.1 c4
        refine jm_iconst (v := 0) d_X4_compares_32 rfl (jm_okI (by decide) (by decide)) ?_
        refine jm_goto (tgt := 46) d_X4_compares_33 (by decide) ?_
        exact jm_ret (o := some (jm_I _)) d_X4_compares_46 rfl ⟨Nat.le_refl _, Nat.le_refl _⟩ (jm_r_Z (by decide)) h rfl
      · have h := h.2 c4
        refine jm_iconst (v := 1) d_X4_compares_28 rfl (jm_okI (by decide) (by decide)) ?_
        refine jm_goto (tgt := 46) d_X4_compares_29 (by decide) ?_
        exact jm_ret (o := some (jm_I _)) d_X4_compares_46 rfl ⟨Nat.le_refl _, Nat.le_refl _⟩ (jm_r_Z (by decide)) h rfl
  · have h := h.2 c1
    refine jm_iloadn d_X4_compares_6 rfl ?_
    refine jm_iloadn d_X4_compares_7 rfl ?_
    refine jm_icmp_ge (tgt := 15) d_X4_compares_8 (by decide) (fun c5 => ?_) (fun c5 => ?_)
    · have h := h.1 c5
      refine jm_iconst (v := 0) d_X4_compares_15 rfl (jm_okI (by decide) (by decide)) ?_
      exact jm_ret (o := some (jm_I _)) d_X4_compares_16 rfl ⟨Nat.le_refl _, Nat.le_refl _⟩ (jm_r_Z (by decide)) h rfl
    · have h := h.2 c5
      refine jm_iconst (v := 1) d_X4_compares_11 rfl (jm_okI (by decide) (by decide)) ?_
      refine jm_goto (tgt := 16) d_X4_compares_12 (by decide) ?_
      exact jm_ret (o := some (jm_I _)) d_X4_compares_16 rfl ⟨Nat.le_refl _, Nat.le_refl _⟩ (jm_r_Z (by decide)) h rfl
-- X0_init: by hand (objinit)
-- X2_init: by hand (objinit)
/-! ('CombTable$Repair', 'arrange', '(LCombTable$Minutes;LCombTable$Talk;)I') -/
theorem d_X2_arrange_0 : decode m_X2_arrange.2.1 0 = .ok (.aload_n 0, 1) := by decide +kernel
theorem d_X2_arrange_1 : decode m_X2_arrange.2.1 1 = .ok (.iconst 0, 1) := by decide +kernel
theorem d_X2_arrange_2 : decode m_X2_arrange.2.1 2 = .ok (.putfield 57, 3) := by decide +kernel
theorem d_X2_arrange_5 : decode m_X2_arrange.2.1 5 = .ok (.aload_n 0, 1) := by decide +kernel
theorem d_X2_arrange_6 : decode m_X2_arrange.2.1 6 = .ok (.aload_n 1, 1) := by decide +kernel
theorem d_X2_arrange_7 : decode m_X2_arrange.2.1 7 = .ok (.aload_n 2, 1) := by decide +kernel
theorem d_X2_arrange_8 : decode m_X2_arrange.2.1 8 = .ok (.iconst 0, 1) := by decide +kernel
theorem d_X2_arrange_9 : decode m_X2_arrange.2.1 9 = .ok (.iconst 0, 1) := by decide +kernel
theorem d_X2_arrange_10 : decode m_X2_arrange.2.1 10 = .ok (.invokevirtual 60, 3) := by decide +kernel
theorem d_X2_arrange_13 : decode m_X2_arrange.2.1 13 = .ok (.aload_n 0, 1) := by decide +kernel
theorem d_X2_arrange_14 : decode m_X2_arrange.2.1 14 = .ok (.getfield 57, 3) := by decide +kernel
theorem d_X2_arrange_17 : decode m_X2_arrange.2.1 17 = .ok (.ireturn, 1) := by decide +kernel
set_option maxRecDepth 20000 in
theorem e_X2_arrange {E : jm_E} {d : Nat} {μ : jm_M} {Q : Option jm_V → jm_M → Prop} {v1 v2 : Int} (h : (∀ v ∈ ([jm_R 130, jm_R v1, jm_R v2] : List jm_V), jm_ok v) →
  jc E m_X2_orderFrom d [jm_R 130, jm_R v1, jm_R v2, jm_I 0, jm_I 0] (jm_up μ 130 3 0) (fun (o : Option jm_V) (m1 : jm_M) => o = none →
  Q (some (jm_I (m1 130 3))) m1)) : jc E m_X2_arrange (d + 1) [jm_R 130, jm_R v1, jm_R v2] μ Q := by
  refine jm_Cl.of2 (by decide +kernel) (L0 := [some (jm_R 130), some (jm_R v1), some (jm_R v2)]) rfl (Nat.le_of_ble_eq_true rfl) (fun hok => ?_)
  have h := h hok
  refine jm_aloadn d_X2_arrange_0 rfl ?_
  refine jm_iconst (v := 0) d_X2_arrange_1 rfl (jm_okI (by decide) (by decide)) ?_
  refine jm_putI (k := 3) (ki := 3) cf_X2 (Nat.le_of_ble_eq_true rfl) f_X2_57 d_X2_arrange_2 (fun z => absurd z (by decide)) rfl rfl rfl (fun _ => rfl) is_130 ?_
  refine jm_aloadn d_X2_arrange_5 rfl ?_
  refine jm_aloadn d_X2_arrange_6 rfl ?_
  refine jm_aloadn d_X2_arrange_7 rfl ?_
  refine jm_iconst (v := 0) d_X2_arrange_8 rfl (jm_okI (by decide) (by decide)) ?_
  refine jm_iconst (v := 0) d_X2_arrange_9 rfl (jm_okI (by decide) (by decide)) ?_
  refine jm_invV (n1 := jm_N) (mc := 0) (ms := 0) (av := [jm_R _, jm_R _, jm_I _, jm_I _]) w_X2_orderFrom l_X2_60 d_X2_arrange_10 rfl is_130 ⟨_, _, rfl⟩ ⟨Nat.le_refl _, Nat.le_refl _⟩ (Nat.le_of_ble_eq_true rfl) rfl ?_
  refine jm_Cl.mono h (fun o m1 h hr _ => ?_)
  obtain rfl := jm_rokV hr
  have h := h rfl
  refine jm_aloadn d_X2_arrange_13 rfl ?_
  refine jm_getI (k := 3) (ki := 3) cf_X2 (Nat.le_of_ble_eq_true rfl) f_X2_57 d_X2_arrange_14 rfl rfl is_130 rfl ?_
  exact jm_ret (o := some (jm_I _)) d_X2_arrange_17 rfl ⟨Nat.le_refl _, Nat.le_refl _⟩ jm_r_I h rfl
/-! ('CombTable$Repair', 'orderFrom', '(LCombTable$Minutes;LCombTable$Talk;II)V') -/
theorem d_X2_orderFrom_0 : decode m_X2_orderFrom.2.1 0 = .ok (.iload_n 3, 1) := by decide +kernel
theorem d_X2_orderFrom_1 : decode m_X2_orderFrom.2.1 1 = .ok (.aload_n 1, 1) := by decide +kernel
theorem d_X2_orderFrom_2 : decode m_X2_orderFrom.2.1 2 = .ok (.getfield 32, 3) := by decide +kernel
theorem d_X2_orderFrom_5 : decode m_X2_orderFrom.2.1 5 = .ok (.if_icmp .ge 9, 3) := by decide +kernel
theorem d_X2_orderFrom_8 : decode m_X2_orderFrom.2.1 8 = .ok (.iload_n 3, 1) := by decide +kernel
theorem d_X2_orderFrom_9 : decode m_X2_orderFrom.2.1 9 = .ok (.bipush 7, 2) := by decide +kernel
theorem d_X2_orderFrom_11 : decode m_X2_orderFrom.2.1 11 = .ok (.if_icmp .lt 41, 3) := by decide +kernel
theorem d_X2_orderFrom_14 : decode m_X2_orderFrom.2.1 14 = .ok (.aload_n 0, 1) := by decide +kernel
theorem d_X2_orderFrom_15 : decode m_X2_orderFrom.2.1 15 = .ok (.getfield 57, 3) := by decide +kernel
theorem d_X2_orderFrom_18 : decode m_X2_orderFrom.2.1 18 = .ok (.ifCond .ne 23, 3) := by decide +kernel
theorem d_X2_orderFrom_21 : decode m_X2_orderFrom.2.1 21 = .ok (.aload_n 0, 1) := by decide +kernel
theorem d_X2_orderFrom_22 : decode m_X2_orderFrom.2.1 22 = .ok (.getfield 15, 3) := by decide +kernel
theorem d_X2_orderFrom_25 : decode m_X2_orderFrom.2.1 25 = .ok (.iconst 0, 1) := by decide +kernel
theorem d_X2_orderFrom_26 : decode m_X2_orderFrom.2.1 26 = .ok (.aload_n 0, 1) := by decide +kernel
theorem d_X2_orderFrom_27 : decode m_X2_orderFrom.2.1 27 = .ok (.getfield 19, 3) := by decide +kernel
theorem d_X2_orderFrom_30 : decode m_X2_orderFrom.2.1 30 = .ok (.iconst 0, 1) := by decide +kernel
theorem d_X2_orderFrom_31 : decode m_X2_orderFrom.2.1 31 = .ok (.bipush 7, 2) := by decide +kernel
theorem d_X2_orderFrom_33 : decode m_X2_orderFrom.2.1 33 = .ok (.invokestatic 64, 3) := by decide +kernel
theorem d_X2_orderFrom_36 : decode m_X2_orderFrom.2.1 36 = .ok (.aload_n 0, 1) := by decide +kernel
theorem d_X2_orderFrom_37 : decode m_X2_orderFrom.2.1 37 = .ok (.iload_n 3, 1) := by decide +kernel
theorem d_X2_orderFrom_38 : decode m_X2_orderFrom.2.1 38 = .ok (.putfield 70, 3) := by decide +kernel
theorem d_X2_orderFrom_41 : decode m_X2_orderFrom.2.1 41 = .ok (.aload_n 0, 1) := by decide +kernel
theorem d_X2_orderFrom_42 : decode m_X2_orderFrom.2.1 42 = .ok (.dup, 1) := by decide +kernel
theorem d_X2_orderFrom_43 : decode m_X2_orderFrom.2.1 43 = .ok (.getfield 57, 3) := by decide +kernel
theorem d_X2_orderFrom_46 : decode m_X2_orderFrom.2.1 46 = .ok (.iconst 1, 1) := by decide +kernel
theorem d_X2_orderFrom_47 : decode m_X2_orderFrom.2.1 47 = .ok (.iadd, 1) := by decide +kernel
theorem d_X2_orderFrom_48 : decode m_X2_orderFrom.2.1 48 = .ok (.putfield 57, 3) := by decide +kernel
theorem d_X2_orderFrom_51 : decode m_X2_orderFrom.2.1 51 = .ok (.return_, 1) := by decide +kernel
theorem d_X2_orderFrom_52 : decode m_X2_orderFrom.2.1 52 = .ok (.iconst 0, 1) := by decide +kernel
theorem d_X2_orderFrom_53 : decode m_X2_orderFrom.2.1 53 = .ok (.istore 5, 2) := by decide +kernel
theorem d_X2_orderFrom_55 : decode m_X2_orderFrom.2.1 55 = .ok (.iload 5, 2) := by decide +kernel
theorem d_X2_orderFrom_57 : decode m_X2_orderFrom.2.1 57 = .ok (.aload_n 1, 1) := by decide +kernel
theorem d_X2_orderFrom_58 : decode m_X2_orderFrom.2.1 58 = .ok (.getfield 32, 3) := by decide +kernel
theorem d_X2_orderFrom_61 : decode m_X2_orderFrom.2.1 61 = .ok (.if_icmp .ge 82, 3) := by decide +kernel
theorem d_X2_orderFrom_64 : decode m_X2_orderFrom.2.1 64 = .ok (.aload_n 1, 1) := by decide +kernel
theorem d_X2_orderFrom_65 : decode m_X2_orderFrom.2.1 65 = .ok (.iload 5, 2) := by decide +kernel
theorem d_X2_orderFrom_67 : decode m_X2_orderFrom.2.1 67 = .ok (.invokevirtual 37, 3) := by decide +kernel
theorem d_X2_orderFrom_70 : decode m_X2_orderFrom.2.1 70 = .ok (.istore 6, 2) := by decide +kernel
theorem d_X2_orderFrom_72 : decode m_X2_orderFrom.2.1 72 = .ok (.aload_n 1, 1) := by decide +kernel
theorem d_X2_orderFrom_73 : decode m_X2_orderFrom.2.1 73 = .ok (.iload 5, 2) := by decide +kernel
theorem d_X2_orderFrom_75 : decode m_X2_orderFrom.2.1 75 = .ok (.invokevirtual 41, 3) := by decide +kernel
theorem d_X2_orderFrom_78 : decode m_X2_orderFrom.2.1 78 = .ok (.istore 7, 2) := by decide +kernel
theorem d_X2_orderFrom_80 : decode m_X2_orderFrom.2.1 80 = .ok (.iload 4, 2) := by decide +kernel
theorem d_X2_orderFrom_82 : decode m_X2_orderFrom.2.1 82 = .ok (.iload 5, 2) := by decide +kernel
theorem d_X2_orderFrom_84 : decode m_X2_orderFrom.2.1 84 = .ok (.ishr, 1) := by decide +kernel
theorem d_X2_orderFrom_85 : decode m_X2_orderFrom.2.1 85 = .ok (.iconst 1, 1) := by decide +kernel
theorem d_X2_orderFrom_86 : decode m_X2_orderFrom.2.1 86 = .ok (.iand, 1) := by decide +kernel
theorem d_X2_orderFrom_87 : decode m_X2_orderFrom.2.1 87 = .ok (.ifCond .ne 50, 3) := by decide +kernel
theorem d_X2_orderFrom_90 : decode m_X2_orderFrom.2.1 90 = .ok (.aload_n 2, 1) := by decide +kernel
theorem d_X2_orderFrom_91 : decode m_X2_orderFrom.2.1 91 = .ok (.iload 6, 2) := by decide +kernel
theorem d_X2_orderFrom_93 : decode m_X2_orderFrom.2.1 93 = .ok (.iload 7, 2) := by decide +kernel
theorem d_X2_orderFrom_95 : decode m_X2_orderFrom.2.1 95 = .ok (.invokevirtual 44, 3) := by decide +kernel
theorem d_X2_orderFrom_98 : decode m_X2_orderFrom.2.1 98 = .ok (.ifCond .ne 39, 3) := by decide +kernel
theorem d_X2_orderFrom_101 : decode m_X2_orderFrom.2.1 101 = .ok (.aload_n 0, 1) := by decide +kernel
theorem d_X2_orderFrom_102 : decode m_X2_orderFrom.2.1 102 = .ok (.getfield 15, 3) := by decide +kernel
theorem d_X2_orderFrom_105 : decode m_X2_orderFrom.2.1 105 = .ok (.iload_n 3, 1) := by decide +kernel
theorem d_X2_orderFrom_106 : decode m_X2_orderFrom.2.1 106 = .ok (.iload 5, 2) := by decide +kernel
theorem d_X2_orderFrom_108 : decode m_X2_orderFrom.2.1 108 = .ok (.iastore, 1) := by decide +kernel
theorem d_X2_orderFrom_109 : decode m_X2_orderFrom.2.1 109 = .ok (.aload_n 2, 1) := by decide +kernel
theorem d_X2_orderFrom_110 : decode m_X2_orderFrom.2.1 110 = .ok (.iload 6, 2) := by decide +kernel
theorem d_X2_orderFrom_112 : decode m_X2_orderFrom.2.1 112 = .ok (.iload 7, 2) := by decide +kernel
theorem d_X2_orderFrom_114 : decode m_X2_orderFrom.2.1 114 = .ok (.invokevirtual 50, 3) := by decide +kernel
theorem d_X2_orderFrom_117 : decode m_X2_orderFrom.2.1 117 = .ok (.aload_n 0, 1) := by decide +kernel
theorem d_X2_orderFrom_118 : decode m_X2_orderFrom.2.1 118 = .ok (.aload_n 1, 1) := by decide +kernel
theorem d_X2_orderFrom_119 : decode m_X2_orderFrom.2.1 119 = .ok (.aload_n 2, 1) := by decide +kernel
theorem d_X2_orderFrom_120 : decode m_X2_orderFrom.2.1 120 = .ok (.iload_n 3, 1) := by decide +kernel
theorem d_X2_orderFrom_121 : decode m_X2_orderFrom.2.1 121 = .ok (.iconst 1, 1) := by decide +kernel
theorem d_X2_orderFrom_122 : decode m_X2_orderFrom.2.1 122 = .ok (.iadd, 1) := by decide +kernel
theorem d_X2_orderFrom_123 : decode m_X2_orderFrom.2.1 123 = .ok (.iload 4, 2) := by decide +kernel
theorem d_X2_orderFrom_125 : decode m_X2_orderFrom.2.1 125 = .ok (.iconst 1, 1) := by decide +kernel
theorem d_X2_orderFrom_126 : decode m_X2_orderFrom.2.1 126 = .ok (.iload 5, 2) := by decide +kernel
theorem d_X2_orderFrom_128 : decode m_X2_orderFrom.2.1 128 = .ok (.ishl, 1) := by decide +kernel
theorem d_X2_orderFrom_129 : decode m_X2_orderFrom.2.1 129 = .ok (.ior, 1) := by decide +kernel
theorem d_X2_orderFrom_130 : decode m_X2_orderFrom.2.1 130 = .ok (.invokevirtual 60, 3) := by decide +kernel
theorem d_X2_orderFrom_133 : decode m_X2_orderFrom.2.1 133 = .ok (.aload_n 2, 1) := by decide +kernel
theorem d_X2_orderFrom_134 : decode m_X2_orderFrom.2.1 134 = .ok (.invokevirtual 54, 3) := by decide +kernel
theorem d_X2_orderFrom_137 : decode m_X2_orderFrom.2.1 137 = .ok (.iinc 5 1, 3) := by decide +kernel
theorem d_X2_orderFrom_140 : decode m_X2_orderFrom.2.1 140 = .ok (.goto (-85), 3) := by decide +kernel
theorem d_X2_orderFrom_143 : decode m_X2_orderFrom.2.1 143 = .ok (.return_, 1) := by decide +kernel
set_option maxRecDepth 20000 in
theorem e_X2_orderFrom {E : jm_E} {d : Nat} {μ : jm_M} {Q : Option jm_V → jm_M → Prop} {v1 v2 v3 v4 : Int} (h : (∀ v ∈ ([jm_R 130, jm_R v1, jm_R v2, jm_I v3, jm_I v4] : List jm_V), jm_ok v) →
  (jm_is jm_N v1 1 1) ∧
  ((μ v1 0 ≤ v3 →
    jg E m_X2_orderFrom d 14 [some (jm_R 130), none, none, some (jm_I v3), none, none, none, none] [] μ Q) ∧
   (¬ (μ v1 0 ≤ v3) →
    ((v3 < 7 →
      jg E m_X2_orderFrom d 55 [some (jm_R 130), some (jm_R v1), some (jm_R v2), some (jm_I v3), some (jm_I v4), some (jm_I 0), none, none] [] μ Q) ∧
     (¬ (v3 < 7) →
      jg E m_X2_orderFrom d 14 [some (jm_R 130), none, none, some (jm_I v3), none, none, none, none] [] μ Q))))) : jc E m_X2_orderFrom (d + 1) [jm_R 130, jm_R v1, jm_R v2, jm_I v3, jm_I v4] μ Q := by
  refine jm_Cl.of2 (by decide +kernel) (L0 := [some (jm_R 130), some (jm_R v1), some (jm_R v2), some (jm_I v3), some (jm_I v4), none, none, none]) rfl (Nat.le_of_ble_eq_true rfl) (fun hok => ?_)
  have h := h hok
  refine jm_iloadn d_X2_orderFrom_0 rfl ?_
  refine jm_aloadn d_X2_orderFrom_1 rfl ?_
  obtain ⟨f1, h⟩ := h
  refine jm_getI (k := 0) (ki := 0) cf_X1 (Nat.le_of_ble_eq_true rfl) f_X2_32 d_X2_orderFrom_2 rfl rfl f1 rfl ?_
  refine jm_icmp_ge (tgt := 14) d_X2_orderFrom_5 (by decide) (fun c2 => ?_) (fun c2 => ?_)
  · have h := h.1 c2
    exact jm_weak2 h (And.intro rfl (And.intro rfl trivial))
  · have h := h.2 c2
    refine jm_iloadn d_X2_orderFrom_8 rfl ?_
    refine jm_bipush (v := 7) d_X2_orderFrom_9 rfl (jm_okI (by decide) (by decide)) ?_
    refine jm_icmp_lt (tgt := 52) d_X2_orderFrom_11 (by decide) (fun c3 => ?_) (fun c3 => ?_)
    · have h := h.1 c3
      refine jm_iconst (v := 0) d_X2_orderFrom_52 rfl (jm_okI (by decide) (by decide)) ?_
      refine jm_istore (L' := [some (jm_R _), some (jm_R _), some (jm_R _), some (jm_I _), some (jm_I _), some (jm_I _), none, none]) d_X2_orderFrom_53 (Nat.le_of_ble_eq_true rfl) rfl ?_
      exact h
    · have h := h.2 c3
      exact jm_weak2 h (And.intro rfl (And.intro rfl trivial))
set_option maxRecDepth 20000 in
theorem r_X2_orderFrom_14 {E : jm_E} {d : Nat} {μ : jm_M} {Q : Option jm_V → jm_M → Prop} {v3 : Int} (h :
  ((μ 130 3 ≠ 0 →
    Q none (jm_up μ 130 3 (jm_wr ((μ 130 3) + 1)))) ∧
   (¬ (μ 130 3 ≠ 0) →
    ∀ m2 : jm_M, m2 = jm_cpy μ 131 0 132 0 7 →
    Q none (jm_up (jm_up m2 130 6 v3) 130 3 (jm_wr ((m2 130 3) + 1)))))) : jg E m_X2_orderFrom d 14 [some (jm_R 130), none, none, some (jm_I v3), none, none, none, none] [] μ Q := by
  refine jm_aloadn d_X2_orderFrom_14 rfl ?_
  refine jm_getI (k := 3) (ki := 3) cf_X2 (Nat.le_of_ble_eq_true rfl) f_X2_57 d_X2_orderFrom_15 rfl rfl is_130 rfl ?_
  refine jm_if_ne (tgt := 41) d_X2_orderFrom_18 (by decide) (fun c1 => ?_) (fun c1 => ?_)
  · have h := h.1 c1
    refine jm_aloadn d_X2_orderFrom_41 rfl ?_
    refine jm_dup rfl d_X2_orderFrom_42 ?_
    refine jm_getI (k := 3) (ki := 3) cf_X2 (Nat.le_of_ble_eq_true rfl) f_X2_57 d_X2_orderFrom_43 rfl rfl is_130 rfl ?_
    refine jm_iconst (v := 1) d_X2_orderFrom_46 rfl (jm_okI (by decide) (by decide)) ?_
    refine jm_iadd d_X2_orderFrom_47 ?_
    refine jm_putI (k := 3) (ki := 3) cf_X2 (Nat.le_of_ble_eq_true rfl) f_X2_57 d_X2_orderFrom_48 (fun z => absurd z (by decide)) rfl rfl rfl (fun _ => rfl) is_130 ?_
    exact jm_ret (o := none) d_X2_orderFrom_51 rfl ⟨Nat.le_refl _, Nat.le_refl _⟩ jm_r_V h rfl
  · have h := h.2 c1
    refine jm_aloadn d_X2_orderFrom_21 rfl ?_
    refine jm_getF (k := 4) (ki := 4) rfl cf_X2 (Nat.le_of_ble_eq_true rfl) f_X2_15 d_X2_orderFrom_22 rfl rfl is_130 fr_130_4 ?_
    refine jm_iconst (v := 0) d_X2_orderFrom_25 rfl (jm_okI (by decide) (by decide)) ?_
    refine jm_aloadn d_X2_orderFrom_26 rfl ?_
    refine jm_getF (k := 5) (ki := 5) rfl cf_X2 (Nat.le_of_ble_eq_true rfl) f_X2_19 d_X2_orderFrom_27 rfl rfl is_130 fr_130_5 ?_
    refine jm_iconst (v := 0) d_X2_orderFrom_30 rfl (jm_okI (by decide) (by decide)) ?_
    refine jm_bipush (v := 7) d_X2_orderFrom_31 rfl (jm_okI (by decide) (by decide)) ?_
    refine jm_acp ⟨by decide, ial_131, by rw [snl_131]; decide, ial_132, by rw [snl_132]; decide⟩ l_X2_64 d_X2_orderFrom_33 ?_
    have h := h _ rfl
    refine jm_aloadn d_X2_orderFrom_36 rfl ?_
    refine jm_iloadn d_X2_orderFrom_37 rfl ?_
    refine jm_putI (k := 6) (ki := 6) cf_X2 (Nat.le_of_ble_eq_true rfl) f_X2_70 d_X2_orderFrom_38 (fun z => absurd z (by decide)) rfl rfl rfl (fun _ => rfl) is_130 ?_
    refine jm_aloadn d_X2_orderFrom_41 rfl ?_
    refine jm_dup rfl d_X2_orderFrom_42 ?_
    refine jm_getI (k := 3) (ki := 3) cf_X2 (Nat.le_of_ble_eq_true rfl) f_X2_57 d_X2_orderFrom_43 rfl rfl is_130 ((jm_up_i (by decide)).trans rfl) ?_
    refine jm_iconst (v := 1) d_X2_orderFrom_46 rfl (jm_okI (by decide) (by decide)) ?_
    refine jm_iadd d_X2_orderFrom_47 ?_
    refine jm_putI (k := 3) (ki := 3) cf_X2 (Nat.le_of_ble_eq_true rfl) f_X2_57 d_X2_orderFrom_48 (fun z => absurd z (by decide)) rfl rfl rfl (fun _ => rfl) is_130 ?_
    exact jm_ret (o := none) d_X2_orderFrom_51 rfl ⟨Nat.le_refl _, Nat.le_refl _⟩ jm_r_V h rfl
set_option maxRecDepth 20000 in
theorem r_X2_orderFrom_55 {E : jm_E} {d : Nat} {μ : jm_M} {Q : Option jm_V → jm_M → Prop} {v1 v2 v3 v4 v5 : Int} (h :
  (jm_is jm_N v1 1 1) ∧
  ((μ v1 0 ≤ v5 →
    Q none μ) ∧
   (¬ (μ v1 0 ≤ v5) →
    jc E m_X1_whoAt d [jm_R v1, jm_I v5] μ (fun (o : Option jm_V) (m3 : jm_M) => ∀ r4 : Int, o = some (jm_I r4) →
    jc E m_X1_kindAt d [jm_R v1, jm_I v5] m3 (fun (o : Option jm_V) (m5 : jm_M) => ∀ r6 : Int, o = some (jm_I r6) →
    (((jm_and (jm_shr v4 v5) 1) ≠ 0 →
      jg E m_X2_orderFrom d 55 [some (jm_R 130), some (jm_R v1), some (jm_R v2), some (jm_I v3), some (jm_I v4), some (jm_I (jm_wr (v5 + 1))), none, none] [] m5 Q) ∧
     (¬ ((jm_and (jm_shr v4 v5) 1) ≠ 0) →
      (jm_is jm_N v2 1 6) ∧
      jc E m_X6_flaw d [jm_R v2, jm_I r4, jm_I r6] m5 (fun (o : Option jm_V) (m8 : jm_M) => ∀ r10 : Int, o = some (jm_I r10) →
      ((r10 ≠ 0 →
        jg E m_X2_orderFrom d 55 [some (jm_R 130), some (jm_R v1), some (jm_R v2), some (jm_I v3), some (jm_I v4), some (jm_I (jm_wr (v5 + 1))), none, none] [] m8 Q) ∧
       (¬ (r10 ≠ 0) →
        (0 ≤ v3 ∧ v3 < 7) ∧
        ∀ m13 : jm_M, m13 = (jm_up m8 131 v3 v5) →
        jc E m_X6_add d [jm_R v2, jm_I r4, jm_I r6] m13 (fun (o : Option jm_V) (m14 : jm_M) => o = none →
        jc E m_X2_orderFrom d [jm_R 130, jm_R v1, jm_R v2, jm_I (jm_wr (v3 + 1)), jm_I (jm_or v4 (jm_shl 1 v5))] m14 (fun (o : Option jm_V) (m15 : jm_M) => o = none →
        jc E m_X6_takeBack d [jm_R v2] m15 (fun (o : Option jm_V) (m16 : jm_M) => o = none →
        jg E m_X2_orderFrom d 55 [some (jm_R 130), some (jm_R v1), some (jm_R v2), some (jm_I v3), some (jm_I v4), some (jm_I (jm_wr (v5 + 1))), none, none] [] m16 Q))))))))))))) : jg E m_X2_orderFrom d 55 [some (jm_R 130), some (jm_R v1), some (jm_R v2), some (jm_I v3), some (jm_I v4), some (jm_I v5), none, none] [] μ Q := by
  refine jm_iload d_X2_orderFrom_55 rfl ?_
  refine jm_aloadn d_X2_orderFrom_57 rfl ?_
  obtain ⟨f1, h⟩ := h
  refine jm_getI (k := 0) (ki := 0) cf_X1 (Nat.le_of_ble_eq_true rfl) f_X2_32 d_X2_orderFrom_58 rfl rfl f1 rfl ?_
  refine jm_icmp_ge (tgt := 143) d_X2_orderFrom_61 (by decide) (fun c2 => ?_) (fun c2 => ?_)
  · have h := h.1 c2
    exact jm_ret (o := none) d_X2_orderFrom_143 rfl ⟨Nat.le_refl _, Nat.le_refl _⟩ jm_r_V h rfl
  · have h := h.2 c2
    refine jm_aloadn d_X2_orderFrom_64 rfl ?_
    refine jm_iload d_X2_orderFrom_65 rfl ?_
    refine jm_invV (n1 := jm_N) (mc := 0) (ms := 0) (av := [jm_I _]) w_X1_whoAt l_X2_37 d_X2_orderFrom_67 rfl f1 ⟨_, _, rfl⟩ ⟨Nat.le_refl _, Nat.le_refl _⟩ (Nat.le_of_ble_eq_true rfl) rfl ?_
    refine jm_Cl.mono h (fun o m3 h hr _ => ?_)
    obtain ⟨r4, rfl⟩ := jm_rokI hr
    have h := h _ rfl
    refine jm_istore (L' := [some (jm_R _), some (jm_R _), some (jm_R _), some (jm_I _), some (jm_I _), some (jm_I _), some (jm_I _), none]) d_X2_orderFrom_70 (Nat.le_of_ble_eq_true rfl) rfl ?_
    refine jm_aloadn d_X2_orderFrom_72 rfl ?_
    refine jm_iload d_X2_orderFrom_73 rfl ?_
    refine jm_invV (n1 := jm_N) (mc := 0) (ms := 0) (av := [jm_I _]) w_X1_kindAt l_X2_41 d_X2_orderFrom_75 rfl f1 ⟨_, _, rfl⟩ ⟨Nat.le_refl _, Nat.le_refl _⟩ (Nat.le_of_ble_eq_true rfl) rfl ?_
    refine jm_Cl.mono h (fun o m5 h hr _ => ?_)
    obtain ⟨r6, rfl⟩ := jm_rokI hr
    have h := h _ rfl
    refine jm_istore (L' := [some (jm_R _), some (jm_R _), some (jm_R _), some (jm_I _), some (jm_I _), some (jm_I _), some (jm_I _), some (jm_I _)]) d_X2_orderFrom_78 (Nat.le_of_ble_eq_true rfl) rfl ?_
    refine jm_iload d_X2_orderFrom_80 rfl ?_
    refine jm_iload d_X2_orderFrom_82 rfl ?_
    refine jm_ishr d_X2_orderFrom_84 ?_
    refine jm_iconst (v := 1) d_X2_orderFrom_85 rfl (jm_okI (by decide) (by decide)) ?_
    refine jm_iand d_X2_orderFrom_86 ?_
    refine jm_if_ne (tgt := 137) d_X2_orderFrom_87 (by decide) (fun c7 => ?_) (fun c7 => ?_)
    · have h := h.1 c7
      refine jm_iinc (L' := [some (jm_R _), some (jm_R _), some (jm_R _), some (jm_I _), some (jm_I _), some (jm_I _), some (jm_I _), some (jm_I _)]) d_X2_orderFrom_137 rfl rfl (Nat.le_of_ble_eq_true rfl) rfl ?_
      refine jm_goto (tgt := 55) d_X2_orderFrom_140 (by decide) ?_
      exact jm_weak2 h (And.intro rfl (And.intro rfl (And.intro rfl (And.intro rfl (And.intro rfl (And.intro rfl trivial))))))
    · have h := h.2 c7
      refine jm_aloadn d_X2_orderFrom_90 rfl ?_
      refine jm_iload d_X2_orderFrom_91 rfl ?_
      refine jm_iload d_X2_orderFrom_93 rfl ?_
      obtain ⟨f9, h⟩ := h
      refine jm_invV (n1 := jm_N) (mc := 0) (ms := 0) (av := [jm_I _, jm_I _]) w_X6_flaw l_X2_44 d_X2_orderFrom_95 rfl f9 ⟨_, _, rfl⟩ ⟨Nat.le_refl _, Nat.le_refl _⟩ (Nat.le_of_ble_eq_true rfl) rfl ?_
      refine jm_Cl.mono h (fun o m8 h hr _ => ?_)
      obtain ⟨r10, rfl⟩ := jm_rokI hr
      have h := h _ rfl
      refine jm_if_ne (tgt := 137) d_X2_orderFrom_98 (by decide) (fun c11 => ?_) (fun c11 => ?_)
      · have h := h.1 c11
        refine jm_iinc (L' := [some (jm_R _), some (jm_R _), some (jm_R _), some (jm_I _), some (jm_I _), some (jm_I _), some (jm_I _), some (jm_I _)]) d_X2_orderFrom_137 rfl rfl (Nat.le_of_ble_eq_true rfl) rfl ?_
        refine jm_goto (tgt := 55) d_X2_orderFrom_140 (by decide) ?_
        exact jm_weak2 h (And.intro rfl (And.intro rfl (And.intro rfl (And.intro rfl (And.intro rfl (And.intro rfl trivial))))))
      · have h := h.2 c11
        refine jm_aloadn d_X2_orderFrom_101 rfl ?_
        refine jm_getF (k := 4) (ki := 4) rfl cf_X2 (Nat.le_of_ble_eq_true rfl) f_X2_15 d_X2_orderFrom_102 rfl rfl is_130 fr_130_4 ?_
        refine jm_iloadn d_X2_orderFrom_105 rfl ?_
        refine jm_iload d_X2_orderFrom_106 rfl ?_
        obtain ⟨f12, h⟩ := h
        refine jm_iastore d_X2_orderFrom_108 (ixl_131 f12.1 f12.2) ?_
        have h := h _ rfl
        refine jm_aloadn d_X2_orderFrom_109 rfl ?_
        refine jm_iload d_X2_orderFrom_110 rfl ?_
        refine jm_iload d_X2_orderFrom_112 rfl ?_
        refine jm_invV (n1 := jm_N) (mc := 0) (ms := 0) (av := [jm_I _, jm_I _]) w_X6_add l_X2_50 d_X2_orderFrom_114 rfl f9 ⟨_, _, rfl⟩ ⟨Nat.le_refl _, Nat.le_refl _⟩ (Nat.le_of_ble_eq_true rfl) rfl ?_
        refine jm_Cl.mono h (fun o m14 h hr _ => ?_)
        obtain rfl := jm_rokV hr
        have h := h rfl
        refine jm_aloadn d_X2_orderFrom_117 rfl ?_
        refine jm_aloadn d_X2_orderFrom_118 rfl ?_
        refine jm_aloadn d_X2_orderFrom_119 rfl ?_
        refine jm_iloadn d_X2_orderFrom_120 rfl ?_
        refine jm_iconst (v := 1) d_X2_orderFrom_121 rfl (jm_okI (by decide) (by decide)) ?_
        refine jm_iadd d_X2_orderFrom_122 ?_
        refine jm_iload d_X2_orderFrom_123 rfl ?_
        refine jm_iconst (v := 1) d_X2_orderFrom_125 rfl (jm_okI (by decide) (by decide)) ?_
        refine jm_iload d_X2_orderFrom_126 rfl ?_
        refine jm_ishl d_X2_orderFrom_128 ?_
        refine jm_ior d_X2_orderFrom_129 ?_
        refine jm_invV (n1 := jm_N) (mc := 0) (ms := 0) (av := [jm_R _, jm_R _, jm_I _, jm_I _]) w_X2_orderFrom l_X2_60 d_X2_orderFrom_130 rfl is_130 ⟨_, _, rfl⟩ ⟨Nat.le_refl _, Nat.le_refl _⟩ (Nat.le_of_ble_eq_true rfl) rfl ?_
        refine jm_Cl.mono h (fun o m15 h hr _ => ?_)
        obtain rfl := jm_rokV hr
        have h := h rfl
        refine jm_aloadn d_X2_orderFrom_133 rfl ?_
        refine jm_invV (n1 := jm_N) (mc := 0) (ms := 0) (av := []) w_X6_takeBack l_X2_54 d_X2_orderFrom_134 rfl f9 ⟨_, _, rfl⟩ ⟨Nat.le_refl _, Nat.le_refl _⟩ (Nat.le_of_ble_eq_true rfl) rfl ?_
        refine jm_Cl.mono h (fun o m16 h hr _ => ?_)
        obtain rfl := jm_rokV hr
        have h := h rfl
        refine jm_iinc (L' := [some (jm_R _), some (jm_R _), some (jm_R _), some (jm_I _), some (jm_I _), some (jm_I _), some (jm_I _), some (jm_I _)]) d_X2_orderFrom_137 rfl rfl (Nat.le_of_ble_eq_true rfl) rfl ?_
        refine jm_goto (tgt := 55) d_X2_orderFrom_140 (by decide) ?_
        exact jm_weak2 h (And.intro rfl (And.intro rfl (And.intro rfl (And.intro rfl (And.intro rfl (And.intro rfl trivial))))))
