/-! ('CombTableModel', 'word', '(II)I') -/
theorem d_X11_word_0 : decode m_X11_word.2.1 0 = .ok (.iload_n 1, 1) := by decide +kernel
theorem d_X11_word_1 : decode m_X11_word.2.1 1 = .ok (.ifCond .lt 24, 3) := by decide +kernel
theorem d_X11_word_4 : decode m_X11_word.2.1 4 = .ok (.iload_n 1, 1) := by decide +kernel
theorem d_X11_word_5 : decode m_X11_word.2.1 5 = .ok (.aload_n 0, 1) := by decide +kernel
theorem d_X11_word_6 : decode m_X11_word.2.1 6 = .ok (.getfield 13, 3) := by decide +kernel
theorem d_X11_word_9 : decode m_X11_word.2.1 9 = .ok (.bipush 60, 2) := by decide +kernel
theorem d_X11_word_11 : decode m_X11_word.2.1 11 = .ok (.iaload, 1) := by decide +kernel
theorem d_X11_word_12 : decode m_X11_word.2.1 12 = .ok (.if_icmp .ge 13, 3) := by decide +kernel
theorem d_X11_word_15 : decode m_X11_word.2.1 15 = .ok (.iload_n 2, 1) := by decide +kernel
theorem d_X11_word_16 : decode m_X11_word.2.1 16 = .ok (.iconst 0, 1) := by decide +kernel
theorem d_X11_word_17 : decode m_X11_word.2.1 17 = .ok (.bipush 7, 2) := by decide +kernel
theorem d_X11_word_19 : decode m_X11_word.2.1 19 = .ok (.invokestatic 177, 3) := by decide +kernel
theorem d_X11_word_22 : decode m_X11_word.2.1 22 = .ok (.ifCond .ne 8, 3) := by decide +kernel
theorem d_X11_word_25 : decode m_X11_word.2.1 25 = .ok (.aload_n 0, 1) := by decide +kernel
theorem d_X11_word_26 : decode m_X11_word.2.1 26 = .ok (.invokevirtual 248, 3) := by decide +kernel
theorem d_X11_word_29 : decode m_X11_word.2.1 29 = .ok (.ireturn, 1) := by decide +kernel
theorem d_X11_word_30 : decode m_X11_word.2.1 30 = .ok (.aload_n 0, 1) := by decide +kernel
theorem d_X11_word_31 : decode m_X11_word.2.1 31 = .ok (.iconst 0, 1) := by decide +kernel
theorem d_X11_word_32 : decode m_X11_word.2.1 32 = .ok (.putfield 106, 3) := by decide +kernel
theorem d_X11_word_35 : decode m_X11_word.2.1 35 = .ok (.aload_n 0, 1) := by decide +kernel
theorem d_X11_word_36 : decode m_X11_word.2.1 36 = .ok (.invokevirtual 270, 3) := by decide +kernel
theorem d_X11_word_39 : decode m_X11_word.2.1 39 = .ok (.iload_n 2, 1) := by decide +kernel
theorem d_X11_word_40 : decode m_X11_word.2.1 40 = .ok (.tableswitch 110 0 6 #[44, 51, 58, 65, 72, 79, 86], 44) := by decide +kernel
theorem d_X11_word_84 : decode m_X11_word.2.1 84 = .ok (.aload_n 0, 1) := by decide +kernel
theorem d_X11_word_85 : decode m_X11_word.2.1 85 = .ok (.getfield 42, 3) := by decide +kernel
theorem d_X11_word_88 : decode m_X11_word.2.1 88 = .ok (.iload_n 1, 1) := by decide +kernel
theorem d_X11_word_89 : decode m_X11_word.2.1 89 = .ok (.iaload, 1) := by decide +kernel
theorem d_X11_word_90 : decode m_X11_word.2.1 90 = .ok (.ireturn, 1) := by decide +kernel
theorem d_X11_word_91 : decode m_X11_word.2.1 91 = .ok (.aload_n 0, 1) := by decide +kernel
theorem d_X11_word_92 : decode m_X11_word.2.1 92 = .ok (.getfield 45, 3) := by decide +kernel
theorem d_X11_word_95 : decode m_X11_word.2.1 95 = .ok (.iload_n 1, 1) := by decide +kernel
theorem d_X11_word_96 : decode m_X11_word.2.1 96 = .ok (.iaload, 1) := by decide +kernel
theorem d_X11_word_97 : decode m_X11_word.2.1 97 = .ok (.ireturn, 1) := by decide +kernel
theorem d_X11_word_98 : decode m_X11_word.2.1 98 = .ok (.aload_n 0, 1) := by decide +kernel
theorem d_X11_word_99 : decode m_X11_word.2.1 99 = .ok (.getfield 48, 3) := by decide +kernel
theorem d_X11_word_102 : decode m_X11_word.2.1 102 = .ok (.iload_n 1, 1) := by decide +kernel
theorem d_X11_word_103 : decode m_X11_word.2.1 103 = .ok (.iaload, 1) := by decide +kernel
theorem d_X11_word_104 : decode m_X11_word.2.1 104 = .ok (.ireturn, 1) := by decide +kernel
theorem d_X11_word_105 : decode m_X11_word.2.1 105 = .ok (.aload_n 0, 1) := by decide +kernel
theorem d_X11_word_106 : decode m_X11_word.2.1 106 = .ok (.getfield 51, 3) := by decide +kernel
theorem d_X11_word_109 : decode m_X11_word.2.1 109 = .ok (.iload_n 1, 1) := by decide +kernel
theorem d_X11_word_110 : decode m_X11_word.2.1 110 = .ok (.iaload, 1) := by decide +kernel
theorem d_X11_word_111 : decode m_X11_word.2.1 111 = .ok (.ireturn, 1) := by decide +kernel
theorem d_X11_word_112 : decode m_X11_word.2.1 112 = .ok (.aload_n 0, 1) := by decide +kernel
theorem d_X11_word_113 : decode m_X11_word.2.1 113 = .ok (.getfield 54, 3) := by decide +kernel
theorem d_X11_word_116 : decode m_X11_word.2.1 116 = .ok (.iload_n 1, 1) := by decide +kernel
theorem d_X11_word_117 : decode m_X11_word.2.1 117 = .ok (.iaload, 1) := by decide +kernel
theorem d_X11_word_118 : decode m_X11_word.2.1 118 = .ok (.ireturn, 1) := by decide +kernel
theorem d_X11_word_119 : decode m_X11_word.2.1 119 = .ok (.aload_n 0, 1) := by decide +kernel
theorem d_X11_word_120 : decode m_X11_word.2.1 120 = .ok (.iconst 0, 1) := by decide +kernel
theorem d_X11_word_121 : decode m_X11_word.2.1 121 = .ok (.iload_n 1, 1) := by decide +kernel
theorem d_X11_word_122 : decode m_X11_word.2.1 122 = .ok (.invokevirtual 289, 3) := by decide +kernel
theorem d_X11_word_125 : decode m_X11_word.2.1 125 = .ok (.ireturn, 1) := by decide +kernel
theorem d_X11_word_126 : decode m_X11_word.2.1 126 = .ok (.aload_n 0, 1) := by decide +kernel
theorem d_X11_word_127 : decode m_X11_word.2.1 127 = .ok (.iload_n 1, 1) := by decide +kernel
theorem d_X11_word_128 : decode m_X11_word.2.1 128 = .ok (.invokevirtual 292, 3) := by decide +kernel
theorem d_X11_word_131 : decode m_X11_word.2.1 131 = .ok (.ifCond .eq 17, 3) := by decide +kernel
theorem d_X11_word_134 : decode m_X11_word.2.1 134 = .ok (.aload_n 0, 1) := by decide +kernel
theorem d_X11_word_135 : decode m_X11_word.2.1 135 = .ok (.getfield 42, 3) := by decide +kernel
theorem d_X11_word_138 : decode m_X11_word.2.1 138 = .ok (.aload_n 0, 1) := by decide +kernel
theorem d_X11_word_139 : decode m_X11_word.2.1 139 = .ok (.getfield 48, 3) := by decide +kernel
theorem d_X11_word_142 : decode m_X11_word.2.1 142 = .ok (.iload_n 1, 1) := by decide +kernel
theorem d_X11_word_143 : decode m_X11_word.2.1 143 = .ok (.iaload, 1) := by decide +kernel
theorem d_X11_word_144 : decode m_X11_word.2.1 144 = .ok (.iaload, 1) := by decide +kernel
theorem d_X11_word_145 : decode m_X11_word.2.1 145 = .ok (.goto 4, 3) := by decide +kernel
theorem d_X11_word_148 : decode m_X11_word.2.1 148 = .ok (.iconst (-1), 1) := by decide +kernel
theorem d_X11_word_149 : decode m_X11_word.2.1 149 = .ok (.ireturn, 1) := by decide +kernel
theorem d_X11_word_150 : decode m_X11_word.2.1 150 = .ok (.aload_n 0, 1) := by decide +kernel
theorem d_X11_word_151 : decode m_X11_word.2.1 151 = .ok (.iload_n 1, 1) := by decide +kernel
theorem d_X11_word_152 : decode m_X11_word.2.1 152 = .ok (.invokevirtual 292, 3) := by decide +kernel
theorem d_X11_word_155 : decode m_X11_word.2.1 155 = .ok (.ifCond .eq 20, 3) := by decide +kernel
theorem d_X11_word_158 : decode m_X11_word.2.1 158 = .ok (.iload_n 1, 1) := by decide +kernel
theorem d_X11_word_159 : decode m_X11_word.2.1 159 = .ok (.aload_n 0, 1) := by decide +kernel
theorem d_X11_word_160 : decode m_X11_word.2.1 160 = .ok (.iconst 0, 1) := by decide +kernel
theorem d_X11_word_161 : decode m_X11_word.2.1 161 = .ok (.aload_n 0, 1) := by decide +kernel
theorem d_X11_word_162 : decode m_X11_word.2.1 162 = .ok (.getfield 45, 3) := by decide +kernel
theorem d_X11_word_165 : decode m_X11_word.2.1 165 = .ok (.iload_n 1, 1) := by decide +kernel
theorem d_X11_word_166 : decode m_X11_word.2.1 166 = .ok (.iaload, 1) := by decide +kernel
theorem d_X11_word_167 : decode m_X11_word.2.1 167 = .ok (.iconst 2, 1) := by decide +kernel
theorem d_X11_word_168 : decode m_X11_word.2.1 168 = .ok (.invokevirtual 251, 3) := by decide +kernel
theorem d_X11_word_171 : decode m_X11_word.2.1 171 = .ok (.iadd, 1) := by decide +kernel
theorem d_X11_word_172 : decode m_X11_word.2.1 172 = .ok (.goto 4, 3) := by decide +kernel
theorem d_X11_word_175 : decode m_X11_word.2.1 175 = .ok (.iconst (-1), 1) := by decide +kernel
theorem d_X11_word_176 : decode m_X11_word.2.1 176 = .ok (.ireturn, 1) := by decide +kernel
set_option maxRecDepth 20000 in
theorem e_X11_word {E : jm_E} {d : Nat} {μ : jm_M} {Q : Option jm_V → jm_M → Prop} {v1 v2 : Int} (h : (∀ v ∈ ([jm_R 133, jm_I v1, jm_I v2] : List jm_V), jm_ok v) →
  ((v1 < 0 →
    jc E m_X11_refuse d [jm_R 133] μ (fun (o : Option jm_V) (m2 : jm_M) => ∀ r3 : Int, o = some (jm_I r3) →
    Q (some (jm_I r3)) m2)) ∧
   (¬ (v1 < 0) →
    ((μ 135 60 ≤ v1 →
      jc E m_X11_refuse d [jm_R 133] μ (fun (o : Option jm_V) (m5 : jm_M) => ∀ r6 : Int, o = some (jm_I r6) →
      Q (some (jm_I r6)) m5)) ∧
     (¬ (μ 135 60 ≤ v1) →
      jc E m_X11_isIn d [jm_I v2, jm_I 0, jm_I 7] μ (fun (o : Option jm_V) (m7 : jm_M) => ∀ r8 : Int, o = some (jm_I r8) → (r8 = 0 ∨ r8 = 1) →
      ((r8 ≠ 0 →
        jc E m_X11_lay d [jm_R 133] (jm_up m7 133 0 0) (fun (o : Option jm_V) (m11 : jm_M) => o = none →
        ((v2 = 0 →
          (0 ≤ v1 ∧ v1 < 800) ∧
          Q (some (jm_I (m11 144 v1))) m11) ∧
         (¬ (v2 = 0) →
          ((v2 = 1 →
            (0 ≤ v1 ∧ v1 < 800) ∧
            Q (some (jm_I (m11 145 v1))) m11) ∧
           (¬ (v2 = 1) →
            ((v2 = 2 →
              (0 ≤ v1 ∧ v1 < 800) ∧
              Q (some (jm_I (m11 146 v1))) m11) ∧
             (¬ (v2 = 2) →
              ((v2 = 3 →
                (0 ≤ v1 ∧ v1 < 800) ∧
                Q (some (jm_I (m11 147 v1))) m11) ∧
               (¬ (v2 = 3) →
                ((v2 = 4 →
                  (0 ≤ v1 ∧ v1 < 800) ∧
                  Q (some (jm_I (m11 148 v1))) m11) ∧
                 (¬ (v2 = 4) →
                  ((v2 = 5 →
                    jc E m_X11_stateOf d [jm_R 133, jm_I 0, jm_I v1] m11 (fun (o : Option jm_V) (m23 : jm_M) => ∀ r24 : Int, o = some (jm_I r24) →
                    Q (some (jm_I r24)) m23)) ∧
                   (¬ (v2 = 5) →
                    ((v2 = 6 →
                      jc E m_X11_isPromise d [jm_R 133, jm_I v1] m11 (fun (o : Option jm_V) (m26 : jm_M) => ∀ r27 : Int, o = some (jm_I r27) → (r27 = 0 ∨ r27 = 1) →
                      ((r27 = 0 →
                        Q (some (jm_I ((-1)))) m26) ∧
                       (¬ (r27 = 0) →
                        (0 ≤ v1 ∧ v1 < 800) ∧
                        (0 ≤ m26 146 v1 ∧ m26 146 v1 < 800) ∧
                        Q (some (jm_I (m26 144 (m26 146 v1)))) m26)))) ∧
                     (¬ (v2 = 6) →
                      jc E m_X11_isPromise d [jm_R 133, jm_I v1] m11 (fun (o : Option jm_V) (m32 : jm_M) => ∀ r33 : Int, o = some (jm_I r33) → (r33 = 0 ∨ r33 = 1) →
                      ((r33 = 0 →
                        Q (some (jm_I ((-1)))) m32) ∧
                       (¬ (r33 = 0) →
                        (0 ≤ v1 ∧ v1 < 800) ∧
                        jc E m_X11_ofKind d [jm_R 133, jm_I 0, jm_I (m32 145 v1), jm_I 2] m32 (fun (o : Option jm_V) (m37 : jm_M) => ∀ r38 : Int, o = some (jm_I r38) →
                        Q (some (jm_I (jm_wr (v1 + r38)))) m37)))))))))))))))))))) ∧
       (¬ (r8 ≠ 0) →
        jc E m_X11_refuse d [jm_R 133] m7 (fun (o : Option jm_V) (m39 : jm_M) => ∀ r40 : Int, o = some (jm_I r40) →
        Q (some (jm_I r40)) m39))))))))) : jc E m_X11_word (d + 1) [jm_R 133, jm_I v1, jm_I v2] μ Q := by
  refine jm_Cl.of2 (by decide +kernel) (L0 := [some (jm_R 133), some (jm_I v1), some (jm_I v2)]) rfl (Nat.le_of_ble_eq_true rfl) (fun hok => ?_)
  have h := h hok
  refine jm_iloadn d_X11_word_0 rfl ?_
  refine jm_if_lt (tgt := 25) d_X11_word_1 (by decide) (fun c1 => ?_) (fun c1 => ?_)
  · have h := h.1 c1
    refine jm_aloadn d_X11_word_25 rfl ?_
    refine jm_invV (n1 := jm_N) (mc := 0) (ms := 0) (av := []) w_X11_refuse l_X11_248 d_X11_word_26 rfl is_133 ⟨_, _, rfl⟩ ⟨Nat.le_refl _, Nat.le_refl _⟩ (Nat.le_of_ble_eq_true rfl) rfl ?_
    refine jm_Cl.mono h (fun o m2 h hr _ => ?_)
    obtain ⟨r3, rfl⟩ := jm_rokI hr
    have h := h _ rfl
    exact jm_ret (o := some (jm_I _)) d_X11_word_29 rfl ⟨Nat.le_refl _, Nat.le_refl _⟩ jm_r_I h rfl
  · have h := h.2 c1
    refine jm_iloadn d_X11_word_4 rfl ?_
    refine jm_aloadn d_X11_word_5 rfl ?_
    refine jm_getF (k := 14) (ki := 14) rfl cf_X11 (Nat.le_of_ble_eq_true rfl) f_X11_13 d_X11_word_6 rfl rfl is_133 fr_133_14 ?_
    refine jm_bipush (v := 60) d_X11_word_9 rfl (jm_okI (by decide) (by decide)) ?_
    refine jm_iaload d_X11_word_11 (ixl_135 (by decide) (by decide)) ?_
    refine jm_icmp_ge (tgt := 25) d_X11_word_12 (by decide) (fun c4 => ?_) (fun c4 => ?_)
    · have h := h.1 c4
      refine jm_aloadn d_X11_word_25 rfl ?_
      refine jm_invV (n1 := jm_N) (mc := 0) (ms := 0) (av := []) w_X11_refuse l_X11_248 d_X11_word_26 rfl is_133 ⟨_, _, rfl⟩ ⟨Nat.le_refl _, Nat.le_refl _⟩ (Nat.le_of_ble_eq_true rfl) rfl ?_
      refine jm_Cl.mono h (fun o m5 h hr _ => ?_)
      obtain ⟨r6, rfl⟩ := jm_rokI hr
      have h := h _ rfl
      exact jm_ret (o := some (jm_I _)) d_X11_word_29 rfl ⟨Nat.le_refl _, Nat.le_refl _⟩ jm_r_I h rfl
    · have h := h.2 c4
      refine jm_iloadn d_X11_word_15 rfl ?_
      refine jm_iconst (v := 0) d_X11_word_16 rfl (jm_okI (by decide) (by decide)) ?_
      refine jm_bipush (v := 7) d_X11_word_17 rfl (jm_okI (by decide) (by decide)) ?_
      refine jm_invS (n1 := jm_N) (mc := 0) (ms := 0) (av := [jm_I _, jm_I _, jm_I _]) w_X11_isIn l_X11_177 d_X11_word_19 rfl ⟨Nat.le_refl _, Nat.le_refl _⟩ (Nat.le_of_ble_eq_true rfl) rfl ?_
      refine jm_Cl.mono h (fun o m7 h hr _ => ?_)
      obtain ⟨r8, rfl, z9⟩ := jm_rokZ hr
      have h := h _ rfl z9
      refine jm_if_ne (tgt := 30) d_X11_word_22 (by decide) (fun c10 => ?_) (fun c10 => ?_)
      · have h := h.1 c10
        refine jm_aloadn d_X11_word_30 rfl ?_
        refine jm_iconst (v := 0) d_X11_word_31 rfl (jm_okI (by decide) (by decide)) ?_
        refine jm_putI (k := 0) (ki := 0) cf_X11 (Nat.le_of_ble_eq_true rfl) f_X11_106 d_X11_word_32 (fun z => absurd z (by decide)) rfl rfl rfl (fun _ => rfl) is_133 ?_
        refine jm_aloadn d_X11_word_35 rfl ?_
        refine jm_invV (n1 := jm_N) (mc := 0) (ms := 0) (av := []) w_X11_lay l_X11_270 d_X11_word_36 rfl is_133 ⟨_, _, rfl⟩ ⟨Nat.le_refl _, Nat.le_refl _⟩ (Nat.le_of_ble_eq_true rfl) rfl ?_
        refine jm_Cl.mono h (fun o m11 h hr _ => ?_)
        obtain rfl := jm_rokV hr
        have h := h rfl
        refine jm_iloadn d_X11_word_39 rfl ?_
        by_cases c12 : v2 = 0
        · have h := h.1 c12
          refine jm_table (tgt := 84) (off := 44) d_X11_word_40 (by rw [c12]; decide) (by rw [c12]; decide) (by rw [c12]; rfl) (by decide) ?_
          refine jm_aloadn d_X11_word_84 rfl ?_
          refine jm_getF (k := 23) (ki := 23) rfl cf_X11 (Nat.le_of_ble_eq_true rfl) f_X11_42 d_X11_word_85 rfl rfl is_133 fr_133_23 ?_
          refine jm_iloadn d_X11_word_88 rfl ?_
          obtain ⟨f13, h⟩ := h
          refine jm_iaload d_X11_word_89 (ixl_144 f13.1 f13.2) ?_
          exact jm_ret (o := some (jm_I _)) d_X11_word_90 rfl ⟨Nat.le_refl _, Nat.le_refl _⟩ jm_r_I h rfl
        · have h := h.2 c12
          by_cases c14 : v2 = 1
          · have h := h.1 c14
            refine jm_table (tgt := 91) (off := 51) d_X11_word_40 (by rw [c14]; decide) (by rw [c14]; decide) (by rw [c14]; rfl) (by decide) ?_
            refine jm_aloadn d_X11_word_91 rfl ?_
            refine jm_getF (k := 24) (ki := 24) rfl cf_X11 (Nat.le_of_ble_eq_true rfl) f_X11_45 d_X11_word_92 rfl rfl is_133 fr_133_24 ?_
            refine jm_iloadn d_X11_word_95 rfl ?_
            obtain ⟨f15, h⟩ := h
            refine jm_iaload d_X11_word_96 (ixl_145 f15.1 f15.2) ?_
            exact jm_ret (o := some (jm_I _)) d_X11_word_97 rfl ⟨Nat.le_refl _, Nat.le_refl _⟩ jm_r_I h rfl
          · have h := h.2 c14
            by_cases c16 : v2 = 2
            · have h := h.1 c16
              refine jm_table (tgt := 98) (off := 58) d_X11_word_40 (by rw [c16]; decide) (by rw [c16]; decide) (by rw [c16]; rfl) (by decide) ?_
              refine jm_aloadn d_X11_word_98 rfl ?_
              refine jm_getF (k := 25) (ki := 25) rfl cf_X11 (Nat.le_of_ble_eq_true rfl) f_X11_48 d_X11_word_99 rfl rfl is_133 fr_133_25 ?_
              refine jm_iloadn d_X11_word_102 rfl ?_
              obtain ⟨f17, h⟩ := h
              refine jm_iaload d_X11_word_103 (ixl_146 f17.1 f17.2) ?_
              exact jm_ret (o := some (jm_I _)) d_X11_word_104 rfl ⟨Nat.le_refl _, Nat.le_refl _⟩ jm_r_I h rfl
            · have h := h.2 c16
              by_cases c18 : v2 = 3
              · have h := h.1 c18
                refine jm_table (tgt := 105) (off := 65) d_X11_word_40 (by rw [c18]; decide) (by rw [c18]; decide) (by rw [c18]; rfl) (by decide) ?_
                refine jm_aloadn d_X11_word_105 rfl ?_
                refine jm_getF (k := 26) (ki := 26) rfl cf_X11 (Nat.le_of_ble_eq_true rfl) f_X11_51 d_X11_word_106 rfl rfl is_133 fr_133_26 ?_
                refine jm_iloadn d_X11_word_109 rfl ?_
                obtain ⟨f19, h⟩ := h
                refine jm_iaload d_X11_word_110 (ixl_147 f19.1 f19.2) ?_
                exact jm_ret (o := some (jm_I _)) d_X11_word_111 rfl ⟨Nat.le_refl _, Nat.le_refl _⟩ jm_r_I h rfl
              · have h := h.2 c18
                by_cases c20 : v2 = 4
                · have h := h.1 c20
                  refine jm_table (tgt := 112) (off := 72) d_X11_word_40 (by rw [c20]; decide) (by rw [c20]; decide) (by rw [c20]; rfl) (by decide) ?_
                  refine jm_aloadn d_X11_word_112 rfl ?_
                  refine jm_getF (k := 27) (ki := 27) rfl cf_X11 (Nat.le_of_ble_eq_true rfl) f_X11_54 d_X11_word_113 rfl rfl is_133 fr_133_27 ?_
                  refine jm_iloadn d_X11_word_116 rfl ?_
                  obtain ⟨f21, h⟩ := h
                  refine jm_iaload d_X11_word_117 (ixl_148 f21.1 f21.2) ?_
                  exact jm_ret (o := some (jm_I _)) d_X11_word_118 rfl ⟨Nat.le_refl _, Nat.le_refl _⟩ jm_r_I h rfl
                · have h := h.2 c20
                  by_cases c22 : v2 = 5
                  · have h := h.1 c22
                    refine jm_table (tgt := 119) (off := 79) d_X11_word_40 (by rw [c22]; decide) (by rw [c22]; decide) (by rw [c22]; rfl) (by decide) ?_
                    refine jm_aloadn d_X11_word_119 rfl ?_
                    refine jm_iconst (v := 0) d_X11_word_120 rfl (jm_okI (by decide) (by decide)) ?_
                    refine jm_iloadn d_X11_word_121 rfl ?_
                    refine jm_invV (n1 := jm_N) (mc := 0) (ms := 0) (av := [jm_I _, jm_I _]) w_X11_stateOf l_X11_289 d_X11_word_122 rfl is_133 ⟨_, _, rfl⟩ ⟨Nat.le_refl _, Nat.le_refl _⟩ (Nat.le_of_ble_eq_true rfl) rfl ?_
                    refine jm_Cl.mono h (fun o m23 h hr _ => ?_)
                    obtain ⟨r24, rfl⟩ := jm_rokI hr
                    have h := h _ rfl
                    exact jm_ret (o := some (jm_I _)) d_X11_word_125 rfl ⟨Nat.le_refl _, Nat.le_refl _⟩ jm_r_I h rfl
                  · have h := h.2 c22
                    by_cases c25 : v2 = 6
                    · have h := h.1 c25
                      refine jm_table (tgt := 126) (off := 86) d_X11_word_40 (by rw [c25]; decide) (by rw [c25]; decide) (by rw [c25]; rfl) (by decide) ?_
                      refine jm_aloadn d_X11_word_126 rfl ?_
                      refine jm_iloadn d_X11_word_127 rfl ?_
                      refine jm_invV (n1 := jm_N) (mc := 0) (ms := 0) (av := [jm_I _]) w_X11_isPromise l_X11_292 d_X11_word_128 rfl is_133 ⟨_, _, rfl⟩ ⟨Nat.le_refl _, Nat.le_refl _⟩ (Nat.le_of_ble_eq_true rfl) rfl ?_
                      refine jm_Cl.mono h (fun o m26 h hr _ => ?_)
                      obtain ⟨r27, rfl, z28⟩ := jm_rokZ hr
                      have h := h _ rfl z28
                      refine jm_if_eq (tgt := 148) d_X11_word_131 (by decide) (fun c29 => ?_) (fun c29 => ?_)
                      · have h := h.1 c29
                        refine jm_iconst (v := (-1)) d_X11_word_148 rfl (jm_okI (by decide) (by decide)) ?_
                        exact jm_ret (o := some (jm_I _)) d_X11_word_149 rfl ⟨Nat.le_refl _, Nat.le_refl _⟩ jm_r_I h rfl
                      · have h := h.2 c29
                        refine jm_aloadn d_X11_word_134 rfl ?_
                        refine jm_getF (k := 23) (ki := 23) rfl cf_X11 (Nat.le_of_ble_eq_true rfl) f_X11_42 d_X11_word_135 rfl rfl is_133 fr_133_23 ?_
                        refine jm_aloadn d_X11_word_138 rfl ?_
                        refine jm_getF (k := 25) (ki := 25) rfl cf_X11 (Nat.le_of_ble_eq_true rfl) f_X11_48 d_X11_word_139 rfl rfl is_133 fr_133_25 ?_
                        refine jm_iloadn d_X11_word_142 rfl ?_
                        obtain ⟨f30, h⟩ := h
                        refine jm_iaload d_X11_word_143 (ixl_146 f30.1 f30.2) ?_
                        obtain ⟨f31, h⟩ := h
                        refine jm_iaload d_X11_word_144 (ixl_144 f31.1 f31.2) ?_
                        refine jm_goto (tgt := 149) d_X11_word_145 (by decide) ?_
                        exact jm_ret (o := some (jm_I _)) d_X11_word_149 rfl ⟨Nat.le_refl _, Nat.le_refl _⟩ jm_r_I h rfl
                    · have h := h.2 c25
                      refine jm_tableD (tgt := 150) d_X11_word_40 (jm_tb2 (jm_tb1 (jm_tb1 (jm_tb1 (jm_tb1 (jm_tb1 (jm_tb1 (jm_tb1 (jm_tb0 0) c12) c14) c16) c18) c20) c22) c25) rfl) (by decide) ?_
                      refine jm_aloadn d_X11_word_150 rfl ?_
                      refine jm_iloadn d_X11_word_151 rfl ?_
                      refine jm_invV (n1 := jm_N) (mc := 0) (ms := 0) (av := [jm_I _]) w_X11_isPromise l_X11_292 d_X11_word_152 rfl is_133 ⟨_, _, rfl⟩ ⟨Nat.le_refl _, Nat.le_refl _⟩ (Nat.le_of_ble_eq_true rfl) rfl ?_
                      refine jm_Cl.mono h (fun o m32 h hr _ => ?_)
                      obtain ⟨r33, rfl, z34⟩ := jm_rokZ hr
                      have h := h _ rfl z34
                      refine jm_if_eq (tgt := 175) d_X11_word_155 (by decide) (fun c35 => ?_) (fun c35 => ?_)
                      · have h := h.1 c35
                        refine jm_iconst (v := (-1)) d_X11_word_175 rfl (jm_okI (by decide) (by decide)) ?_
                        exact jm_ret (o := some (jm_I _)) d_X11_word_176 rfl ⟨Nat.le_refl _, Nat.le_refl _⟩ jm_r_I h rfl
                      · have h := h.2 c35
                        refine jm_iloadn d_X11_word_158 rfl ?_
                        refine jm_aloadn d_X11_word_159 rfl ?_
                        refine jm_iconst (v := 0) d_X11_word_160 rfl (jm_okI (by decide) (by decide)) ?_
                        refine jm_aloadn d_X11_word_161 rfl ?_
                        refine jm_getF (k := 24) (ki := 24) rfl cf_X11 (Nat.le_of_ble_eq_true rfl) f_X11_45 d_X11_word_162 rfl rfl is_133 fr_133_24 ?_
                        refine jm_iloadn d_X11_word_165 rfl ?_
                        obtain ⟨f36, h⟩ := h
                        refine jm_iaload d_X11_word_166 (ixl_145 f36.1 f36.2) ?_
                        refine jm_iconst (v := 2) d_X11_word_167 rfl (jm_okI (by decide) (by decide)) ?_
                        refine jm_invV (n1 := jm_N) (mc := 0) (ms := 0) (av := [jm_I _, jm_I _, jm_I _]) w_X11_ofKind l_X11_251 d_X11_word_168 rfl is_133 ⟨_, _, rfl⟩ ⟨Nat.le_refl _, Nat.le_refl _⟩ (Nat.le_of_ble_eq_true rfl) rfl ?_
                        refine jm_Cl.mono h (fun o m37 h hr _ => ?_)
                        obtain ⟨r38, rfl⟩ := jm_rokI hr
                        have h := h _ rfl
                        refine jm_iadd d_X11_word_171 ?_
                        refine jm_goto (tgt := 176) d_X11_word_172 (by decide) ?_
                        exact jm_ret (o := some (jm_I _)) d_X11_word_176 rfl ⟨Nat.le_refl _, Nat.le_refl _⟩ jm_r_I h rfl
      · have h := h.2 c10
        refine jm_aloadn d_X11_word_25 rfl ?_
        refine jm_invV (n1 := jm_N) (mc := 0) (ms := 0) (av := []) w_X11_refuse l_X11_248 d_X11_word_26 rfl is_133 ⟨_, _, rfl⟩ ⟨Nat.le_refl _, Nat.le_refl _⟩ (Nat.le_of_ble_eq_true rfl) rfl ?_
        refine jm_Cl.mono h (fun o m39 h hr _ => ?_)
        obtain ⟨r40, rfl⟩ := jm_rokI hr
        have h := h _ rfl
        exact jm_ret (o := some (jm_I _)) d_X11_word_29 rfl ⟨Nat.le_refl _, Nat.le_refl _⟩ jm_r_I h rfl
/-! ('CombTableModel', 'threads', '()I') -/
theorem d_X11_threads_0 : decode m_X11_threads.2.1 0 = .ok (.aload_n 0, 1) := by decide +kernel
theorem d_X11_threads_1 : decode m_X11_threads.2.1 1 = .ok (.iconst 0, 1) := by decide +kernel
theorem d_X11_threads_2 : decode m_X11_threads.2.1 2 = .ok (.putfield 106, 3) := by decide +kernel
theorem d_X11_threads_5 : decode m_X11_threads.2.1 5 = .ok (.aload_n 0, 1) := by decide +kernel
theorem d_X11_threads_6 : decode m_X11_threads.2.1 6 = .ok (.invokevirtual 270, 3) := by decide +kernel
theorem d_X11_threads_9 : decode m_X11_threads.2.1 9 = .ok (.aload_n 0, 1) := by decide +kernel
theorem d_X11_threads_10 : decode m_X11_threads.2.1 10 = .ok (.getfield 63, 3) := by decide +kernel
theorem d_X11_threads_13 : decode m_X11_threads.2.1 13 = .ok (.iconst 0, 1) := by decide +kernel
theorem d_X11_threads_14 : decode m_X11_threads.2.1 14 = .ok (.iaload, 1) := by decide +kernel
theorem d_X11_threads_15 : decode m_X11_threads.2.1 15 = .ok (.ireturn, 1) := by decide +kernel
set_option maxRecDepth 20000 in
theorem e_X11_threads {E : jm_E} {d : Nat} {μ : jm_M} {Q : Option jm_V → jm_M → Prop}  (h : (∀ v ∈ ([jm_R 133] : List jm_V), jm_ok v) →
  jc E m_X11_lay d [jm_R 133] (jm_up μ 133 0 0) (fun (o : Option jm_V) (m1 : jm_M) => o = none →
  Q (some (jm_I (m1 151 0))) m1)) : jc E m_X11_threads (d + 1) [jm_R 133] μ Q := by
  refine jm_Cl.of2 (by decide +kernel) (L0 := [some (jm_R 133)]) rfl (Nat.le_of_ble_eq_true rfl) (fun hok => ?_)
  have h := h hok
  refine jm_aloadn d_X11_threads_0 rfl ?_
  refine jm_iconst (v := 0) d_X11_threads_1 rfl (jm_okI (by decide) (by decide)) ?_
  refine jm_putI (k := 0) (ki := 0) cf_X11 (Nat.le_of_ble_eq_true rfl) f_X11_106 d_X11_threads_2 (fun z => absurd z (by decide)) rfl rfl rfl (fun _ => rfl) is_133 ?_
  refine jm_aloadn d_X11_threads_5 rfl ?_
  refine jm_invV (n1 := jm_N) (mc := 0) (ms := 0) (av := []) w_X11_lay l_X11_270 d_X11_threads_6 rfl is_133 ⟨_, _, rfl⟩ ⟨Nat.le_refl _, Nat.le_refl _⟩ (Nat.le_of_ble_eq_true rfl) rfl ?_
  refine jm_Cl.mono h (fun o m1 h hr _ => ?_)
  obtain rfl := jm_rokV hr
  have h := h rfl
  refine jm_aloadn d_X11_threads_9 rfl ?_
  refine jm_getF (k := 30) (ki := 30) rfl cf_X11 (Nat.le_of_ble_eq_true rfl) f_X11_63 d_X11_threads_10 rfl rfl is_133 fr_133_30 ?_
  refine jm_iconst (v := 0) d_X11_threads_13 rfl (jm_okI (by decide) (by decide)) ?_
  refine jm_iaload d_X11_threads_14 (ixl_151 (by decide) (by decide)) ?_
  exact jm_ret (o := some (jm_I _)) d_X11_threads_15 rfl ⟨Nat.le_refl _, Nat.le_refl _⟩ jm_r_I h rfl
/-! ('CombTableModel', 'thread', '(II)I') -/
theorem d_X11_thread_0 : decode m_X11_thread.2.1 0 = .ok (.aload_n 0, 1) := by decide +kernel
theorem d_X11_thread_1 : decode m_X11_thread.2.1 1 = .ok (.iconst 0, 1) := by decide +kernel
theorem d_X11_thread_2 : decode m_X11_thread.2.1 2 = .ok (.putfield 106, 3) := by decide +kernel
theorem d_X11_thread_5 : decode m_X11_thread.2.1 5 = .ok (.aload_n 0, 1) := by decide +kernel
theorem d_X11_thread_6 : decode m_X11_thread.2.1 6 = .ok (.invokevirtual 270, 3) := by decide +kernel
theorem d_X11_thread_9 : decode m_X11_thread.2.1 9 = .ok (.iload_n 1, 1) := by decide +kernel
theorem d_X11_thread_10 : decode m_X11_thread.2.1 10 = .ok (.ifCond .lt 13, 3) := by decide +kernel
theorem d_X11_thread_13 : decode m_X11_thread.2.1 13 = .ok (.iload_n 1, 1) := by decide +kernel
theorem d_X11_thread_14 : decode m_X11_thread.2.1 14 = .ok (.aload_n 0, 1) := by decide +kernel
theorem d_X11_thread_15 : decode m_X11_thread.2.1 15 = .ok (.getfield 63, 3) := by decide +kernel
theorem d_X11_thread_18 : decode m_X11_thread.2.1 18 = .ok (.iconst 0, 1) := by decide +kernel
theorem d_X11_thread_19 : decode m_X11_thread.2.1 19 = .ok (.iaload, 1) := by decide +kernel
theorem d_X11_thread_20 : decode m_X11_thread.2.1 20 = .ok (.if_icmp .lt 5, 3) := by decide +kernel
theorem d_X11_thread_23 : decode m_X11_thread.2.1 23 = .ok (.iconst (-1), 1) := by decide +kernel
theorem d_X11_thread_24 : decode m_X11_thread.2.1 24 = .ok (.ireturn, 1) := by decide +kernel
theorem d_X11_thread_25 : decode m_X11_thread.2.1 25 = .ok (.iconst 0, 1) := by decide +kernel
theorem d_X11_thread_26 : decode m_X11_thread.2.1 26 = .ok (.istore_n 3, 1) := by decide +kernel
theorem d_X11_thread_27 : decode m_X11_thread.2.1 27 = .ok (.iconst 0, 1) := by decide +kernel
theorem d_X11_thread_28 : decode m_X11_thread.2.1 28 = .ok (.istore 4, 2) := by decide +kernel
theorem d_X11_thread_30 : decode m_X11_thread.2.1 30 = .ok (.iload 4, 2) := by decide +kernel
theorem d_X11_thread_32 : decode m_X11_thread.2.1 32 = .ok (.aload_n 0, 1) := by decide +kernel
theorem d_X11_thread_33 : decode m_X11_thread.2.1 33 = .ok (.getfield 60, 3) := by decide +kernel
theorem d_X11_thread_36 : decode m_X11_thread.2.1 36 = .ok (.iconst 0, 1) := by decide +kernel
theorem d_X11_thread_37 : decode m_X11_thread.2.1 37 = .ok (.iaload, 1) := by decide +kernel
theorem d_X11_thread_38 : decode m_X11_thread.2.1 38 = .ok (.if_icmp .ge 34, 3) := by decide +kernel
theorem d_X11_thread_41 : decode m_X11_thread.2.1 41 = .ok (.aload_n 0, 1) := by decide +kernel
theorem d_X11_thread_42 : decode m_X11_thread.2.1 42 = .ok (.getfield 51, 3) := by decide +kernel
theorem d_X11_thread_45 : decode m_X11_thread.2.1 45 = .ok (.iload 4, 2) := by decide +kernel
theorem d_X11_thread_47 : decode m_X11_thread.2.1 47 = .ok (.iaload, 1) := by decide +kernel
theorem d_X11_thread_48 : decode m_X11_thread.2.1 48 = .ok (.iload_n 1, 1) := by decide +kernel
theorem d_X11_thread_49 : decode m_X11_thread.2.1 49 = .ok (.if_icmp .eq 6, 3) := by decide +kernel
theorem d_X11_thread_52 : decode m_X11_thread.2.1 52 = .ok (.goto 14, 3) := by decide +kernel
theorem d_X11_thread_55 : decode m_X11_thread.2.1 55 = .ok (.iload_n 3, 1) := by decide +kernel
theorem d_X11_thread_56 : decode m_X11_thread.2.1 56 = .ok (.iload_n 2, 1) := by decide +kernel
theorem d_X11_thread_57 : decode m_X11_thread.2.1 57 = .ok (.if_icmp .ne 6, 3) := by decide +kernel
theorem d_X11_thread_60 : decode m_X11_thread.2.1 60 = .ok (.iload 4, 2) := by decide +kernel
theorem d_X11_thread_62 : decode m_X11_thread.2.1 62 = .ok (.ireturn, 1) := by decide +kernel
theorem d_X11_thread_63 : decode m_X11_thread.2.1 63 = .ok (.iinc 3 1, 3) := by decide +kernel
theorem d_X11_thread_66 : decode m_X11_thread.2.1 66 = .ok (.iinc 4 1, 3) := by decide +kernel
theorem d_X11_thread_69 : decode m_X11_thread.2.1 69 = .ok (.goto (-39), 3) := by decide +kernel
theorem d_X11_thread_72 : decode m_X11_thread.2.1 72 = .ok (.iload_n 2, 1) := by decide +kernel
theorem d_X11_thread_73 : decode m_X11_thread.2.1 73 = .ok (.iconst (-1), 1) := by decide +kernel
theorem d_X11_thread_74 : decode m_X11_thread.2.1 74 = .ok (.if_icmp .ne 7, 3) := by decide +kernel
theorem d_X11_thread_77 : decode m_X11_thread.2.1 77 = .ok (.iload_n 3, 1) := by decide +kernel
theorem d_X11_thread_78 : decode m_X11_thread.2.1 78 = .ok (.goto 4, 3) := by decide +kernel
theorem d_X11_thread_81 : decode m_X11_thread.2.1 81 = .ok (.iconst (-1), 1) := by decide +kernel
theorem d_X11_thread_82 : decode m_X11_thread.2.1 82 = .ok (.ireturn, 1) := by decide +kernel
set_option maxRecDepth 20000 in
theorem e_X11_thread {E : jm_E} {d : Nat} {μ : jm_M} {Q : Option jm_V → jm_M → Prop} {v1 v2 : Int} (h : (∀ v ∈ ([jm_R 133, jm_I v1, jm_I v2] : List jm_V), jm_ok v) →
  jc E m_X11_lay d [jm_R 133] (jm_up μ 133 0 0) (fun (o : Option jm_V) (m1 : jm_M) => o = none →
  ((v1 < 0 →
    Q (some (jm_I ((-1)))) m1) ∧
   (¬ (v1 < 0) →
    ((v1 < m1 151 0 →
      jg E m_X11_thread d 30 [some (jm_R 133), some (jm_I v1), some (jm_I v2), some (jm_I 0), some (jm_I 0)] [] m1 Q) ∧
     (¬ (v1 < m1 151 0) →
      Q (some (jm_I ((-1)))) m1)))))) : jc E m_X11_thread (d + 1) [jm_R 133, jm_I v1, jm_I v2] μ Q := by
  refine jm_Cl.of2 (by decide +kernel) (L0 := [some (jm_R 133), some (jm_I v1), some (jm_I v2), none, none]) rfl (Nat.le_of_ble_eq_true rfl) (fun hok => ?_)
  have h := h hok
  refine jm_aloadn d_X11_thread_0 rfl ?_
  refine jm_iconst (v := 0) d_X11_thread_1 rfl (jm_okI (by decide) (by decide)) ?_
  refine jm_putI (k := 0) (ki := 0) cf_X11 (Nat.le_of_ble_eq_true rfl) f_X11_106 d_X11_thread_2 (fun z => absurd z (by decide)) rfl rfl rfl (fun _ => rfl) is_133 ?_
  refine jm_aloadn d_X11_thread_5 rfl ?_
  refine jm_invV (n1 := jm_N) (mc := 0) (ms := 0) (av := []) w_X11_lay l_X11_270 d_X11_thread_6 rfl is_133 ⟨_, _, rfl⟩ ⟨Nat.le_refl _, Nat.le_refl _⟩ (Nat.le_of_ble_eq_true rfl) rfl ?_
  refine jm_Cl.mono h (fun o m1 h hr _ => ?_)
  obtain rfl := jm_rokV hr
  have h := h rfl
  refine jm_iloadn d_X11_thread_9 rfl ?_
  refine jm_if_lt (tgt := 23) d_X11_thread_10 (by decide) (fun c2 => ?_) (fun c2 => ?_)
  · have h := h.1 c2
    refine jm_iconst (v := (-1)) d_X11_thread_23 rfl (jm_okI (by decide) (by decide)) ?_
    exact jm_ret (o := some (jm_I _)) d_X11_thread_24 rfl ⟨Nat.le_refl _, Nat.le_refl _⟩ jm_r_I h rfl
  · have h := h.2 c2
    refine jm_iloadn d_X11_thread_13 rfl ?_
    refine jm_aloadn d_X11_thread_14 rfl ?_
    refine jm_getF (k := 30) (ki := 30) rfl cf_X11 (Nat.le_of_ble_eq_true rfl) f_X11_63 d_X11_thread_15 rfl rfl is_133 fr_133_30 ?_
    refine jm_iconst (v := 0) d_X11_thread_18 rfl (jm_okI (by decide) (by decide)) ?_
    refine jm_iaload d_X11_thread_19 (ixl_151 (by decide) (by decide)) ?_
    refine jm_icmp_lt (tgt := 25) d_X11_thread_20 (by decide) (fun c3 => ?_) (fun c3 => ?_)
    · have h := h.1 c3
      refine jm_iconst (v := 0) d_X11_thread_25 rfl (jm_okI (by decide) (by decide)) ?_
      refine jm_istoren (L' := [some (jm_R _), some (jm_I _), some (jm_I _), some (jm_I _), none]) d_X11_thread_26 (Nat.le_of_ble_eq_true rfl) rfl ?_
      refine jm_iconst (v := 0) d_X11_thread_27 rfl (jm_okI (by decide) (by decide)) ?_
      refine jm_istore (L' := [some (jm_R _), some (jm_I _), some (jm_I _), some (jm_I _), some (jm_I _)]) d_X11_thread_28 (Nat.le_of_ble_eq_true rfl) rfl ?_
      exact h
    · have h := h.2 c3
      refine jm_iconst (v := (-1)) d_X11_thread_23 rfl (jm_okI (by decide) (by decide)) ?_
      exact jm_ret (o := some (jm_I _)) d_X11_thread_24 rfl ⟨Nat.le_refl _, Nat.le_refl _⟩ jm_r_I h rfl
set_option maxRecDepth 20000 in
theorem r_X11_thread_30 {E : jm_E} {d : Nat} {μ : jm_M} {Q : Option jm_V → jm_M → Prop} {v1 v2 v3 v4 : Int} (h :
  ((μ 150 0 ≤ v4 →
    ((v2 ≠ ((-1)) →
      Q (some (jm_I ((-1)))) μ) ∧
     (¬ (v2 ≠ ((-1))) →
      Q (some (jm_I v3)) μ))) ∧
   (¬ (μ 150 0 ≤ v4) →
    (0 ≤ v4 ∧ v4 < 800) ∧
    ((μ 147 v4 = v1 →
      ((v3 ≠ v2 →
        jg E m_X11_thread d 30 [some (jm_R 133), some (jm_I v1), some (jm_I v2), some (jm_I (jm_wr (v3 + 1))), some (jm_I (jm_wr (v4 + 1)))] [] μ Q) ∧
       (¬ (v3 ≠ v2) →
        Q (some (jm_I v4)) μ))) ∧
     (¬ (μ 147 v4 = v1) →
      jg E m_X11_thread d 30 [some (jm_R 133), some (jm_I v1), some (jm_I v2), some (jm_I v3), some (jm_I (jm_wr (v4 + 1)))] [] μ Q))))) : jg E m_X11_thread d 30 [some (jm_R 133), some (jm_I v1), some (jm_I v2), some (jm_I v3), some (jm_I v4)] [] μ Q := by
  refine jm_iload d_X11_thread_30 rfl ?_
  refine jm_aloadn d_X11_thread_32 rfl ?_
  refine jm_getF (k := 29) (ki := 29) rfl cf_X11 (Nat.le_of_ble_eq_true rfl) f_X11_60 d_X11_thread_33 rfl rfl is_133 fr_133_29 ?_
  refine jm_iconst (v := 0) d_X11_thread_36 rfl (jm_okI (by decide) (by decide)) ?_
  refine jm_iaload d_X11_thread_37 (ixl_150 (by decide) (by decide)) ?_
  refine jm_icmp_ge (tgt := 72) d_X11_thread_38 (by decide) (fun c1 => ?_) (fun c1 => ?_)
  · have h := h.1 c1
    refine jm_iloadn d_X11_thread_72 rfl ?_
    refine jm_iconst (v := (-1)) d_X11_thread_73 rfl (jm_okI (by decide) (by decide)) ?_
    refine jm_icmp_ne (tgt := 81) d_X11_thread_74 (by decide) (fun c2 => ?_) (fun c2 => ?_)
    · have h := h.1 c2
      refine jm_iconst (v := (-1)) d_X11_thread_81 rfl (jm_okI (by decide) (by decide)) ?_
      exact jm_ret (o := some (jm_I _)) d_X11_thread_82 rfl ⟨Nat.le_refl _, Nat.le_refl _⟩ jm_r_I h rfl
    · have h := h.2 c2
      refine jm_iloadn d_X11_thread_77 rfl ?_
      refine jm_goto (tgt := 82) d_X11_thread_78 (by decide) ?_
      exact jm_ret (o := some (jm_I _)) d_X11_thread_82 rfl ⟨Nat.le_refl _, Nat.le_refl _⟩ jm_r_I h rfl
  · have h := h.2 c1
    refine jm_aloadn d_X11_thread_41 rfl ?_
    refine jm_getF (k := 26) (ki := 26) rfl cf_X11 (Nat.le_of_ble_eq_true rfl) f_X11_51 d_X11_thread_42 rfl rfl is_133 fr_133_26 ?_
    refine jm_iload d_X11_thread_45 rfl ?_
    obtain ⟨f3, h⟩ := h
    refine jm_iaload d_X11_thread_47 (ixl_147 f3.1 f3.2) ?_
    refine jm_iloadn d_X11_thread_48 rfl ?_
    refine jm_icmp_eq (tgt := 55) d_X11_thread_49 (by decide) (fun c4 => ?_) (fun c4 => ?_)
    · have h := h.1 c4
      refine jm_iloadn d_X11_thread_55 rfl ?_
      refine jm_iloadn d_X11_thread_56 rfl ?_
      refine jm_icmp_ne (tgt := 63) d_X11_thread_57 (by decide) (fun c5 => ?_) (fun c5 => ?_)
      · have h := h.1 c5
        refine jm_iinc (L' := [some (jm_R _), some (jm_I _), some (jm_I _), some (jm_I _), some (jm_I _)]) d_X11_thread_63 rfl rfl (Nat.le_of_ble_eq_true rfl) rfl ?_
        refine jm_iinc (L' := [some (jm_R _), some (jm_I _), some (jm_I _), some (jm_I _), some (jm_I _)]) d_X11_thread_66 rfl rfl (Nat.le_of_ble_eq_true rfl) rfl ?_
        refine jm_goto (tgt := 30) d_X11_thread_69 (by decide) ?_
        exact h
      · have h := h.2 c5
        refine jm_iload d_X11_thread_60 rfl ?_
        exact jm_ret (o := some (jm_I _)) d_X11_thread_62 rfl ⟨Nat.le_refl _, Nat.le_refl _⟩ jm_r_I h rfl
    · have h := h.2 c4
      refine jm_goto (tgt := 66) d_X11_thread_52 (by decide) ?_
      refine jm_iinc (L' := [some (jm_R _), some (jm_I _), some (jm_I _), some (jm_I _), some (jm_I _)]) d_X11_thread_66 rfl rfl (Nat.le_of_ble_eq_true rfl) rfl ?_
      refine jm_goto (tgt := 30) d_X11_thread_69 (by decide) ?_
      exact h
/-! ('CombTableModel', 'with', '(II)I') -/
theorem d_X11_with_0 : decode m_X11_with.2.1 0 = .ok (.aload_n 0, 1) := by decide +kernel
theorem d_X11_with_1 : decode m_X11_with.2.1 1 = .ok (.iconst 0, 1) := by decide +kernel
theorem d_X11_with_2 : decode m_X11_with.2.1 2 = .ok (.putfield 106, 3) := by decide +kernel
theorem d_X11_with_5 : decode m_X11_with.2.1 5 = .ok (.iload_n 1, 1) := by decide +kernel
theorem d_X11_with_6 : decode m_X11_with.2.1 6 = .ok (.iconst 1, 1) := by decide +kernel
theorem d_X11_with_7 : decode m_X11_with.2.1 7 = .ok (.bipush 8, 2) := by decide +kernel
theorem d_X11_with_9 : decode m_X11_with.2.1 9 = .ok (.invokestatic 177, 3) := by decide +kernel
theorem d_X11_with_12 : decode m_X11_with.2.1 12 = .ok (.ifCond .ne 5, 3) := by decide +kernel
theorem d_X11_with_15 : decode m_X11_with.2.1 15 = .ok (.iconst (-1), 1) := by decide +kernel
theorem d_X11_with_16 : decode m_X11_with.2.1 16 = .ok (.ireturn, 1) := by decide +kernel
theorem d_X11_with_17 : decode m_X11_with.2.1 17 = .ok (.aload_n 0, 1) := by decide +kernel
theorem d_X11_with_18 : decode m_X11_with.2.1 18 = .ok (.invokevirtual 270, 3) := by decide +kernel
theorem d_X11_with_21 : decode m_X11_with.2.1 21 = .ok (.iconst 0, 1) := by decide +kernel
theorem d_X11_with_22 : decode m_X11_with.2.1 22 = .ok (.istore_n 3, 1) := by decide +kernel
theorem d_X11_with_23 : decode m_X11_with.2.1 23 = .ok (.iconst 0, 1) := by decide +kernel
theorem d_X11_with_24 : decode m_X11_with.2.1 24 = .ok (.istore 4, 2) := by decide +kernel
theorem d_X11_with_26 : decode m_X11_with.2.1 26 = .ok (.iload 4, 2) := by decide +kernel
theorem d_X11_with_28 : decode m_X11_with.2.1 28 = .ok (.aload_n 0, 1) := by decide +kernel
theorem d_X11_with_29 : decode m_X11_with.2.1 29 = .ok (.getfield 60, 3) := by decide +kernel
theorem d_X11_with_32 : decode m_X11_with.2.1 32 = .ok (.iconst 0, 1) := by decide +kernel
theorem d_X11_with_33 : decode m_X11_with.2.1 33 = .ok (.iaload, 1) := by decide +kernel
theorem d_X11_with_34 : decode m_X11_with.2.1 34 = .ok (.if_icmp .ge 34, 3) := by decide +kernel
theorem d_X11_with_37 : decode m_X11_with.2.1 37 = .ok (.aload_n 0, 1) := by decide +kernel
theorem d_X11_with_38 : decode m_X11_with.2.1 38 = .ok (.iconst 0, 1) := by decide +kernel
theorem d_X11_with_39 : decode m_X11_with.2.1 39 = .ok (.iload 4, 2) := by decide +kernel
theorem d_X11_with_41 : decode m_X11_with.2.1 41 = .ok (.invokevirtual 289, 3) := by decide +kernel
theorem d_X11_with_44 : decode m_X11_with.2.1 44 = .ok (.iload_n 1, 1) := by decide +kernel
theorem d_X11_with_45 : decode m_X11_with.2.1 45 = .ok (.if_icmp .eq 6, 3) := by decide +kernel
theorem d_X11_with_48 : decode m_X11_with.2.1 48 = .ok (.goto 14, 3) := by decide +kernel
theorem d_X11_with_51 : decode m_X11_with.2.1 51 = .ok (.iload_n 3, 1) := by decide +kernel
theorem d_X11_with_52 : decode m_X11_with.2.1 52 = .ok (.iload_n 2, 1) := by decide +kernel
theorem d_X11_with_53 : decode m_X11_with.2.1 53 = .ok (.if_icmp .ne 6, 3) := by decide +kernel
theorem d_X11_with_56 : decode m_X11_with.2.1 56 = .ok (.iload 4, 2) := by decide +kernel
theorem d_X11_with_58 : decode m_X11_with.2.1 58 = .ok (.ireturn, 1) := by decide +kernel
theorem d_X11_with_59 : decode m_X11_with.2.1 59 = .ok (.iinc 3 1, 3) := by decide +kernel
theorem d_X11_with_62 : decode m_X11_with.2.1 62 = .ok (.iinc 4 1, 3) := by decide +kernel
theorem d_X11_with_65 : decode m_X11_with.2.1 65 = .ok (.goto (-39), 3) := by decide +kernel
theorem d_X11_with_68 : decode m_X11_with.2.1 68 = .ok (.iload_n 2, 1) := by decide +kernel
theorem d_X11_with_69 : decode m_X11_with.2.1 69 = .ok (.iconst (-1), 1) := by decide +kernel
theorem d_X11_with_70 : decode m_X11_with.2.1 70 = .ok (.if_icmp .ne 7, 3) := by decide +kernel
theorem d_X11_with_73 : decode m_X11_with.2.1 73 = .ok (.iload_n 3, 1) := by decide +kernel
theorem d_X11_with_74 : decode m_X11_with.2.1 74 = .ok (.goto 4, 3) := by decide +kernel
theorem d_X11_with_77 : decode m_X11_with.2.1 77 = .ok (.iconst (-1), 1) := by decide +kernel
theorem d_X11_with_78 : decode m_X11_with.2.1 78 = .ok (.ireturn, 1) := by decide +kernel
set_option maxRecDepth 20000 in
theorem e_X11_with {E : jm_E} {d : Nat} {μ : jm_M} {Q : Option jm_V → jm_M → Prop} {v1 v2 : Int} (h : (∀ v ∈ ([jm_R 133, jm_I v1, jm_I v2] : List jm_V), jm_ok v) →
  jc E m_X11_isIn d [jm_I v1, jm_I 1, jm_I 8] (jm_up μ 133 0 0) (fun (o : Option jm_V) (m1 : jm_M) => ∀ r2 : Int, o = some (jm_I r2) → (r2 = 0 ∨ r2 = 1) →
  ((r2 ≠ 0 →
    jc E m_X11_lay d [jm_R 133] m1 (fun (o : Option jm_V) (m5 : jm_M) => o = none →
    jg E m_X11_with d 26 [some (jm_R 133), some (jm_I v1), some (jm_I v2), some (jm_I 0), some (jm_I 0)] [] m5 Q)) ∧
   (¬ (r2 ≠ 0) →
    Q (some (jm_I ((-1)))) m1)))) : jc E m_X11_with (d + 1) [jm_R 133, jm_I v1, jm_I v2] μ Q := by
  refine jm_Cl.of2 (by decide +kernel) (L0 := [some (jm_R 133), some (jm_I v1), some (jm_I v2), none, none]) rfl (Nat.le_of_ble_eq_true rfl) (fun hok => ?_)
  have h := h hok
  refine jm_aloadn d_X11_with_0 rfl ?_
  refine jm_iconst (v := 0) d_X11_with_1 rfl (jm_okI (by decide) (by decide)) ?_
  refine jm_putI (k := 0) (ki := 0) cf_X11 (Nat.le_of_ble_eq_true rfl) f_X11_106 d_X11_with_2 (fun z => absurd z (by decide)) rfl rfl rfl (fun _ => rfl) is_133 ?_
  refine jm_iloadn d_X11_with_5 rfl ?_
  refine jm_iconst (v := 1) d_X11_with_6 rfl (jm_okI (by decide) (by decide)) ?_
  refine jm_bipush (v := 8) d_X11_with_7 rfl (jm_okI (by decide) (by decide)) ?_
  refine jm_invS (n1 := jm_N) (mc := 0) (ms := 0) (av := [jm_I _, jm_I _, jm_I _]) w_X11_isIn l_X11_177 d_X11_with_9 rfl ⟨Nat.le_refl _, Nat.le_refl _⟩ (Nat.le_of_ble_eq_true rfl) rfl ?_
  refine jm_Cl.mono h (fun o m1 h hr _ => ?_)
  obtain ⟨r2, rfl, z3⟩ := jm_rokZ hr
  have h := h _ rfl z3
  refine jm_if_ne (tgt := 17) d_X11_with_12 (by decide) (fun c4 => ?_) (fun c4 => ?_)
  · have h := h.1 c4
    refine jm_aloadn d_X11_with_17 rfl ?_
    refine jm_invV (n1 := jm_N) (mc := 0) (ms := 0) (av := []) w_X11_lay l_X11_270 d_X11_with_18 rfl is_133 ⟨_, _, rfl⟩ ⟨Nat.le_refl _, Nat.le_refl _⟩ (Nat.le_of_ble_eq_true rfl) rfl ?_
    refine jm_Cl.mono h (fun o m5 h hr _ => ?_)
    obtain rfl := jm_rokV hr
    have h := h rfl
    refine jm_iconst (v := 0) d_X11_with_21 rfl (jm_okI (by decide) (by decide)) ?_
    refine jm_istoren (L' := [some (jm_R _), some (jm_I _), some (jm_I _), some (jm_I _), none]) d_X11_with_22 (Nat.le_of_ble_eq_true rfl) rfl ?_
    refine jm_iconst (v := 0) d_X11_with_23 rfl (jm_okI (by decide) (by decide)) ?_
    refine jm_istore (L' := [some (jm_R _), some (jm_I _), some (jm_I _), some (jm_I _), some (jm_I _)]) d_X11_with_24 (Nat.le_of_ble_eq_true rfl) rfl ?_
    exact h
  · have h := h.2 c4
    refine jm_iconst (v := (-1)) d_X11_with_15 rfl (jm_okI (by decide) (by decide)) ?_
    exact jm_ret (o := some (jm_I _)) d_X11_with_16 rfl ⟨Nat.le_refl _, Nat.le_refl _⟩ jm_r_I h rfl
set_option maxRecDepth 20000 in
theorem r_X11_with_26 {E : jm_E} {d : Nat} {μ : jm_M} {Q : Option jm_V → jm_M → Prop} {v1 v2 v3 v4 : Int} (h :
  ((μ 150 0 ≤ v4 →
    ((v2 ≠ ((-1)) →
      Q (some (jm_I ((-1)))) μ) ∧
     (¬ (v2 ≠ ((-1))) →
      Q (some (jm_I v3)) μ))) ∧
   (¬ (μ 150 0 ≤ v4) →
    jc E m_X11_stateOf d [jm_R 133, jm_I 0, jm_I v4] μ (fun (o : Option jm_V) (m3 : jm_M) => ∀ r4 : Int, o = some (jm_I r4) →
    ((r4 = v1 →
      ((v3 ≠ v2 →
        jg E m_X11_with d 26 [some (jm_R 133), some (jm_I v1), some (jm_I v2), some (jm_I (jm_wr (v3 + 1))), some (jm_I (jm_wr (v4 + 1)))] [] m3 Q) ∧
       (¬ (v3 ≠ v2) →
        Q (some (jm_I v4)) m3))) ∧
     (¬ (r4 = v1) →
      jg E m_X11_with d 26 [some (jm_R 133), some (jm_I v1), some (jm_I v2), some (jm_I v3), some (jm_I (jm_wr (v4 + 1)))] [] m3 Q)))))) : jg E m_X11_with d 26 [some (jm_R 133), some (jm_I v1), some (jm_I v2), some (jm_I v3), some (jm_I v4)] [] μ Q := by
  refine jm_iload d_X11_with_26 rfl ?_
  refine jm_aloadn d_X11_with_28 rfl ?_
  refine jm_getF (k := 29) (ki := 29) rfl cf_X11 (Nat.le_of_ble_eq_true rfl) f_X11_60 d_X11_with_29 rfl rfl is_133 fr_133_29 ?_
  refine jm_iconst (v := 0) d_X11_with_32 rfl (jm_okI (by decide) (by decide)) ?_
  refine jm_iaload d_X11_with_33 (ixl_150 (by decide) (by decide)) ?_
  refine jm_icmp_ge (tgt := 68) d_X11_with_34 (by decide) (fun c1 => ?_) (fun c1 => ?_)
  · have h := h.1 c1
    refine jm_iloadn d_X11_with_68 rfl ?_
    refine jm_iconst (v := (-1)) d_X11_with_69 rfl (jm_okI (by decide) (by decide)) ?_
    refine jm_icmp_ne (tgt := 77) d_X11_with_70 (by decide) (fun c2 => ?_) (fun c2 => ?_)
    · have h := h.1 c2
      refine jm_iconst (v := (-1)) d_X11_with_77 rfl (jm_okI (by decide) (by decide)) ?_
      exact jm_ret (o := some (jm_I _)) d_X11_with_78 rfl ⟨Nat.le_refl _, Nat.le_refl _⟩ jm_r_I h rfl
    · have h := h.2 c2
      refine jm_iloadn d_X11_with_73 rfl ?_
      refine jm_goto (tgt := 78) d_X11_with_74 (by decide) ?_
      exact jm_ret (o := some (jm_I _)) d_X11_with_78 rfl ⟨Nat.le_refl _, Nat.le_refl _⟩ jm_r_I h rfl
  · have h := h.2 c1
    refine jm_aloadn d_X11_with_37 rfl ?_
    refine jm_iconst (v := 0) d_X11_with_38 rfl (jm_okI (by decide) (by decide)) ?_
    refine jm_iload d_X11_with_39 rfl ?_
    refine jm_invV (n1 := jm_N) (mc := 0) (ms := 0) (av := [jm_I _, jm_I _]) w_X11_stateOf l_X11_289 d_X11_with_41 rfl is_133 ⟨_, _, rfl⟩ ⟨Nat.le_refl _, Nat.le_refl _⟩ (Nat.le_of_ble_eq_true rfl) rfl ?_
    refine jm_Cl.mono h (fun o m3 h hr _ => ?_)
    obtain ⟨r4, rfl⟩ := jm_rokI hr
    have h := h _ rfl
    refine jm_iloadn d_X11_with_44 rfl ?_
    refine jm_icmp_eq (tgt := 51) d_X11_with_45 (by decide) (fun c5 => ?_) (fun c5 => ?_)
    · have h := h.1 c5
      refine jm_iloadn d_X11_with_51 rfl ?_
      refine jm_iloadn d_X11_with_52 rfl ?_
      refine jm_icmp_ne (tgt := 59) d_X11_with_53 (by decide) (fun c6 => ?_) (fun c6 => ?_)
      · have h := h.1 c6
        refine jm_iinc (L' := [some (jm_R _), some (jm_I _), some (jm_I _), some (jm_I _), some (jm_I _)]) d_X11_with_59 rfl rfl (Nat.le_of_ble_eq_true rfl) rfl ?_
        refine jm_iinc (L' := [some (jm_R _), some (jm_I _), some (jm_I _), some (jm_I _), some (jm_I _)]) d_X11_with_62 rfl rfl (Nat.le_of_ble_eq_true rfl) rfl ?_
        refine jm_goto (tgt := 26) d_X11_with_65 (by decide) ?_
        exact h
      · have h := h.2 c6
        refine jm_iload d_X11_with_56 rfl ?_
        exact jm_ret (o := some (jm_I _)) d_X11_with_58 rfl ⟨Nat.le_refl _, Nat.le_refl _⟩ jm_r_I h rfl
    · have h := h.2 c5
      refine jm_goto (tgt := 62) d_X11_with_48 (by decide) ?_
      refine jm_iinc (L' := [some (jm_R _), some (jm_I _), some (jm_I _), some (jm_I _), some (jm_I _)]) d_X11_with_62 rfl rfl (Nat.le_of_ble_eq_true rfl) rfl ?_
      refine jm_goto (tgt := 26) d_X11_with_65 (by decide) ?_
      exact h
/-! ('CombTableModel', 'promised', '(III)I') -/
theorem d_X11_promised_0 : decode m_X11_promised.2.1 0 = .ok (.aload_n 0, 1) := by decide +kernel
theorem d_X11_promised_1 : decode m_X11_promised.2.1 1 = .ok (.iconst 0, 1) := by decide +kernel
theorem d_X11_promised_2 : decode m_X11_promised.2.1 2 = .ok (.putfield 106, 3) := by decide +kernel
theorem d_X11_promised_5 : decode m_X11_promised.2.1 5 = .ok (.aload_n 0, 1) := by decide +kernel
theorem d_X11_promised_6 : decode m_X11_promised.2.1 6 = .ok (.iload_n 1, 1) := by decide +kernel
theorem d_X11_promised_7 : decode m_X11_promised.2.1 7 = .ok (.invokevirtual 242, 3) := by decide +kernel
theorem d_X11_promised_10 : decode m_X11_promised.2.1 10 = .ok (.ifCond .eq 25, 3) := by decide +kernel
theorem d_X11_promised_13 : decode m_X11_promised.2.1 13 = .ok (.aload_n 0, 1) := by decide +kernel
theorem d_X11_promised_14 : decode m_X11_promised.2.1 14 = .ok (.iload_n 2, 1) := by decide +kernel
theorem d_X11_promised_15 : decode m_X11_promised.2.1 15 = .ok (.invokevirtual 242, 3) := by decide +kernel
theorem d_X11_promised_18 : decode m_X11_promised.2.1 18 = .ok (.ifCond .eq 17, 3) := by decide +kernel
theorem d_X11_promised_21 : decode m_X11_promised.2.1 21 = .ok (.iload_n 3, 1) := by decide +kernel
theorem d_X11_promised_22 : decode m_X11_promised.2.1 22 = .ok (.ifCond .eq 15, 3) := by decide +kernel
theorem d_X11_promised_25 : decode m_X11_promised.2.1 25 = .ok (.iload_n 3, 1) := by decide +kernel
theorem d_X11_promised_26 : decode m_X11_promised.2.1 26 = .ok (.iconst 4, 1) := by decide +kernel
theorem d_X11_promised_27 : decode m_X11_promised.2.1 27 = .ok (.bipush 8, 2) := by decide +kernel
theorem d_X11_promised_29 : decode m_X11_promised.2.1 29 = .ok (.invokestatic 177, 3) := by decide +kernel
theorem d_X11_promised_32 : decode m_X11_promised.2.1 32 = .ok (.ifCond .ne 5, 3) := by decide +kernel
theorem d_X11_promised_35 : decode m_X11_promised.2.1 35 = .ok (.iconst (-1), 1) := by decide +kernel
theorem d_X11_promised_36 : decode m_X11_promised.2.1 36 = .ok (.ireturn, 1) := by decide +kernel
theorem d_X11_promised_37 : decode m_X11_promised.2.1 37 = .ok (.aload_n 0, 1) := by decide +kernel
theorem d_X11_promised_38 : decode m_X11_promised.2.1 38 = .ok (.invokevirtual 270, 3) := by decide +kernel
theorem d_X11_promised_41 : decode m_X11_promised.2.1 41 = .ok (.iconst 0, 1) := by decide +kernel
theorem d_X11_promised_42 : decode m_X11_promised.2.1 42 = .ok (.istore 4, 2) := by decide +kernel
theorem d_X11_promised_44 : decode m_X11_promised.2.1 44 = .ok (.iconst 0, 1) := by decide +kernel
theorem d_X11_promised_45 : decode m_X11_promised.2.1 45 = .ok (.istore 5, 2) := by decide +kernel
theorem d_X11_promised_47 : decode m_X11_promised.2.1 47 = .ok (.iload 5, 2) := by decide +kernel
theorem d_X11_promised_49 : decode m_X11_promised.2.1 49 = .ok (.aload_n 0, 1) := by decide +kernel
theorem d_X11_promised_50 : decode m_X11_promised.2.1 50 = .ok (.getfield 60, 3) := by decide +kernel
theorem d_X11_promised_53 : decode m_X11_promised.2.1 53 = .ok (.iconst 0, 1) := by decide +kernel
theorem d_X11_promised_54 : decode m_X11_promised.2.1 54 = .ok (.iaload, 1) := by decide +kernel
theorem d_X11_promised_55 : decode m_X11_promised.2.1 55 = .ok (.if_icmp .ge 63, 3) := by decide +kernel
theorem d_X11_promised_58 : decode m_X11_promised.2.1 58 = .ok (.aload_n 0, 1) := by decide +kernel
theorem d_X11_promised_59 : decode m_X11_promised.2.1 59 = .ok (.iload 5, 2) := by decide +kernel
theorem d_X11_promised_61 : decode m_X11_promised.2.1 61 = .ok (.invokevirtual 292, 3) := by decide +kernel
theorem d_X11_promised_64 : decode m_X11_promised.2.1 64 = .ok (.ifCond .eq 48, 3) := by decide +kernel
theorem d_X11_promised_67 : decode m_X11_promised.2.1 67 = .ok (.aload_n 0, 1) := by decide +kernel
theorem d_X11_promised_68 : decode m_X11_promised.2.1 68 = .ok (.getfield 42, 3) := by decide +kernel
theorem d_X11_promised_71 : decode m_X11_promised.2.1 71 = .ok (.iload 5, 2) := by decide +kernel
theorem d_X11_promised_73 : decode m_X11_promised.2.1 73 = .ok (.iaload, 1) := by decide +kernel
theorem d_X11_promised_74 : decode m_X11_promised.2.1 74 = .ok (.iload_n 1, 1) := by decide +kernel
theorem d_X11_promised_75 : decode m_X11_promised.2.1 75 = .ok (.if_icmp .ne 37, 3) := by decide +kernel
theorem d_X11_promised_78 : decode m_X11_promised.2.1 78 = .ok (.aload_n 0, 1) := by decide +kernel
theorem d_X11_promised_79 : decode m_X11_promised.2.1 79 = .ok (.getfield 42, 3) := by decide +kernel
theorem d_X11_promised_82 : decode m_X11_promised.2.1 82 = .ok (.aload_n 0, 1) := by decide +kernel
theorem d_X11_promised_83 : decode m_X11_promised.2.1 83 = .ok (.getfield 48, 3) := by decide +kernel
theorem d_X11_promised_86 : decode m_X11_promised.2.1 86 = .ok (.iload 5, 2) := by decide +kernel
theorem d_X11_promised_88 : decode m_X11_promised.2.1 88 = .ok (.iaload, 1) := by decide +kernel
theorem d_X11_promised_89 : decode m_X11_promised.2.1 89 = .ok (.iaload, 1) := by decide +kernel
theorem d_X11_promised_90 : decode m_X11_promised.2.1 90 = .ok (.iload_n 2, 1) := by decide +kernel
theorem d_X11_promised_91 : decode m_X11_promised.2.1 91 = .ok (.if_icmp .ne 21, 3) := by decide +kernel
theorem d_X11_promised_94 : decode m_X11_promised.2.1 94 = .ok (.iload_n 3, 1) := by decide +kernel
theorem d_X11_promised_95 : decode m_X11_promised.2.1 95 = .ok (.ifCond .eq 14, 3) := by decide +kernel
theorem d_X11_promised_98 : decode m_X11_promised.2.1 98 = .ok (.aload_n 0, 1) := by decide +kernel
theorem d_X11_promised_99 : decode m_X11_promised.2.1 99 = .ok (.iconst 0, 1) := by decide +kernel
theorem d_X11_promised_100 : decode m_X11_promised.2.1 100 = .ok (.iload 5, 2) := by decide +kernel
theorem d_X11_promised_102 : decode m_X11_promised.2.1 102 = .ok (.invokevirtual 289, 3) := by decide +kernel
theorem d_X11_promised_105 : decode m_X11_promised.2.1 105 = .ok (.iload_n 3, 1) := by decide +kernel
theorem d_X11_promised_106 : decode m_X11_promised.2.1 106 = .ok (.if_icmp .ne 6, 3) := by decide +kernel
theorem d_X11_promised_109 : decode m_X11_promised.2.1 109 = .ok (.iinc 4 1, 3) := by decide +kernel
theorem d_X11_promised_112 : decode m_X11_promised.2.1 112 = .ok (.iinc 5 1, 3) := by decide +kernel
theorem d_X11_promised_115 : decode m_X11_promised.2.1 115 = .ok (.goto (-68), 3) := by decide +kernel
theorem d_X11_promised_118 : decode m_X11_promised.2.1 118 = .ok (.iload 4, 2) := by decide +kernel
theorem d_X11_promised_120 : decode m_X11_promised.2.1 120 = .ok (.ireturn, 1) := by decide +kernel
set_option maxRecDepth 20000 in
theorem e_X11_promised {E : jm_E} {d : Nat} {μ : jm_M} {Q : Option jm_V → jm_M → Prop} {v1 v2 v3 : Int} (h : (∀ v ∈ ([jm_R 133, jm_I v1, jm_I v2, jm_I v3] : List jm_V), jm_ok v) →
  jc E m_X11_isWho d [jm_R 133, jm_I v1] (jm_up μ 133 0 0) (fun (o : Option jm_V) (m1 : jm_M) => ∀ r2 : Int, o = some (jm_I r2) → (r2 = 0 ∨ r2 = 1) →
  ((r2 = 0 →
    Q (some (jm_I ((-1)))) m1) ∧
   (¬ (r2 = 0) →
    jc E m_X11_isWho d [jm_R 133, jm_I v2] m1 (fun (o : Option jm_V) (m5 : jm_M) => ∀ r6 : Int, o = some (jm_I r6) → (r6 = 0 ∨ r6 = 1) →
    ((r6 = 0 →
      Q (some (jm_I ((-1)))) m5) ∧
     (¬ (r6 = 0) →
      ((v3 = 0 →
        jc E m_X11_lay d [jm_R 133] m5 (fun (o : Option jm_V) (m10 : jm_M) => o = none →
        jg E m_X11_promised d 47 [some (jm_R 133), some (jm_I v1), some (jm_I v2), some (jm_I v3), some (jm_I 0), some (jm_I 0)] [] m10 Q)) ∧
       (¬ (v3 = 0) →
        jc E m_X11_isIn d [jm_I v3, jm_I 4, jm_I 8] m5 (fun (o : Option jm_V) (m11 : jm_M) => ∀ r12 : Int, o = some (jm_I r12) → (r12 = 0 ∨ r12 = 1) →
        ((r12 ≠ 0 →
          jc E m_X11_lay d [jm_R 133] m11 (fun (o : Option jm_V) (m15 : jm_M) => o = none →
          jg E m_X11_promised d 47 [some (jm_R 133), some (jm_I v1), some (jm_I v2), some (jm_I v3), some (jm_I 0), some (jm_I 0)] [] m15 Q)) ∧
         (¬ (r12 ≠ 0) →
          Q (some (jm_I ((-1)))) m11)))))))))))) : jc E m_X11_promised (d + 1) [jm_R 133, jm_I v1, jm_I v2, jm_I v3] μ Q := by
  refine jm_Cl.of2 (by decide +kernel) (L0 := [some (jm_R 133), some (jm_I v1), some (jm_I v2), some (jm_I v3), none, none]) rfl (Nat.le_of_ble_eq_true rfl) (fun hok => ?_)
  have h := h hok
  refine jm_aloadn d_X11_promised_0 rfl ?_
  refine jm_iconst (v := 0) d_X11_promised_1 rfl (jm_okI (by decide) (by decide)) ?_
  refine jm_putI (k := 0) (ki := 0) cf_X11 (Nat.le_of_ble_eq_true rfl) f_X11_106 d_X11_promised_2 (fun z => absurd z (by decide)) rfl rfl rfl (fun _ => rfl) is_133 ?_
  refine jm_aloadn d_X11_promised_5 rfl ?_
  refine jm_iloadn d_X11_promised_6 rfl ?_
  refine jm_invV (n1 := jm_N) (mc := 0) (ms := 0) (av := [jm_I _]) w_X11_isWho l_X11_242 d_X11_promised_7 rfl is_133 ⟨_, _, rfl⟩ ⟨Nat.le_refl _, Nat.le_refl _⟩ (Nat.le_of_ble_eq_true rfl) rfl ?_
  refine jm_Cl.mono h (fun o m1 h hr _ => ?_)
  obtain ⟨r2, rfl, z3⟩ := jm_rokZ hr
  have h := h _ rfl z3
  refine jm_if_eq (tgt := 35) d_X11_promised_10 (by decide) (fun c4 => ?_) (fun c4 => ?_)
  · have h := h.1 c4
    refine jm_iconst (v := (-1)) d_X11_promised_35 rfl (jm_okI (by decide) (by decide)) ?_
    exact jm_ret (o := some (jm_I _)) d_X11_promised_36 rfl ⟨Nat.le_refl _, Nat.le_refl _⟩ jm_r_I h rfl
  · have h := h.2 c4
    refine jm_aloadn d_X11_promised_13 rfl ?_
    refine jm_iloadn d_X11_promised_14 rfl ?_
    refine jm_invV (n1 := jm_N) (mc := 0) (ms := 0) (av := [jm_I _]) w_X11_isWho l_X11_242 d_X11_promised_15 rfl is_133 ⟨_, _, rfl⟩ ⟨Nat.le_refl _, Nat.le_refl _⟩ (Nat.le_of_ble_eq_true rfl) rfl ?_
    refine jm_Cl.mono h (fun o m5 h hr _ => ?_)
    obtain ⟨r6, rfl, z7⟩ := jm_rokZ hr
    have h := h _ rfl z7
    refine jm_if_eq (tgt := 35) d_X11_promised_18 (by decide) (fun c8 => ?_) (fun c8 => ?_)
    · have h := h.1 c8
      refine jm_iconst (v := (-1)) d_X11_promised_35 rfl (jm_okI (by decide) (by decide)) ?_
      exact jm_ret (o := some (jm_I _)) d_X11_promised_36 rfl ⟨Nat.le_refl _, Nat.le_refl _⟩ jm_r_I h rfl
    · have h := h.2 c8
      refine jm_iloadn d_X11_promised_21 rfl ?_
      refine jm_if_eq (tgt := 37) d_X11_promised_22 (by decide) (fun c9 => ?_) (fun c9 => ?_)
      · have h := h.1 c9
        refine jm_aloadn d_X11_promised_37 rfl ?_
        refine jm_invV (n1 := jm_N) (mc := 0) (ms := 0) (av := []) w_X11_lay l_X11_270 d_X11_promised_38 rfl is_133 ⟨_, _, rfl⟩ ⟨Nat.le_refl _, Nat.le_refl _⟩ (Nat.le_of_ble_eq_true rfl) rfl ?_
        refine jm_Cl.mono h (fun o m10 h hr _ => ?_)
        obtain rfl := jm_rokV hr
        have h := h rfl
        refine jm_iconst (v := 0) d_X11_promised_41 rfl (jm_okI (by decide) (by decide)) ?_
        refine jm_istore (L' := [some (jm_R _), some (jm_I _), some (jm_I _), some (jm_I _), some (jm_I _), none]) d_X11_promised_42 (Nat.le_of_ble_eq_true rfl) rfl ?_
        refine jm_iconst (v := 0) d_X11_promised_44 rfl (jm_okI (by decide) (by decide)) ?_
        refine jm_istore (L' := [some (jm_R _), some (jm_I _), some (jm_I _), some (jm_I _), some (jm_I _), some (jm_I _)]) d_X11_promised_45 (Nat.le_of_ble_eq_true rfl) rfl ?_
        exact h
      · have h := h.2 c9
        refine jm_iloadn d_X11_promised_25 rfl ?_
        refine jm_iconst (v := 4) d_X11_promised_26 rfl (jm_okI (by decide) (by decide)) ?_
        refine jm_bipush (v := 8) d_X11_promised_27 rfl (jm_okI (by decide) (by decide)) ?_
        refine jm_invS (n1 := jm_N) (mc := 0) (ms := 0) (av := [jm_I _, jm_I _, jm_I _]) w_X11_isIn l_X11_177 d_X11_promised_29 rfl ⟨Nat.le_refl _, Nat.le_refl _⟩ (Nat.le_of_ble_eq_true rfl) rfl ?_
        refine jm_Cl.mono h (fun o m11 h hr _ => ?_)
        obtain ⟨r12, rfl, z13⟩ := jm_rokZ hr
        have h := h _ rfl z13
        refine jm_if_ne (tgt := 37) d_X11_promised_32 (by decide) (fun c14 => ?_) (fun c14 => ?_)
        · have h := h.1 c14
          refine jm_aloadn d_X11_promised_37 rfl ?_
          refine jm_invV (n1 := jm_N) (mc := 0) (ms := 0) (av := []) w_X11_lay l_X11_270 d_X11_promised_38 rfl is_133 ⟨_, _, rfl⟩ ⟨Nat.le_refl _, Nat.le_refl _⟩ (Nat.le_of_ble_eq_true rfl) rfl ?_
          refine jm_Cl.mono h (fun o m15 h hr _ => ?_)
          obtain rfl := jm_rokV hr
          have h := h rfl
          refine jm_iconst (v := 0) d_X11_promised_41 rfl (jm_okI (by decide) (by decide)) ?_
          refine jm_istore (L' := [some (jm_R _), some (jm_I _), some (jm_I _), some (jm_I _), some (jm_I _), none]) d_X11_promised_42 (Nat.le_of_ble_eq_true rfl) rfl ?_
          refine jm_iconst (v := 0) d_X11_promised_44 rfl (jm_okI (by decide) (by decide)) ?_
          refine jm_istore (L' := [some (jm_R _), some (jm_I _), some (jm_I _), some (jm_I _), some (jm_I _), some (jm_I _)]) d_X11_promised_45 (Nat.le_of_ble_eq_true rfl) rfl ?_
          exact h
        · have h := h.2 c14
          refine jm_iconst (v := (-1)) d_X11_promised_35 rfl (jm_okI (by decide) (by decide)) ?_
          exact jm_ret (o := some (jm_I _)) d_X11_promised_36 rfl ⟨Nat.le_refl _, Nat.le_refl _⟩ jm_r_I h rfl
set_option maxRecDepth 20000 in
theorem r_X11_promised_47 {E : jm_E} {d : Nat} {μ : jm_M} {Q : Option jm_V → jm_M → Prop} {v1 v2 v3 v4 v5 : Int} (h :
  ((μ 150 0 ≤ v5 →
    Q (some (jm_I v4)) μ) ∧
   (¬ (μ 150 0 ≤ v5) →
    jc E m_X11_isPromise d [jm_R 133, jm_I v5] μ (fun (o : Option jm_V) (m2 : jm_M) => ∀ r3 : Int, o = some (jm_I r3) → (r3 = 0 ∨ r3 = 1) →
    ((r3 = 0 →
      jg E m_X11_promised d 47 [some (jm_R 133), some (jm_I v1), some (jm_I v2), some (jm_I v3), some (jm_I v4), some (jm_I (jm_wr (v5 + 1)))] [] m2 Q) ∧
     (¬ (r3 = 0) →
      (0 ≤ v5 ∧ v5 < 800) ∧
      ((m2 144 v5 ≠ v1 →
        jg E m_X11_promised d 47 [some (jm_R 133), some (jm_I v1), some (jm_I v2), some (jm_I v3), some (jm_I v4), some (jm_I (jm_wr (v5 + 1)))] [] m2 Q) ∧
       (¬ (m2 144 v5 ≠ v1) →
        (0 ≤ m2 146 v5 ∧ m2 146 v5 < 800) ∧
        (((m2 144 (m2 146 v5)) ≠ v2 →
          jg E m_X11_promised d 47 [some (jm_R 133), some (jm_I v1), some (jm_I v2), some (jm_I v3), some (jm_I v4), some (jm_I (jm_wr (v5 + 1)))] [] m2 Q) ∧
         (¬ ((m2 144 (m2 146 v5)) ≠ v2) →
          ((v3 = 0 →
            jg E m_X11_promised d 47 [some (jm_R 133), some (jm_I v1), some (jm_I v2), some (jm_I v3), some (jm_I (jm_wr (v4 + 1))), some (jm_I (jm_wr (v5 + 1)))] [] m2 Q) ∧
           (¬ (v3 = 0) →
            jc E m_X11_stateOf d [jm_R 133, jm_I 0, jm_I v5] m2 (fun (o : Option jm_V) (m11 : jm_M) => ∀ r12 : Int, o = some (jm_I r12) →
            ((r12 ≠ v3 →
              jg E m_X11_promised d 47 [some (jm_R 133), some (jm_I v1), some (jm_I v2), some (jm_I v3), some (jm_I v4), some (jm_I (jm_wr (v5 + 1)))] [] m11 Q) ∧
             (¬ (r12 ≠ v3) →
              jg E m_X11_promised d 47 [some (jm_R 133), some (jm_I v1), some (jm_I v2), some (jm_I v3), some (jm_I (jm_wr (v4 + 1))), some (jm_I (jm_wr (v5 + 1)))] [] m11 Q))))))))))))))) : jg E m_X11_promised d 47 [some (jm_R 133), some (jm_I v1), some (jm_I v2), some (jm_I v3), some (jm_I v4), some (jm_I v5)] [] μ Q := by
  refine jm_iload d_X11_promised_47 rfl ?_
  refine jm_aloadn d_X11_promised_49 rfl ?_
  refine jm_getF (k := 29) (ki := 29) rfl cf_X11 (Nat.le_of_ble_eq_true rfl) f_X11_60 d_X11_promised_50 rfl rfl is_133 fr_133_29 ?_
  refine jm_iconst (v := 0) d_X11_promised_53 rfl (jm_okI (by decide) (by decide)) ?_
  refine jm_iaload d_X11_promised_54 (ixl_150 (by decide) (by decide)) ?_
  refine jm_icmp_ge (tgt := 118) d_X11_promised_55 (by decide) (fun c1 => ?_) (fun c1 => ?_)
  · have h := h.1 c1
    refine jm_iload d_X11_promised_118 rfl ?_
    exact jm_ret (o := some (jm_I _)) d_X11_promised_120 rfl ⟨Nat.le_refl _, Nat.le_refl _⟩ jm_r_I h rfl
  · have h := h.2 c1
    refine jm_aloadn d_X11_promised_58 rfl ?_
    refine jm_iload d_X11_promised_59 rfl ?_
    refine jm_invV (n1 := jm_N) (mc := 0) (ms := 0) (av := [jm_I _]) w_X11_isPromise l_X11_292 d_X11_promised_61 rfl is_133 ⟨_, _, rfl⟩ ⟨Nat.le_refl _, Nat.le_refl _⟩ (Nat.le_of_ble_eq_true rfl) rfl ?_
    refine jm_Cl.mono h (fun o m2 h hr _ => ?_)
    obtain ⟨r3, rfl, z4⟩ := jm_rokZ hr
    have h := h _ rfl z4
    refine jm_if_eq (tgt := 112) d_X11_promised_64 (by decide) (fun c5 => ?_) (fun c5 => ?_)
    · have h := h.1 c5
      refine jm_iinc (L' := [some (jm_R _), some (jm_I _), some (jm_I _), some (jm_I _), some (jm_I _), some (jm_I _)]) d_X11_promised_112 rfl rfl (Nat.le_of_ble_eq_true rfl) rfl ?_
      refine jm_goto (tgt := 47) d_X11_promised_115 (by decide) ?_
      exact h
    · have h := h.2 c5
      refine jm_aloadn d_X11_promised_67 rfl ?_
      refine jm_getF (k := 23) (ki := 23) rfl cf_X11 (Nat.le_of_ble_eq_true rfl) f_X11_42 d_X11_promised_68 rfl rfl is_133 fr_133_23 ?_
      refine jm_iload d_X11_promised_71 rfl ?_
      obtain ⟨f6, h⟩ := h
      refine jm_iaload d_X11_promised_73 (ixl_144 f6.1 f6.2) ?_
      refine jm_iloadn d_X11_promised_74 rfl ?_
      refine jm_icmp_ne (tgt := 112) d_X11_promised_75 (by decide) (fun c7 => ?_) (fun c7 => ?_)
      · have h := h.1 c7
        refine jm_iinc (L' := [some (jm_R _), some (jm_I _), some (jm_I _), some (jm_I _), some (jm_I _), some (jm_I _)]) d_X11_promised_112 rfl rfl (Nat.le_of_ble_eq_true rfl) rfl ?_
        refine jm_goto (tgt := 47) d_X11_promised_115 (by decide) ?_
        exact h
      · have h := h.2 c7
        refine jm_aloadn d_X11_promised_78 rfl ?_
        refine jm_getF (k := 23) (ki := 23) rfl cf_X11 (Nat.le_of_ble_eq_true rfl) f_X11_42 d_X11_promised_79 rfl rfl is_133 fr_133_23 ?_
        refine jm_aloadn d_X11_promised_82 rfl ?_
        refine jm_getF (k := 25) (ki := 25) rfl cf_X11 (Nat.le_of_ble_eq_true rfl) f_X11_48 d_X11_promised_83 rfl rfl is_133 fr_133_25 ?_
        refine jm_iload d_X11_promised_86 rfl ?_
        refine jm_iaload d_X11_promised_88 (ixl_146 f6.1 f6.2) ?_
        obtain ⟨f8, h⟩ := h
        refine jm_iaload d_X11_promised_89 (ixl_144 f8.1 f8.2) ?_
        refine jm_iloadn d_X11_promised_90 rfl ?_
        refine jm_icmp_ne (tgt := 112) d_X11_promised_91 (by decide) (fun c9 => ?_) (fun c9 => ?_)
        · have h := h.1 c9
          refine jm_iinc (L' := [some (jm_R _), some (jm_I _), some (jm_I _), some (jm_I _), some (jm_I _), some (jm_I _)]) d_X11_promised_112 rfl rfl (Nat.le_of_ble_eq_true rfl) rfl ?_
          refine jm_goto (tgt := 47) d_X11_promised_115 (by decide) ?_
          exact h
        · have h := h.2 c9
          refine jm_iloadn d_X11_promised_94 rfl ?_
          refine jm_if_eq (tgt := 109) d_X11_promised_95 (by decide) (fun c10 => ?_) (fun c10 => ?_)
          · have h := h.1 c10
            refine jm_iinc (L' := [some (jm_R _), some (jm_I _), some (jm_I _), some (jm_I _), some (jm_I _), some (jm_I _)]) d_X11_promised_109 rfl rfl (Nat.le_of_ble_eq_true rfl) rfl ?_
            refine jm_iinc (L' := [some (jm_R _), some (jm_I _), some (jm_I _), some (jm_I _), some (jm_I _), some (jm_I _)]) d_X11_promised_112 rfl rfl (Nat.le_of_ble_eq_true rfl) rfl ?_
            refine jm_goto (tgt := 47) d_X11_promised_115 (by decide) ?_
            exact h
          · have h := h.2 c10
            refine jm_aloadn d_X11_promised_98 rfl ?_
            refine jm_iconst (v := 0) d_X11_promised_99 rfl (jm_okI (by decide) (by decide)) ?_
            refine jm_iload d_X11_promised_100 rfl ?_
            refine jm_invV (n1 := jm_N) (mc := 0) (ms := 0) (av := [jm_I _, jm_I _]) w_X11_stateOf l_X11_289 d_X11_promised_102 rfl is_133 ⟨_, _, rfl⟩ ⟨Nat.le_refl _, Nat.le_refl _⟩ (Nat.le_of_ble_eq_true rfl) rfl ?_
            refine jm_Cl.mono h (fun o m11 h hr _ => ?_)
            obtain ⟨r12, rfl⟩ := jm_rokI hr
            have h := h _ rfl
            refine jm_iloadn d_X11_promised_105 rfl ?_
            refine jm_icmp_ne (tgt := 112) d_X11_promised_106 (by decide) (fun c13 => ?_) (fun c13 => ?_)
            · have h := h.1 c13
              refine jm_iinc (L' := [some (jm_R _), some (jm_I _), some (jm_I _), some (jm_I _), some (jm_I _), some (jm_I _)]) d_X11_promised_112 rfl rfl (Nat.le_of_ble_eq_true rfl) rfl ?_
              refine jm_goto (tgt := 47) d_X11_promised_115 (by decide) ?_
              exact h
            · have h := h.2 c13
              refine jm_iinc (L' := [some (jm_R _), some (jm_I _), some (jm_I _), some (jm_I _), some (jm_I _), some (jm_I _)]) d_X11_promised_109 rfl rfl (Nat.le_of_ble_eq_true rfl) rfl ?_
              refine jm_iinc (L' := [some (jm_R _), some (jm_I _), some (jm_I _), some (jm_I _), some (jm_I _), some (jm_I _)]) d_X11_promised_112 rfl rfl (Nat.le_of_ble_eq_true rfl) rfl ?_
              refine jm_goto (tgt := 47) d_X11_promised_115 (by decide) ?_
              exact h
/-! ('CombTableModel', 'spoke', '(II)I') -/
theorem d_X11_spoke_0 : decode m_X11_spoke.2.1 0 = .ok (.aload_n 0, 1) := by decide +kernel
theorem d_X11_spoke_1 : decode m_X11_spoke.2.1 1 = .ok (.iconst 0, 1) := by decide +kernel
theorem d_X11_spoke_2 : decode m_X11_spoke.2.1 2 = .ok (.putfield 106, 3) := by decide +kernel
theorem d_X11_spoke_5 : decode m_X11_spoke.2.1 5 = .ok (.iload_n 1, 1) := by decide +kernel
theorem d_X11_spoke_6 : decode m_X11_spoke.2.1 6 = .ok (.iconst (-1), 1) := by decide +kernel
theorem d_X11_spoke_7 : decode m_X11_spoke.2.1 7 = .ok (.if_icmp .eq 11, 3) := by decide +kernel
theorem d_X11_spoke_10 : decode m_X11_spoke.2.1 10 = .ok (.aload_n 0, 1) := by decide +kernel
theorem d_X11_spoke_11 : decode m_X11_spoke.2.1 11 = .ok (.iload_n 1, 1) := by decide +kernel
theorem d_X11_spoke_12 : decode m_X11_spoke.2.1 12 = .ok (.invokevirtual 242, 3) := by decide +kernel
theorem d_X11_spoke_15 : decode m_X11_spoke.2.1 15 = .ok (.ifCond .eq 16, 3) := by decide +kernel
theorem d_X11_spoke_18 : decode m_X11_spoke.2.1 18 = .ok (.iload_n 2, 1) := by decide +kernel
theorem d_X11_spoke_19 : decode m_X11_spoke.2.1 19 = .ok (.iconst (-1), 1) := by decide +kernel
theorem d_X11_spoke_20 : decode m_X11_spoke.2.1 20 = .ok (.if_icmp .eq 13, 3) := by decide +kernel
theorem d_X11_spoke_23 : decode m_X11_spoke.2.1 23 = .ok (.aload_n 0, 1) := by decide +kernel
theorem d_X11_spoke_24 : decode m_X11_spoke.2.1 24 = .ok (.iload_n 2, 1) := by decide +kernel
theorem d_X11_spoke_25 : decode m_X11_spoke.2.1 25 = .ok (.invokevirtual 245, 3) := by decide +kernel
theorem d_X11_spoke_28 : decode m_X11_spoke.2.1 28 = .ok (.ifCond .ne 5, 3) := by decide +kernel
theorem d_X11_spoke_31 : decode m_X11_spoke.2.1 31 = .ok (.iconst (-1), 1) := by decide +kernel
theorem d_X11_spoke_32 : decode m_X11_spoke.2.1 32 = .ok (.ireturn, 1) := by decide +kernel
theorem d_X11_spoke_33 : decode m_X11_spoke.2.1 33 = .ok (.iconst 0, 1) := by decide +kernel
theorem d_X11_spoke_34 : decode m_X11_spoke.2.1 34 = .ok (.istore_n 3, 1) := by decide +kernel
theorem d_X11_spoke_35 : decode m_X11_spoke.2.1 35 = .ok (.iconst 0, 1) := by decide +kernel
theorem d_X11_spoke_36 : decode m_X11_spoke.2.1 36 = .ok (.istore 4, 2) := by decide +kernel
theorem d_X11_spoke_38 : decode m_X11_spoke.2.1 38 = .ok (.iload 4, 2) := by decide +kernel
theorem d_X11_spoke_40 : decode m_X11_spoke.2.1 40 = .ok (.aload_n 0, 1) := by decide +kernel
theorem d_X11_spoke_41 : decode m_X11_spoke.2.1 41 = .ok (.getfield 13, 3) := by decide +kernel
theorem d_X11_spoke_44 : decode m_X11_spoke.2.1 44 = .ok (.bipush 60, 2) := by decide +kernel
theorem d_X11_spoke_46 : decode m_X11_spoke.2.1 46 = .ok (.iaload, 1) := by decide +kernel
theorem d_X11_spoke_47 : decode m_X11_spoke.2.1 47 = .ok (.if_icmp .ge 56, 3) := by decide +kernel
theorem d_X11_spoke_50 : decode m_X11_spoke.2.1 50 = .ok (.iload_n 1, 1) := by decide +kernel
theorem d_X11_spoke_51 : decode m_X11_spoke.2.1 51 = .ok (.iconst (-1), 1) := by decide +kernel
theorem d_X11_spoke_52 : decode m_X11_spoke.2.1 52 = .ok (.if_icmp .eq 19, 3) := by decide +kernel
theorem d_X11_spoke_55 : decode m_X11_spoke.2.1 55 = .ok (.aload_n 0, 1) := by decide +kernel
theorem d_X11_spoke_56 : decode m_X11_spoke.2.1 56 = .ok (.getfield 13, 3) := by decide +kernel
theorem d_X11_spoke_59 : decode m_X11_spoke.2.1 59 = .ok (.bipush 61, 2) := by decide +kernel
theorem d_X11_spoke_61 : decode m_X11_spoke.2.1 61 = .ok (.iconst 2, 1) := by decide +kernel
theorem d_X11_spoke_62 : decode m_X11_spoke.2.1 62 = .ok (.iload 4, 2) := by decide +kernel
theorem d_X11_spoke_64 : decode m_X11_spoke.2.1 64 = .ok (.imul, 1) := by decide +kernel
theorem d_X11_spoke_65 : decode m_X11_spoke.2.1 65 = .ok (.iadd, 1) := by decide +kernel
theorem d_X11_spoke_66 : decode m_X11_spoke.2.1 66 = .ok (.iaload, 1) := by decide +kernel
theorem d_X11_spoke_67 : decode m_X11_spoke.2.1 67 = .ok (.iload_n 1, 1) := by decide +kernel
theorem d_X11_spoke_68 : decode m_X11_spoke.2.1 68 = .ok (.if_icmp .ne 29, 3) := by decide +kernel
theorem d_X11_spoke_71 : decode m_X11_spoke.2.1 71 = .ok (.iload_n 2, 1) := by decide +kernel
theorem d_X11_spoke_72 : decode m_X11_spoke.2.1 72 = .ok (.iconst (-1), 1) := by decide +kernel
theorem d_X11_spoke_73 : decode m_X11_spoke.2.1 73 = .ok (.if_icmp .eq 21, 3) := by decide +kernel
theorem d_X11_spoke_76 : decode m_X11_spoke.2.1 76 = .ok (.aload_n 0, 1) := by decide +kernel
theorem d_X11_spoke_77 : decode m_X11_spoke.2.1 77 = .ok (.getfield 13, 3) := by decide +kernel
theorem d_X11_spoke_80 : decode m_X11_spoke.2.1 80 = .ok (.bipush 61, 2) := by decide +kernel
theorem d_X11_spoke_82 : decode m_X11_spoke.2.1 82 = .ok (.iconst 2, 1) := by decide +kernel
theorem d_X11_spoke_83 : decode m_X11_spoke.2.1 83 = .ok (.iload 4, 2) := by decide +kernel
theorem d_X11_spoke_85 : decode m_X11_spoke.2.1 85 = .ok (.imul, 1) := by decide +kernel
theorem d_X11_spoke_86 : decode m_X11_spoke.2.1 86 = .ok (.iadd, 1) := by decide +kernel
theorem d_X11_spoke_87 : decode m_X11_spoke.2.1 87 = .ok (.iconst 1, 1) := by decide +kernel
theorem d_X11_spoke_88 : decode m_X11_spoke.2.1 88 = .ok (.iadd, 1) := by decide +kernel
theorem d_X11_spoke_89 : decode m_X11_spoke.2.1 89 = .ok (.iaload, 1) := by decide +kernel
theorem d_X11_spoke_90 : decode m_X11_spoke.2.1 90 = .ok (.iload_n 2, 1) := by decide +kernel
theorem d_X11_spoke_91 : decode m_X11_spoke.2.1 91 = .ok (.if_icmp .ne 6, 3) := by decide +kernel
theorem d_X11_spoke_94 : decode m_X11_spoke.2.1 94 = .ok (.iinc 3 1, 3) := by decide +kernel
theorem d_X11_spoke_97 : decode m_X11_spoke.2.1 97 = .ok (.iinc 4 1, 3) := by decide +kernel
theorem d_X11_spoke_100 : decode m_X11_spoke.2.1 100 = .ok (.goto (-62), 3) := by decide +kernel
theorem d_X11_spoke_103 : decode m_X11_spoke.2.1 103 = .ok (.iload_n 3, 1) := by decide +kernel
theorem d_X11_spoke_104 : decode m_X11_spoke.2.1 104 = .ok (.ireturn, 1) := by decide +kernel
set_option maxRecDepth 20000 in
theorem e_X11_spoke {E : jm_E} {d : Nat} {μ : jm_M} {Q : Option jm_V → jm_M → Prop} {v1 v2 : Int} (h : (∀ v ∈ ([jm_R 133, jm_I v1, jm_I v2] : List jm_V), jm_ok v) →
  ((v1 = ((-1)) →
    ((v2 = ((-1)) →
      jg E m_X11_spoke d 38 [some (jm_R 133), some (jm_I v1), some (jm_I v2), some (jm_I 0), some (jm_I 0)] [] (jm_up μ 133 0 0) Q) ∧
     (¬ (v2 = ((-1))) →
      jc E m_X11_isKind d [jm_R 133, jm_I v2] (jm_up μ 133 0 0) (fun (o : Option jm_V) (m3 : jm_M) => ∀ r4 : Int, o = some (jm_I r4) → (r4 = 0 ∨ r4 = 1) →
      ((r4 ≠ 0 →
        jg E m_X11_spoke d 38 [some (jm_R 133), some (jm_I v1), some (jm_I v2), some (jm_I 0), some (jm_I 0)] [] m3 Q) ∧
       (¬ (r4 ≠ 0) →
        Q (some (jm_I ((-1)))) m3)))))) ∧
   (¬ (v1 = ((-1))) →
    jc E m_X11_isWho d [jm_R 133, jm_I v1] (jm_up μ 133 0 0) (fun (o : Option jm_V) (m7 : jm_M) => ∀ r8 : Int, o = some (jm_I r8) → (r8 = 0 ∨ r8 = 1) →
    ((r8 = 0 →
      Q (some (jm_I ((-1)))) m7) ∧
     (¬ (r8 = 0) →
      ((v2 = ((-1)) →
        jg E m_X11_spoke d 38 [some (jm_R 133), some (jm_I v1), some (jm_I v2), some (jm_I 0), some (jm_I 0)] [] m7 Q) ∧
       (¬ (v2 = ((-1))) →
        jc E m_X11_isKind d [jm_R 133, jm_I v2] m7 (fun (o : Option jm_V) (m12 : jm_M) => ∀ r13 : Int, o = some (jm_I r13) → (r13 = 0 ∨ r13 = 1) →
        ((r13 ≠ 0 →
          jg E m_X11_spoke d 38 [some (jm_R 133), some (jm_I v1), some (jm_I v2), some (jm_I 0), some (jm_I 0)] [] m12 Q) ∧
         (¬ (r13 ≠ 0) →
          Q (some (jm_I ((-1)))) m12))))))))))) : jc E m_X11_spoke (d + 1) [jm_R 133, jm_I v1, jm_I v2] μ Q := by
  refine jm_Cl.of2 (by decide +kernel) (L0 := [some (jm_R 133), some (jm_I v1), some (jm_I v2), none, none]) rfl (Nat.le_of_ble_eq_true rfl) (fun hok => ?_)
  have h := h hok
  refine jm_aloadn d_X11_spoke_0 rfl ?_
  refine jm_iconst (v := 0) d_X11_spoke_1 rfl (jm_okI (by decide) (by decide)) ?_
  refine jm_putI (k := 0) (ki := 0) cf_X11 (Nat.le_of_ble_eq_true rfl) f_X11_106 d_X11_spoke_2 (fun z => absurd z (by decide)) rfl rfl rfl (fun _ => rfl) is_133 ?_
  refine jm_iloadn d_X11_spoke_5 rfl ?_
  refine jm_iconst (v := (-1)) d_X11_spoke_6 rfl (jm_okI (by decide) (by decide)) ?_
  refine jm_icmp_eq (tgt := 18) d_X11_spoke_7 (by decide) (fun c1 => ?_) (fun c1 => ?_)
  · have h := h.1 c1
    refine jm_iloadn d_X11_spoke_18 rfl ?_
    refine jm_iconst (v := (-1)) d_X11_spoke_19 rfl (jm_okI (by decide) (by decide)) ?_
    refine jm_icmp_eq (tgt := 33) d_X11_spoke_20 (by decide) (fun c2 => ?_) (fun c2 => ?_)
    · have h := h.1 c2
      refine jm_iconst (v := 0) d_X11_spoke_33 rfl (jm_okI (by decide) (by decide)) ?_
      refine jm_istoren (L' := [some (jm_R _), some (jm_I _), some (jm_I _), some (jm_I _), none]) d_X11_spoke_34 (Nat.le_of_ble_eq_true rfl) rfl ?_
      refine jm_iconst (v := 0) d_X11_spoke_35 rfl (jm_okI (by decide) (by decide)) ?_
      refine jm_istore (L' := [some (jm_R _), some (jm_I _), some (jm_I _), some (jm_I _), some (jm_I _)]) d_X11_spoke_36 (Nat.le_of_ble_eq_true rfl) rfl ?_
      exact h
    · have h := h.2 c2
      refine jm_aloadn d_X11_spoke_23 rfl ?_
      refine jm_iloadn d_X11_spoke_24 rfl ?_
      refine jm_invV (n1 := jm_N) (mc := 0) (ms := 0) (av := [jm_I _]) w_X11_isKind l_X11_245 d_X11_spoke_25 rfl is_133 ⟨_, _, rfl⟩ ⟨Nat.le_refl _, Nat.le_refl _⟩ (Nat.le_of_ble_eq_true rfl) rfl ?_
      refine jm_Cl.mono h (fun o m3 h hr _ => ?_)
      obtain ⟨r4, rfl, z5⟩ := jm_rokZ hr
      have h := h _ rfl z5
      refine jm_if_ne (tgt := 33) d_X11_spoke_28 (by decide) (fun c6 => ?_) (fun c6 => ?_)
      · have h := h.1 c6
        refine jm_iconst (v := 0) d_X11_spoke_33 rfl (jm_okI (by decide) (by decide)) ?_
        refine jm_istoren (L' := [some (jm_R _), some (jm_I _), some (jm_I _), some (jm_I _), none]) d_X11_spoke_34 (Nat.le_of_ble_eq_true rfl) rfl ?_
        refine jm_iconst (v := 0) d_X11_spoke_35 rfl (jm_okI (by decide) (by decide)) ?_
        refine jm_istore (L' := [some (jm_R _), some (jm_I _), some (jm_I _), some (jm_I _), some (jm_I _)]) d_X11_spoke_36 (Nat.le_of_ble_eq_true rfl) rfl ?_
        exact h
      · have h := h.2 c6
        refine jm_iconst (v := (-1)) d_X11_spoke_31 rfl (jm_okI (by decide) (by decide)) ?_
        exact jm_ret (o := some (jm_I _)) d_X11_spoke_32 rfl ⟨Nat.le_refl _, Nat.le_refl _⟩ jm_r_I h rfl
  · have h := h.2 c1
    refine jm_aloadn d_X11_spoke_10 rfl ?_
    refine jm_iloadn d_X11_spoke_11 rfl ?_
    refine jm_invV (n1 := jm_N) (mc := 0) (ms := 0) (av := [jm_I _]) w_X11_isWho l_X11_242 d_X11_spoke_12 rfl is_133 ⟨_, _, rfl⟩ ⟨Nat.le_refl _, Nat.le_refl _⟩ (Nat.le_of_ble_eq_true rfl) rfl ?_
    refine jm_Cl.mono h (fun o m7 h hr _ => ?_)
    obtain ⟨r8, rfl, z9⟩ := jm_rokZ hr
    have h := h _ rfl z9
    refine jm_if_eq (tgt := 31) d_X11_spoke_15 (by decide) (fun c10 => ?_) (fun c10 => ?_)
    · have h := h.1 c10
      refine jm_iconst (v := (-1)) d_X11_spoke_31 rfl (jm_okI (by decide) (by decide)) ?_
      exact jm_ret (o := some (jm_I _)) d_X11_spoke_32 rfl ⟨Nat.le_refl _, Nat.le_refl _⟩ jm_r_I h rfl
    · have h := h.2 c10
      refine jm_iloadn d_X11_spoke_18 rfl ?_
      refine jm_iconst (v := (-1)) d_X11_spoke_19 rfl (jm_okI (by decide) (by decide)) ?_
      refine jm_icmp_eq (tgt := 33) d_X11_spoke_20 (by decide) (fun c11 => ?_) (fun c11 => ?_)
      · have h := h.1 c11
        refine jm_iconst (v := 0) d_X11_spoke_33 rfl (jm_okI (by decide) (by decide)) ?_
        refine jm_istoren (L' := [some (jm_R _), some (jm_I _), some (jm_I _), some (jm_I _), none]) d_X11_spoke_34 (Nat.le_of_ble_eq_true rfl) rfl ?_
        refine jm_iconst (v := 0) d_X11_spoke_35 rfl (jm_okI (by decide) (by decide)) ?_
        refine jm_istore (L' := [some (jm_R _), some (jm_I _), some (jm_I _), some (jm_I _), some (jm_I _)]) d_X11_spoke_36 (Nat.le_of_ble_eq_true rfl) rfl ?_
        exact h
      · have h := h.2 c11
        refine jm_aloadn d_X11_spoke_23 rfl ?_
        refine jm_iloadn d_X11_spoke_24 rfl ?_
        refine jm_invV (n1 := jm_N) (mc := 0) (ms := 0) (av := [jm_I _]) w_X11_isKind l_X11_245 d_X11_spoke_25 rfl is_133 ⟨_, _, rfl⟩ ⟨Nat.le_refl _, Nat.le_refl _⟩ (Nat.le_of_ble_eq_true rfl) rfl ?_
        refine jm_Cl.mono h (fun o m12 h hr _ => ?_)
        obtain ⟨r13, rfl, z14⟩ := jm_rokZ hr
        have h := h _ rfl z14
        refine jm_if_ne (tgt := 33) d_X11_spoke_28 (by decide) (fun c15 => ?_) (fun c15 => ?_)
        · have h := h.1 c15
          refine jm_iconst (v := 0) d_X11_spoke_33 rfl (jm_okI (by decide) (by decide)) ?_
          refine jm_istoren (L' := [some (jm_R _), some (jm_I _), some (jm_I _), some (jm_I _), none]) d_X11_spoke_34 (Nat.le_of_ble_eq_true rfl) rfl ?_
          refine jm_iconst (v := 0) d_X11_spoke_35 rfl (jm_okI (by decide) (by decide)) ?_
          refine jm_istore (L' := [some (jm_R _), some (jm_I _), some (jm_I _), some (jm_I _), some (jm_I _)]) d_X11_spoke_36 (Nat.le_of_ble_eq_true rfl) rfl ?_
          exact h
        · have h := h.2 c15
          refine jm_iconst (v := (-1)) d_X11_spoke_31 rfl (jm_okI (by decide) (by decide)) ?_
          exact jm_ret (o := some (jm_I _)) d_X11_spoke_32 rfl ⟨Nat.le_refl _, Nat.le_refl _⟩ jm_r_I h rfl
set_option maxRecDepth 20000 in
theorem r_X11_spoke_38 {E : jm_E} {d : Nat} {μ : jm_M} {Q : Option jm_V → jm_M → Prop} {v1 v2 v3 v4 : Int} (h :
  ((μ 135 60 ≤ v4 →
    Q (some (jm_I v3)) μ) ∧
   (¬ (μ 135 60 ≤ v4) →
    ((v1 = ((-1)) →
      jg E m_X11_spoke d 71 [some (jm_R 133), some (jm_I v1), some (jm_I v2), some (jm_I v3), some (jm_I v4)] [] μ Q) ∧
     (¬ (v1 = ((-1))) →
      (0 ≤ jm_wr (61 + (jm_wr (2 * v4))) ∧ jm_wr (61 + (jm_wr (2 * v4))) < 1152) ∧
      (((μ 135 (jm_wr (61 + (jm_wr (2 * v4))))) ≠ v1 →
        jg E m_X11_spoke d 38 [some (jm_R 133), some (jm_I v1), some (jm_I v2), some (jm_I v3), some (jm_I (jm_wr (v4 + 1)))] [] μ Q) ∧
       (¬ ((μ 135 (jm_wr (61 + (jm_wr (2 * v4))))) ≠ v1) →
        jg E m_X11_spoke d 71 [some (jm_R 133), some (jm_I v1), some (jm_I v2), some (jm_I v3), some (jm_I v4)] [] μ Q))))))) : jg E m_X11_spoke d 38 [some (jm_R 133), some (jm_I v1), some (jm_I v2), some (jm_I v3), some (jm_I v4)] [] μ Q := by
  refine jm_iload d_X11_spoke_38 rfl ?_
  refine jm_aloadn d_X11_spoke_40 rfl ?_
  refine jm_getF (k := 14) (ki := 14) rfl cf_X11 (Nat.le_of_ble_eq_true rfl) f_X11_13 d_X11_spoke_41 rfl rfl is_133 fr_133_14 ?_
  refine jm_bipush (v := 60) d_X11_spoke_44 rfl (jm_okI (by decide) (by decide)) ?_
  refine jm_iaload d_X11_spoke_46 (ixl_135 (by decide) (by decide)) ?_
  refine jm_icmp_ge (tgt := 103) d_X11_spoke_47 (by decide) (fun c1 => ?_) (fun c1 => ?_)
  · have h := h.1 c1
    refine jm_iloadn d_X11_spoke_103 rfl ?_
    exact jm_ret (o := some (jm_I _)) d_X11_spoke_104 rfl ⟨Nat.le_refl _, Nat.le_refl _⟩ jm_r_I h rfl
  · have h := h.2 c1
    refine jm_iloadn d_X11_spoke_50 rfl ?_
    refine jm_iconst (v := (-1)) d_X11_spoke_51 rfl (jm_okI (by decide) (by decide)) ?_
    refine jm_icmp_eq (tgt := 71) d_X11_spoke_52 (by decide) (fun c2 => ?_) (fun c2 => ?_)
    · have h := h.1 c2
      exact h
    · have h := h.2 c2
      refine jm_aloadn d_X11_spoke_55 rfl ?_
      refine jm_getF (k := 14) (ki := 14) rfl cf_X11 (Nat.le_of_ble_eq_true rfl) f_X11_13 d_X11_spoke_56 rfl rfl is_133 fr_133_14 ?_
      refine jm_bipush (v := 61) d_X11_spoke_59 rfl (jm_okI (by decide) (by decide)) ?_
      refine jm_iconst (v := 2) d_X11_spoke_61 rfl (jm_okI (by decide) (by decide)) ?_
      refine jm_iload d_X11_spoke_62 rfl ?_
      refine jm_imul d_X11_spoke_64 ?_
      refine jm_iadd d_X11_spoke_65 ?_
      obtain ⟨f3, h⟩ := h
      refine jm_iaload d_X11_spoke_66 (ixl_135 f3.1 f3.2) ?_
      refine jm_iloadn d_X11_spoke_67 rfl ?_
      refine jm_icmp_ne (tgt := 97) d_X11_spoke_68 (by decide) (fun c4 => ?_) (fun c4 => ?_)
      · have h := h.1 c4
        refine jm_iinc (L' := [some (jm_R _), some (jm_I _), some (jm_I _), some (jm_I _), some (jm_I _)]) d_X11_spoke_97 rfl rfl (Nat.le_of_ble_eq_true rfl) rfl ?_
        refine jm_goto (tgt := 38) d_X11_spoke_100 (by decide) ?_
        exact h
      · have h := h.2 c4
        exact h
set_option maxRecDepth 20000 in
theorem r_X11_spoke_71 {E : jm_E} {d : Nat} {μ : jm_M} {Q : Option jm_V → jm_M → Prop} {v1 v2 v3 v4 : Int} (h :
  ((v2 = ((-1)) →
    jg E m_X11_spoke d 38 [some (jm_R 133), some (jm_I v1), some (jm_I v2), some (jm_I (jm_wr (v3 + 1))), some (jm_I (jm_wr (v4 + 1)))] [] μ Q) ∧
   (¬ (v2 = ((-1))) →
    (0 ≤ jm_wr ((jm_wr (61 + (jm_wr (2 * v4)))) + 1) ∧ jm_wr ((jm_wr (61 + (jm_wr (2 * v4)))) + 1) < 1152) ∧
    (((μ 135 (jm_wr ((jm_wr (61 + (jm_wr (2 * v4)))) + 1))) ≠ v2 →
      jg E m_X11_spoke d 38 [some (jm_R 133), some (jm_I v1), some (jm_I v2), some (jm_I v3), some (jm_I (jm_wr (v4 + 1)))] [] μ Q) ∧
     (¬ ((μ 135 (jm_wr ((jm_wr (61 + (jm_wr (2 * v4)))) + 1))) ≠ v2) →
      jg E m_X11_spoke d 38 [some (jm_R 133), some (jm_I v1), some (jm_I v2), some (jm_I (jm_wr (v3 + 1))), some (jm_I (jm_wr (v4 + 1)))] [] μ Q))))) : jg E m_X11_spoke d 71 [some (jm_R 133), some (jm_I v1), some (jm_I v2), some (jm_I v3), some (jm_I v4)] [] μ Q := by
  refine jm_iloadn d_X11_spoke_71 rfl ?_
  refine jm_iconst (v := (-1)) d_X11_spoke_72 rfl (jm_okI (by decide) (by decide)) ?_
  refine jm_icmp_eq (tgt := 94) d_X11_spoke_73 (by decide) (fun c1 => ?_) (fun c1 => ?_)
  · have h := h.1 c1
    refine jm_iinc (L' := [some (jm_R _), some (jm_I _), some (jm_I _), some (jm_I _), some (jm_I _)]) d_X11_spoke_94 rfl rfl (Nat.le_of_ble_eq_true rfl) rfl ?_
    refine jm_iinc (L' := [some (jm_R _), some (jm_I _), some (jm_I _), some (jm_I _), some (jm_I _)]) d_X11_spoke_97 rfl rfl (Nat.le_of_ble_eq_true rfl) rfl ?_
    refine jm_goto (tgt := 38) d_X11_spoke_100 (by decide) ?_
    exact h
  · have h := h.2 c1
    refine jm_aloadn d_X11_spoke_76 rfl ?_
    refine jm_getF (k := 14) (ki := 14) rfl cf_X11 (Nat.le_of_ble_eq_true rfl) f_X11_13 d_X11_spoke_77 rfl rfl is_133 fr_133_14 ?_
    refine jm_bipush (v := 61) d_X11_spoke_80 rfl (jm_okI (by decide) (by decide)) ?_
    refine jm_iconst (v := 2) d_X11_spoke_82 rfl (jm_okI (by decide) (by decide)) ?_
    refine jm_iload d_X11_spoke_83 rfl ?_
    refine jm_imul d_X11_spoke_85 ?_
    refine jm_iadd d_X11_spoke_86 ?_
    refine jm_iconst (v := 1) d_X11_spoke_87 rfl (jm_okI (by decide) (by decide)) ?_
    refine jm_iadd d_X11_spoke_88 ?_
    obtain ⟨f2, h⟩ := h
    refine jm_iaload d_X11_spoke_89 (ixl_135 f2.1 f2.2) ?_
    refine jm_iloadn d_X11_spoke_90 rfl ?_
    refine jm_icmp_ne (tgt := 97) d_X11_spoke_91 (by decide) (fun c3 => ?_) (fun c3 => ?_)
    · have h := h.1 c3
      refine jm_iinc (L' := [some (jm_R _), some (jm_I _), some (jm_I _), some (jm_I _), some (jm_I _)]) d_X11_spoke_97 rfl rfl (Nat.le_of_ble_eq_true rfl) rfl ?_
      refine jm_goto (tgt := 38) d_X11_spoke_100 (by decide) ?_
      exact h
    · have h := h.2 c3
      refine jm_iinc (L' := [some (jm_R _), some (jm_I _), some (jm_I _), some (jm_I _), some (jm_I _)]) d_X11_spoke_94 rfl rfl (Nat.le_of_ble_eq_true rfl) rfl ?_
      refine jm_iinc (L' := [some (jm_R _), some (jm_I _), some (jm_I _), some (jm_I _), some (jm_I _)]) d_X11_spoke_97 rfl rfl (Nat.le_of_ble_eq_true rfl) rfl ?_
      refine jm_goto (tgt := 38) d_X11_spoke_100 (by decide) ?_
      exact h
/-! ('CombTableModel', 'draw', '(I)I') -/
theorem d_X11_draw_0 : decode m_X11_draw.2.1 0 = .ok (.aload_n 0, 1) := by decide +kernel
theorem d_X11_draw_1 : decode m_X11_draw.2.1 1 = .ok (.aload_n 0, 1) := by decide +kernel
theorem d_X11_draw_2 : decode m_X11_draw.2.1 2 = .ok (.getfield 295, 3) := by decide +kernel
theorem d_X11_draw_5 : decode m_X11_draw.2.1 5 = .ok (.ldc_w 298, 3) := by decide +kernel
theorem d_X11_draw_8 : decode m_X11_draw.2.1 8 = .ok (.imul, 1) := by decide +kernel
theorem d_X11_draw_9 : decode m_X11_draw.2.1 9 = .ok (.sipush 12345, 3) := by decide +kernel
theorem d_X11_draw_12 : decode m_X11_draw.2.1 12 = .ok (.iadd, 1) := by decide +kernel
theorem d_X11_draw_13 : decode m_X11_draw.2.1 13 = .ok (.putfield 295, 3) := by decide +kernel
theorem d_X11_draw_16 : decode m_X11_draw.2.1 16 = .ok (.aload_n 0, 1) := by decide +kernel
theorem d_X11_draw_17 : decode m_X11_draw.2.1 17 = .ok (.getfield 295, 3) := by decide +kernel
theorem d_X11_draw_20 : decode m_X11_draw.2.1 20 = .ok (.bipush 8, 2) := by decide +kernel
theorem d_X11_draw_22 : decode m_X11_draw.2.1 22 = .ok (.iushr, 1) := by decide +kernel
theorem d_X11_draw_23 : decode m_X11_draw.2.1 23 = .ok (.iload_n 1, 1) := by decide +kernel
theorem d_X11_draw_24 : decode m_X11_draw.2.1 24 = .ok (.irem, 1) := by decide +kernel
theorem d_X11_draw_25 : decode m_X11_draw.2.1 25 = .ok (.ireturn, 1) := by decide +kernel
set_option maxRecDepth 20000 in
theorem e_X11_draw {E : jm_E} {d : Nat} {μ : jm_M} {Q : Option jm_V → jm_M → Prop} {v1 : Int} (h : (∀ v ∈ ([jm_R 133, jm_I v1] : List jm_V), jm_ok v) →
  ∀ x1 : Int, x1 = jm_wr ((jm_wr ((μ 133 32) * 1103515245)) + 12345) →
  (v1 ≠ 0) ∧
  Q (some (jm_I (jm_rem (jm_ushr x1 8) v1))) (jm_up μ 133 32 x1)) : jc E m_X11_draw (d + 1) [jm_R 133, jm_I v1] μ Q := by
  refine jm_Cl.of2 (by decide +kernel) (L0 := [some (jm_R 133), some (jm_I v1)]) rfl (Nat.le_of_ble_eq_true rfl) (fun hok => ?_)
  have h := h hok
  refine jm_aloadn d_X11_draw_0 rfl ?_
  refine jm_aloadn d_X11_draw_1 rfl ?_
  refine jm_getI (k := 32) (ki := 32) cf_X11 (Nat.le_of_ble_eq_true rfl) f_X11_295 d_X11_draw_2 rfl rfl is_133 rfl ?_
  refine jm_ldcw (v := 1103515245) d_X11_draw_5 k_X11_298 (jm_okI (by decide) (by decide)) ?_
  refine jm_imul d_X11_draw_8 ?_
  refine jm_sipush (v := 12345) d_X11_draw_9 rfl (jm_okI (by decide) (by decide)) ?_
  refine jm_iadd d_X11_draw_12 ?_
  have h := h _ rfl
  refine jm_putI (k := 32) (ki := 32) cf_X11 (Nat.le_of_ble_eq_true rfl) f_X11_295 d_X11_draw_13 (fun z => absurd z (by decide)) rfl rfl rfl (fun _ => rfl) is_133 ?_
  refine jm_aloadn d_X11_draw_16 rfl ?_
  refine jm_getI (k := 32) (ki := 32) cf_X11 (Nat.le_of_ble_eq_true rfl) f_X11_295 d_X11_draw_17 rfl rfl is_133 jm_up_at ?_
  refine jm_bipush (v := 8) d_X11_draw_20 rfl (jm_okI (by decide) (by decide)) ?_
  refine jm_iushr d_X11_draw_22 ?_
  refine jm_iloadn d_X11_draw_23 rfl ?_
  obtain ⟨f2, h⟩ := h
  refine jm_irem d_X11_draw_24 f2 ?_
  exact jm_ret (o := some (jm_I _)) d_X11_draw_25 rfl ⟨Nat.le_refl _, Nat.le_refl _⟩ jm_r_I h rfl
/-! ('CombTableModel', 'nextWord', '(I)I') -/
theorem d_X11_nextWord_0 : decode m_X11_nextWord.2.1 0 = .ok (.iconst 0, 1) := by decide +kernel
theorem d_X11_nextWord_1 : decode m_X11_nextWord.2.1 1 = .ok (.istore_n 2, 1) := by decide +kernel
theorem d_X11_nextWord_2 : decode m_X11_nextWord.2.1 2 = .ok (.iconst 0, 1) := by decide +kernel
theorem d_X11_nextWord_3 : decode m_X11_nextWord.2.1 3 = .ok (.istore_n 3, 1) := by decide +kernel
theorem d_X11_nextWord_4 : decode m_X11_nextWord.2.1 4 = .ok (.iload_n 3, 1) := by decide +kernel
theorem d_X11_nextWord_5 : decode m_X11_nextWord.2.1 5 = .ok (.aload_n 0, 1) := by decide +kernel
theorem d_X11_nextWord_6 : decode m_X11_nextWord.2.1 6 = .ok (.getfield 13, 3) := by decide +kernel
theorem d_X11_nextWord_9 : decode m_X11_nextWord.2.1 9 = .ok (.iconst 0, 1) := by decide +kernel
theorem d_X11_nextWord_10 : decode m_X11_nextWord.2.1 10 = .ok (.iaload, 1) := by decide +kernel
theorem d_X11_nextWord_11 : decode m_X11_nextWord.2.1 11 = .ok (.if_icmp .ge 59, 3) := by decide +kernel
theorem d_X11_nextWord_14 : decode m_X11_nextWord.2.1 14 = .ok (.iconst 0, 1) := by decide +kernel
theorem d_X11_nextWord_15 : decode m_X11_nextWord.2.1 15 = .ok (.istore 4, 2) := by decide +kernel
theorem d_X11_nextWord_17 : decode m_X11_nextWord.2.1 17 = .ok (.iload 4, 2) := by decide +kernel
theorem d_X11_nextWord_19 : decode m_X11_nextWord.2.1 19 = .ok (.aload_n 0, 1) := by decide +kernel
theorem d_X11_nextWord_20 : decode m_X11_nextWord.2.1 20 = .ok (.getfield 13, 3) := by decide +kernel
theorem d_X11_nextWord_23 : decode m_X11_nextWord.2.1 23 = .ok (.iconst 1, 1) := by decide +kernel
theorem d_X11_nextWord_24 : decode m_X11_nextWord.2.1 24 = .ok (.iaload, 1) := by decide +kernel
theorem d_X11_nextWord_25 : decode m_X11_nextWord.2.1 25 = .ok (.if_icmp .ge 39, 3) := by decide +kernel
theorem d_X11_nextWord_28 : decode m_X11_nextWord.2.1 28 = .ok (.aload_n 0, 1) := by decide +kernel
theorem d_X11_nextWord_29 : decode m_X11_nextWord.2.1 29 = .ok (.iconst 0, 1) := by decide +kernel
theorem d_X11_nextWord_30 : decode m_X11_nextWord.2.1 30 = .ok (.iload_n 3, 1) := by decide +kernel
theorem d_X11_nextWord_31 : decode m_X11_nextWord.2.1 31 = .ok (.iload 4, 2) := by decide +kernel
theorem d_X11_nextWord_33 : decode m_X11_nextWord.2.1 33 = .ok (.invokevirtual 273, 3) := by decide +kernel
theorem d_X11_nextWord_36 : decode m_X11_nextWord.2.1 36 = .ok (.ifCond .eq 6, 3) := by decide +kernel
theorem d_X11_nextWord_39 : decode m_X11_nextWord.2.1 39 = .ok (.goto 19, 3) := by decide +kernel
theorem d_X11_nextWord_42 : decode m_X11_nextWord.2.1 42 = .ok (.iload_n 2, 1) := by decide +kernel
theorem d_X11_nextWord_43 : decode m_X11_nextWord.2.1 43 = .ok (.iload_n 1, 1) := by decide +kernel
theorem d_X11_nextWord_44 : decode m_X11_nextWord.2.1 44 = .ok (.if_icmp .ne 11, 3) := by decide +kernel
theorem d_X11_nextWord_47 : decode m_X11_nextWord.2.1 47 = .ok (.bipush 16, 2) := by decide +kernel
theorem d_X11_nextWord_49 : decode m_X11_nextWord.2.1 49 = .ok (.iload_n 3, 1) := by decide +kernel
theorem d_X11_nextWord_50 : decode m_X11_nextWord.2.1 50 = .ok (.imul, 1) := by decide +kernel
theorem d_X11_nextWord_51 : decode m_X11_nextWord.2.1 51 = .ok (.iload 4, 2) := by decide +kernel
theorem d_X11_nextWord_53 : decode m_X11_nextWord.2.1 53 = .ok (.iadd, 1) := by decide +kernel
theorem d_X11_nextWord_54 : decode m_X11_nextWord.2.1 54 = .ok (.ireturn, 1) := by decide +kernel
theorem d_X11_nextWord_55 : decode m_X11_nextWord.2.1 55 = .ok (.iinc 2 1, 3) := by decide +kernel
theorem d_X11_nextWord_58 : decode m_X11_nextWord.2.1 58 = .ok (.iinc 4 1, 3) := by decide +kernel
theorem d_X11_nextWord_61 : decode m_X11_nextWord.2.1 61 = .ok (.goto (-44), 3) := by decide +kernel
theorem d_X11_nextWord_64 : decode m_X11_nextWord.2.1 64 = .ok (.iinc 3 1, 3) := by decide +kernel
theorem d_X11_nextWord_67 : decode m_X11_nextWord.2.1 67 = .ok (.goto (-63), 3) := by decide +kernel
theorem d_X11_nextWord_70 : decode m_X11_nextWord.2.1 70 = .ok (.iload_n 2, 1) := by decide +kernel
theorem d_X11_nextWord_71 : decode m_X11_nextWord.2.1 71 = .ok (.ireturn, 1) := by decide +kernel
set_option maxRecDepth 20000 in
theorem e_X11_nextWord {E : jm_E} {d : Nat} {μ : jm_M} {Q : Option jm_V → jm_M → Prop} {v1 : Int} (h : (∀ v ∈ ([jm_R 133, jm_I v1] : List jm_V), jm_ok v) →
  jg E m_X11_nextWord d 4 [some (jm_R 133), some (jm_I v1), some (jm_I 0), some (jm_I 0), none] [] μ Q) : jc E m_X11_nextWord (d + 1) [jm_R 133, jm_I v1] μ Q := by
  refine jm_Cl.of2 (by decide +kernel) (L0 := [some (jm_R 133), some (jm_I v1), none, none, none]) rfl (Nat.le_of_ble_eq_true rfl) (fun hok => ?_)
  have h := h hok
  refine jm_iconst (v := 0) d_X11_nextWord_0 rfl (jm_okI (by decide) (by decide)) ?_
  refine jm_istoren (L' := [some (jm_R _), some (jm_I _), some (jm_I _), none, none]) d_X11_nextWord_1 (Nat.le_of_ble_eq_true rfl) rfl ?_
  refine jm_iconst (v := 0) d_X11_nextWord_2 rfl (jm_okI (by decide) (by decide)) ?_
  refine jm_istoren (L' := [some (jm_R _), some (jm_I _), some (jm_I _), some (jm_I _), none]) d_X11_nextWord_3 (Nat.le_of_ble_eq_true rfl) rfl ?_
  exact h
set_option maxRecDepth 20000 in
theorem r_X11_nextWord_4 {E : jm_E} {d : Nat} {μ : jm_M} {Q : Option jm_V → jm_M → Prop} {v1 v2 v3 : Int} (h :
  ((μ 135 0 ≤ v3 →
    Q (some (jm_I v2)) μ) ∧
   (¬ (μ 135 0 ≤ v3) →
    jg E m_X11_nextWord d 17 [some (jm_R 133), some (jm_I v1), some (jm_I v2), some (jm_I v3), some (jm_I 0)] [] μ Q))) : jg E m_X11_nextWord d 4 [some (jm_R 133), some (jm_I v1), some (jm_I v2), some (jm_I v3), none] [] μ Q := by
  refine jm_iloadn d_X11_nextWord_4 rfl ?_
  refine jm_aloadn d_X11_nextWord_5 rfl ?_
  refine jm_getF (k := 14) (ki := 14) rfl cf_X11 (Nat.le_of_ble_eq_true rfl) f_X11_13 d_X11_nextWord_6 rfl rfl is_133 fr_133_14 ?_
  refine jm_iconst (v := 0) d_X11_nextWord_9 rfl (jm_okI (by decide) (by decide)) ?_
  refine jm_iaload d_X11_nextWord_10 (ixl_135 (by decide) (by decide)) ?_
  refine jm_icmp_ge (tgt := 70) d_X11_nextWord_11 (by decide) (fun c1 => ?_) (fun c1 => ?_)
  · have h := h.1 c1
    refine jm_iloadn d_X11_nextWord_70 rfl ?_
    exact jm_ret (o := some (jm_I _)) d_X11_nextWord_71 rfl ⟨Nat.le_refl _, Nat.le_refl _⟩ jm_r_I h rfl
  · have h := h.2 c1
    refine jm_iconst (v := 0) d_X11_nextWord_14 rfl (jm_okI (by decide) (by decide)) ?_
    refine jm_istore (L' := [some (jm_R _), some (jm_I _), some (jm_I _), some (jm_I _), some (jm_I _)]) d_X11_nextWord_15 (Nat.le_of_ble_eq_true rfl) rfl ?_
    exact h
set_option maxRecDepth 20000 in
theorem r_X11_nextWord_17 {E : jm_E} {d : Nat} {μ : jm_M} {Q : Option jm_V → jm_M → Prop} {v1 v2 v3 v4 : Int} (h :
  ((μ 135 1 ≤ v4 →
    jg E m_X11_nextWord d 4 [some (jm_R 133), some (jm_I v1), some (jm_I v2), some (jm_I (jm_wr (v3 + 1))), none] [] μ Q) ∧
   (¬ (μ 135 1 ≤ v4) →
    jc E m_X11_wrongOf d [jm_R 133, jm_I 0, jm_I v3, jm_I v4] μ (fun (o : Option jm_V) (m2 : jm_M) => ∀ r3 : Int, o = some (jm_I r3) →
    ((r3 = 0 →
      ((v2 ≠ v1 →
        jg E m_X11_nextWord d 17 [some (jm_R 133), some (jm_I v1), some (jm_I (jm_wr (v2 + 1))), some (jm_I v3), some (jm_I (jm_wr (v4 + 1)))] [] m2 Q) ∧
       (¬ (v2 ≠ v1) →
        Q (some (jm_I (jm_wr ((jm_wr (16 * v3)) + v4)))) m2))) ∧
     (¬ (r3 = 0) →
      jg E m_X11_nextWord d 17 [some (jm_R 133), some (jm_I v1), some (jm_I v2), some (jm_I v3), some (jm_I (jm_wr (v4 + 1)))] [] m2 Q)))))) : jg E m_X11_nextWord d 17 [some (jm_R 133), some (jm_I v1), some (jm_I v2), some (jm_I v3), some (jm_I v4)] [] μ Q := by
  refine jm_iload d_X11_nextWord_17 rfl ?_
  refine jm_aloadn d_X11_nextWord_19 rfl ?_
  refine jm_getF (k := 14) (ki := 14) rfl cf_X11 (Nat.le_of_ble_eq_true rfl) f_X11_13 d_X11_nextWord_20 rfl rfl is_133 fr_133_14 ?_
  refine jm_iconst (v := 1) d_X11_nextWord_23 rfl (jm_okI (by decide) (by decide)) ?_
  refine jm_iaload d_X11_nextWord_24 (ixl_135 (by decide) (by decide)) ?_
  refine jm_icmp_ge (tgt := 64) d_X11_nextWord_25 (by decide) (fun c1 => ?_) (fun c1 => ?_)
  · have h := h.1 c1
    refine jm_iinc (L' := [some (jm_R _), some (jm_I _), some (jm_I _), some (jm_I _), some (jm_I _)]) d_X11_nextWord_64 rfl rfl (Nat.le_of_ble_eq_true rfl) rfl ?_
    refine jm_goto (tgt := 4) d_X11_nextWord_67 (by decide) ?_
    exact jm_weak2 h (And.intro rfl (And.intro rfl (And.intro rfl (And.intro rfl trivial))))
  · have h := h.2 c1
    refine jm_aloadn d_X11_nextWord_28 rfl ?_
    refine jm_iconst (v := 0) d_X11_nextWord_29 rfl (jm_okI (by decide) (by decide)) ?_
    refine jm_iloadn d_X11_nextWord_30 rfl ?_
    refine jm_iload d_X11_nextWord_31 rfl ?_
    refine jm_invV (n1 := jm_N) (mc := 0) (ms := 0) (av := [jm_I _, jm_I _, jm_I _]) w_X11_wrongOf l_X11_273 d_X11_nextWord_33 rfl is_133 ⟨_, _, rfl⟩ ⟨Nat.le_refl _, Nat.le_refl _⟩ (Nat.le_of_ble_eq_true rfl) rfl ?_
    refine jm_Cl.mono h (fun o m2 h hr _ => ?_)
    obtain ⟨r3, rfl⟩ := jm_rokI hr
    have h := h _ rfl
    refine jm_if_eq (tgt := 42) d_X11_nextWord_36 (by decide) (fun c4 => ?_) (fun c4 => ?_)
    · have h := h.1 c4
      refine jm_iloadn d_X11_nextWord_42 rfl ?_
      refine jm_iloadn d_X11_nextWord_43 rfl ?_
      refine jm_icmp_ne (tgt := 55) d_X11_nextWord_44 (by decide) (fun c5 => ?_) (fun c5 => ?_)
      · have h := h.1 c5
        refine jm_iinc (L' := [some (jm_R _), some (jm_I _), some (jm_I _), some (jm_I _), some (jm_I _)]) d_X11_nextWord_55 rfl rfl (Nat.le_of_ble_eq_true rfl) rfl ?_
        refine jm_iinc (L' := [some (jm_R _), some (jm_I _), some (jm_I _), some (jm_I _), some (jm_I _)]) d_X11_nextWord_58 rfl rfl (Nat.le_of_ble_eq_true rfl) rfl ?_
        refine jm_goto (tgt := 17) d_X11_nextWord_61 (by decide) ?_
        exact h
      · have h := h.2 c5
        refine jm_bipush (v := 16) d_X11_nextWord_47 rfl (jm_okI (by decide) (by decide)) ?_
        refine jm_iloadn d_X11_nextWord_49 rfl ?_
        refine jm_imul d_X11_nextWord_50 ?_
        refine jm_iload d_X11_nextWord_51 rfl ?_
        refine jm_iadd d_X11_nextWord_53 ?_
        exact jm_ret (o := some (jm_I _)) d_X11_nextWord_54 rfl ⟨Nat.le_refl _, Nat.le_refl _⟩ jm_r_I h rfl
    · have h := h.2 c4
      refine jm_goto (tgt := 58) d_X11_nextWord_39 (by decide) ?_
      refine jm_iinc (L' := [some (jm_R _), some (jm_I _), some (jm_I _), some (jm_I _), some (jm_I _)]) d_X11_nextWord_58 rfl rfl (Nat.le_of_ble_eq_true rfl) rfl ?_
      refine jm_goto (tgt := 17) d_X11_nextWord_61 (by decide) ?_
      exact h
/-! ('CombTableModel', 'drawn', '(II)I') -/
theorem d_X11_drawn_0 : decode m_X11_drawn.2.1 0 = .ok (.aload_n 0, 1) := by decide +kernel
theorem d_X11_drawn_1 : decode m_X11_drawn.2.1 1 = .ok (.iconst 0, 1) := by decide +kernel
theorem d_X11_drawn_2 : decode m_X11_drawn.2.1 2 = .ok (.putfield 106, 3) := by decide +kernel
theorem d_X11_drawn_5 : decode m_X11_drawn.2.1 5 = .ok (.iload_n 1, 1) := by decide +kernel
theorem d_X11_drawn_6 : decode m_X11_drawn.2.1 6 = .ok (.iconst 1, 1) := by decide +kernel
theorem d_X11_drawn_7 : decode m_X11_drawn.2.1 7 = .ok (.sipush 400, 3) := by decide +kernel
theorem d_X11_drawn_10 : decode m_X11_drawn.2.1 10 = .ok (.invokestatic 177, 3) := by decide +kernel
theorem d_X11_drawn_13 : decode m_X11_drawn.2.1 13 = .ok (.ifCond .ne 5, 3) := by decide +kernel
theorem d_X11_drawn_16 : decode m_X11_drawn.2.1 16 = .ok (.iconst (-1), 1) := by decide +kernel
theorem d_X11_drawn_17 : decode m_X11_drawn.2.1 17 = .ok (.ireturn, 1) := by decide +kernel
theorem d_X11_drawn_18 : decode m_X11_drawn.2.1 18 = .ok (.aload_n 0, 1) := by decide +kernel
theorem d_X11_drawn_19 : decode m_X11_drawn.2.1 19 = .ok (.invokevirtual 270, 3) := by decide +kernel
theorem d_X11_drawn_22 : decode m_X11_drawn.2.1 22 = .ok (.aload_n 0, 1) := by decide +kernel
theorem d_X11_drawn_23 : decode m_X11_drawn.2.1 23 = .ok (.iload_n 2, 1) := by decide +kernel
theorem d_X11_drawn_24 : decode m_X11_drawn.2.1 24 = .ok (.putfield 295, 3) := by decide +kernel
theorem d_X11_drawn_27 : decode m_X11_drawn.2.1 27 = .ok (.iconst 0, 1) := by decide +kernel
theorem d_X11_drawn_28 : decode m_X11_drawn.2.1 28 = .ok (.istore_n 3, 1) := by decide +kernel
theorem d_X11_drawn_29 : decode m_X11_drawn.2.1 29 = .ok (.iload_n 3, 1) := by decide +kernel
theorem d_X11_drawn_30 : decode m_X11_drawn.2.1 30 = .ok (.iload_n 1, 1) := by decide +kernel
theorem d_X11_drawn_31 : decode m_X11_drawn.2.1 31 = .ok (.if_icmp .ge 77, 3) := by decide +kernel
theorem d_X11_drawn_34 : decode m_X11_drawn.2.1 34 = .ok (.aload_n 0, 1) := by decide +kernel
theorem d_X11_drawn_35 : decode m_X11_drawn.2.1 35 = .ok (.getfield 60, 3) := by decide +kernel
theorem d_X11_drawn_38 : decode m_X11_drawn.2.1 38 = .ok (.iconst 0, 1) := by decide +kernel
theorem d_X11_drawn_39 : decode m_X11_drawn.2.1 39 = .ok (.iaload, 1) := by decide +kernel
theorem d_X11_drawn_40 : decode m_X11_drawn.2.1 40 = .ok (.sipush 400, 3) := by decide +kernel
theorem d_X11_drawn_43 : decode m_X11_drawn.2.1 43 = .ok (.if_icmp .ge 65, 3) := by decide +kernel
theorem d_X11_drawn_46 : decode m_X11_drawn.2.1 46 = .ok (.aload_n 0, 1) := by decide +kernel
theorem d_X11_drawn_47 : decode m_X11_drawn.2.1 47 = .ok (.iconst (-1), 1) := by decide +kernel
theorem d_X11_drawn_48 : decode m_X11_drawn.2.1 48 = .ok (.invokevirtual 299, 3) := by decide +kernel
theorem d_X11_drawn_51 : decode m_X11_drawn.2.1 51 = .ok (.istore 4, 2) := by decide +kernel
theorem d_X11_drawn_53 : decode m_X11_drawn.2.1 53 = .ok (.iload 4, 2) := by decide +kernel
theorem d_X11_drawn_55 : decode m_X11_drawn.2.1 55 = .ok (.ifCond .ne 6, 3) := by decide +kernel
theorem d_X11_drawn_58 : decode m_X11_drawn.2.1 58 = .ok (.goto 50, 3) := by decide +kernel
theorem d_X11_drawn_61 : decode m_X11_drawn.2.1 61 = .ok (.aload_n 0, 1) := by decide +kernel
theorem d_X11_drawn_62 : decode m_X11_drawn.2.1 62 = .ok (.aload_n 0, 1) := by decide +kernel
theorem d_X11_drawn_63 : decode m_X11_drawn.2.1 63 = .ok (.iload 4, 2) := by decide +kernel
theorem d_X11_drawn_65 : decode m_X11_drawn.2.1 65 = .ok (.invokevirtual 302, 3) := by decide +kernel
theorem d_X11_drawn_68 : decode m_X11_drawn.2.1 68 = .ok (.invokevirtual 299, 3) := by decide +kernel
theorem d_X11_drawn_71 : decode m_X11_drawn.2.1 71 = .ok (.istore 5, 2) := by decide +kernel
theorem d_X11_drawn_73 : decode m_X11_drawn.2.1 73 = .ok (.aload_n 0, 1) := by decide +kernel
theorem d_X11_drawn_74 : decode m_X11_drawn.2.1 74 = .ok (.iconst 0, 1) := by decide +kernel
theorem d_X11_drawn_75 : decode m_X11_drawn.2.1 75 = .ok (.iload 5, 2) := by decide +kernel
theorem d_X11_drawn_77 : decode m_X11_drawn.2.1 77 = .ok (.bipush 16, 2) := by decide +kernel
theorem d_X11_drawn_79 : decode m_X11_drawn.2.1 79 = .ok (.idiv, 1) := by decide +kernel
theorem d_X11_drawn_80 : decode m_X11_drawn.2.1 80 = .ok (.iload 5, 2) := by decide +kernel
theorem d_X11_drawn_82 : decode m_X11_drawn.2.1 82 = .ok (.bipush 16, 2) := by decide +kernel
theorem d_X11_drawn_84 : decode m_X11_drawn.2.1 84 = .ok (.irem, 1) := by decide +kernel
theorem d_X11_drawn_85 : decode m_X11_drawn.2.1 85 = .ok (.invokevirtual 266, 3) := by decide +kernel
theorem d_X11_drawn_88 : decode m_X11_drawn.2.1 88 = .ok (.aload_n 0, 1) := by decide +kernel
theorem d_X11_drawn_89 : decode m_X11_drawn.2.1 89 = .ok (.iload 5, 2) := by decide +kernel
theorem d_X11_drawn_91 : decode m_X11_drawn.2.1 91 = .ok (.bipush 16, 2) := by decide +kernel
theorem d_X11_drawn_93 : decode m_X11_drawn.2.1 93 = .ok (.idiv, 1) := by decide +kernel
theorem d_X11_drawn_94 : decode m_X11_drawn.2.1 94 = .ok (.iload 5, 2) := by decide +kernel
theorem d_X11_drawn_96 : decode m_X11_drawn.2.1 96 = .ok (.bipush 16, 2) := by decide +kernel
theorem d_X11_drawn_98 : decode m_X11_drawn.2.1 98 = .ok (.irem, 1) := by decide +kernel
theorem d_X11_drawn_99 : decode m_X11_drawn.2.1 99 = .ok (.invokevirtual 279, 3) := by decide +kernel
theorem d_X11_drawn_102 : decode m_X11_drawn.2.1 102 = .ok (.iinc 3 1, 3) := by decide +kernel
theorem d_X11_drawn_105 : decode m_X11_drawn.2.1 105 = .ok (.goto (-76), 3) := by decide +kernel
theorem d_X11_drawn_108 : decode m_X11_drawn.2.1 108 = .ok (.iload_n 3, 1) := by decide +kernel
theorem d_X11_drawn_109 : decode m_X11_drawn.2.1 109 = .ok (.ireturn, 1) := by decide +kernel
set_option maxRecDepth 20000 in
theorem e_X11_drawn {E : jm_E} {d : Nat} {μ : jm_M} {Q : Option jm_V → jm_M → Prop} {v1 v2 : Int} (h : (∀ v ∈ ([jm_R 133, jm_I v1, jm_I v2] : List jm_V), jm_ok v) →
  jc E m_X11_isIn d [jm_I v1, jm_I 1, jm_I 400] (jm_up μ 133 0 0) (fun (o : Option jm_V) (m1 : jm_M) => ∀ r2 : Int, o = some (jm_I r2) → (r2 = 0 ∨ r2 = 1) →
  ((r2 ≠ 0 →
    jc E m_X11_lay d [jm_R 133] m1 (fun (o : Option jm_V) (m5 : jm_M) => o = none →
    jg E m_X11_drawn d 29 [some (jm_R 133), some (jm_I v1), none, some (jm_I 0), none, none] [] (jm_up m5 133 32 v2) Q)) ∧
   (¬ (r2 ≠ 0) →
    Q (some (jm_I ((-1)))) m1)))) : jc E m_X11_drawn (d + 1) [jm_R 133, jm_I v1, jm_I v2] μ Q := by
  refine jm_Cl.of2 (by decide +kernel) (L0 := [some (jm_R 133), some (jm_I v1), some (jm_I v2), none, none, none]) rfl (Nat.le_of_ble_eq_true rfl) (fun hok => ?_)
  have h := h hok
  refine jm_aloadn d_X11_drawn_0 rfl ?_
  refine jm_iconst (v := 0) d_X11_drawn_1 rfl (jm_okI (by decide) (by decide)) ?_
  refine jm_putI (k := 0) (ki := 0) cf_X11 (Nat.le_of_ble_eq_true rfl) f_X11_106 d_X11_drawn_2 (fun z => absurd z (by decide)) rfl rfl rfl (fun _ => rfl) is_133 ?_
  refine jm_iloadn d_X11_drawn_5 rfl ?_
  refine jm_iconst (v := 1) d_X11_drawn_6 rfl (jm_okI (by decide) (by decide)) ?_
  refine jm_sipush (v := 400) d_X11_drawn_7 rfl (jm_okI (by decide) (by decide)) ?_
  refine jm_invS (n1 := jm_N) (mc := 0) (ms := 0) (av := [jm_I _, jm_I _, jm_I _]) w_X11_isIn l_X11_177 d_X11_drawn_10 rfl ⟨Nat.le_refl _, Nat.le_refl _⟩ (Nat.le_of_ble_eq_true rfl) rfl ?_
  refine jm_Cl.mono h (fun o m1 h hr _ => ?_)
  obtain ⟨r2, rfl, z3⟩ := jm_rokZ hr
  have h := h _ rfl z3
  refine jm_if_ne (tgt := 18) d_X11_drawn_13 (by decide) (fun c4 => ?_) (fun c4 => ?_)
  · have h := h.1 c4
    refine jm_aloadn d_X11_drawn_18 rfl ?_
    refine jm_invV (n1 := jm_N) (mc := 0) (ms := 0) (av := []) w_X11_lay l_X11_270 d_X11_drawn_19 rfl is_133 ⟨_, _, rfl⟩ ⟨Nat.le_refl _, Nat.le_refl _⟩ (Nat.le_of_ble_eq_true rfl) rfl ?_
    refine jm_Cl.mono h (fun o m5 h hr _ => ?_)
    obtain rfl := jm_rokV hr
    have h := h rfl
    refine jm_aloadn d_X11_drawn_22 rfl ?_
    refine jm_iloadn d_X11_drawn_23 rfl ?_
    refine jm_putI (k := 32) (ki := 32) cf_X11 (Nat.le_of_ble_eq_true rfl) f_X11_295 d_X11_drawn_24 (fun z => absurd z (by decide)) rfl rfl rfl (fun _ => rfl) is_133 ?_
    refine jm_iconst (v := 0) d_X11_drawn_27 rfl (jm_okI (by decide) (by decide)) ?_
    refine jm_istoren (L' := [some (jm_R _), some (jm_I _), some (jm_I _), some (jm_I _), none, none]) d_X11_drawn_28 (Nat.le_of_ble_eq_true rfl) rfl ?_
    exact jm_weak2 h (And.intro rfl (And.intro rfl (And.intro rfl trivial)))
  · have h := h.2 c4
    refine jm_iconst (v := (-1)) d_X11_drawn_16 rfl (jm_okI (by decide) (by decide)) ?_
    exact jm_ret (o := some (jm_I _)) d_X11_drawn_17 rfl ⟨Nat.le_refl _, Nat.le_refl _⟩ jm_r_I h rfl
set_option maxRecDepth 20000 in
theorem r_X11_drawn_29 {E : jm_E} {d : Nat} {μ : jm_M} {Q : Option jm_V → jm_M → Prop} {v1 v3 : Int} (h :
  ((v1 ≤ v3 →
    Q (some (jm_I v3)) μ) ∧
   (¬ (v1 ≤ v3) →
    ((400 ≤ μ 150 0 →
      Q (some (jm_I v3)) μ) ∧
     (¬ (400 ≤ μ 150 0) →
      jc E m_X11_nextWord d [jm_R 133, jm_I ((-1))] μ (fun (o : Option jm_V) (m3 : jm_M) => ∀ r4 : Int, o = some (jm_I r4) →
      ((r4 ≠ 0 →
        jc E m_X11_draw d [jm_R 133, jm_I r4] m3 (fun (o : Option jm_V) (m6 : jm_M) => ∀ r7 : Int, o = some (jm_I r7) →
        jc E m_X11_nextWord d [jm_R 133, jm_I r7] m6 (fun (o : Option jm_V) (m8 : jm_M) => ∀ r9 : Int, o = some (jm_I r9) →
        jc E m_X11_push d [jm_R 133, jm_I 0, jm_I (jm_quo r9 16), jm_I (jm_rem r9 16)] m8 (fun (o : Option jm_V) (m10 : jm_M) => o = none →
        jc E m_X11_keepWord d [jm_R 133, jm_I (jm_quo r9 16), jm_I (jm_rem r9 16)] m10 (fun (o : Option jm_V) (m11 : jm_M) => o = none →
        jg E m_X11_drawn d 29 [some (jm_R 133), some (jm_I v1), none, some (jm_I (jm_wr (v3 + 1))), none, none] [] m11 Q))))) ∧
       (¬ (r4 ≠ 0) →
        Q (some (jm_I v3)) m3)))))))) : jg E m_X11_drawn d 29 [some (jm_R 133), some (jm_I v1), none, some (jm_I v3), none, none] [] μ Q := by
  refine jm_iloadn d_X11_drawn_29 rfl ?_
  refine jm_iloadn d_X11_drawn_30 rfl ?_
  refine jm_icmp_ge (tgt := 108) d_X11_drawn_31 (by decide) (fun c1 => ?_) (fun c1 => ?_)
  · have h := h.1 c1
    refine jm_iloadn d_X11_drawn_108 rfl ?_
    exact jm_ret (o := some (jm_I _)) d_X11_drawn_109 rfl ⟨Nat.le_refl _, Nat.le_refl _⟩ jm_r_I h rfl
  · have h := h.2 c1
    refine jm_aloadn d_X11_drawn_34 rfl ?_
    refine jm_getF (k := 29) (ki := 29) rfl cf_X11 (Nat.le_of_ble_eq_true rfl) f_X11_60 d_X11_drawn_35 rfl rfl is_133 fr_133_29 ?_
    refine jm_iconst (v := 0) d_X11_drawn_38 rfl (jm_okI (by decide) (by decide)) ?_
    refine jm_iaload d_X11_drawn_39 (ixl_150 (by decide) (by decide)) ?_
    refine jm_sipush (v := 400) d_X11_drawn_40 rfl (jm_okI (by decide) (by decide)) ?_
    refine jm_icmp_ge (tgt := 108) d_X11_drawn_43 (by decide) (fun c2 => ?_) (fun c2 => ?_)
    · have h := h.1 c2
      refine jm_iloadn d_X11_drawn_108 rfl ?_
      exact jm_ret (o := some (jm_I _)) d_X11_drawn_109 rfl ⟨Nat.le_refl _, Nat.le_refl _⟩ jm_r_I h rfl
    · have h := h.2 c2
      refine jm_aloadn d_X11_drawn_46 rfl ?_
      refine jm_iconst (v := (-1)) d_X11_drawn_47 rfl (jm_okI (by decide) (by decide)) ?_
      refine jm_invV (n1 := jm_N) (mc := 0) (ms := 0) (av := [jm_I _]) w_X11_nextWord l_X11_299 d_X11_drawn_48 rfl is_133 ⟨_, _, rfl⟩ ⟨Nat.le_refl _, Nat.le_refl _⟩ (Nat.le_of_ble_eq_true rfl) rfl ?_
      refine jm_Cl.mono h (fun o m3 h hr _ => ?_)
      obtain ⟨r4, rfl⟩ := jm_rokI hr
      have h := h _ rfl
      refine jm_istore (L' := [some (jm_R _), some (jm_I _), none, some (jm_I _), some (jm_I _), none]) d_X11_drawn_51 (Nat.le_of_ble_eq_true rfl) rfl ?_
      refine jm_iload d_X11_drawn_53 rfl ?_
      refine jm_if_ne (tgt := 61) d_X11_drawn_55 (by decide) (fun c5 => ?_) (fun c5 => ?_)
      · have h := h.1 c5
        refine jm_aloadn d_X11_drawn_61 rfl ?_
        refine jm_aloadn d_X11_drawn_62 rfl ?_
        refine jm_iload d_X11_drawn_63 rfl ?_
        refine jm_invV (n1 := jm_N) (mc := 0) (ms := 0) (av := [jm_I _]) w_X11_draw l_X11_302 d_X11_drawn_65 rfl is_133 ⟨_, _, rfl⟩ ⟨Nat.le_refl _, Nat.le_refl _⟩ (Nat.le_of_ble_eq_true rfl) rfl ?_
        refine jm_Cl.mono h (fun o m6 h hr _ => ?_)
        obtain ⟨r7, rfl⟩ := jm_rokI hr
        have h := h _ rfl
        refine jm_invV (n1 := jm_N) (mc := 0) (ms := 0) (av := [jm_I _]) w_X11_nextWord l_X11_299 d_X11_drawn_68 rfl is_133 ⟨_, _, rfl⟩ ⟨Nat.le_refl _, Nat.le_refl _⟩ (Nat.le_of_ble_eq_true rfl) rfl ?_
        refine jm_Cl.mono h (fun o m8 h hr _ => ?_)
        obtain ⟨r9, rfl⟩ := jm_rokI hr
        have h := h _ rfl
        refine jm_istore (L' := [some (jm_R _), some (jm_I _), none, some (jm_I _), some (jm_I _), some (jm_I _)]) d_X11_drawn_71 (Nat.le_of_ble_eq_true rfl) rfl ?_
        refine jm_aloadn d_X11_drawn_73 rfl ?_
        refine jm_iconst (v := 0) d_X11_drawn_74 rfl (jm_okI (by decide) (by decide)) ?_
        refine jm_iload d_X11_drawn_75 rfl ?_
        refine jm_bipush (v := 16) d_X11_drawn_77 rfl (jm_okI (by decide) (by decide)) ?_
        refine jm_idiv d_X11_drawn_79 (by decide) ?_
        refine jm_iload d_X11_drawn_80 rfl ?_
        refine jm_bipush (v := 16) d_X11_drawn_82 rfl (jm_okI (by decide) (by decide)) ?_
        refine jm_irem d_X11_drawn_84 (by decide) ?_
        refine jm_invV (n1 := jm_N) (mc := 0) (ms := 0) (av := [jm_I _, jm_I _, jm_I _]) w_X11_push l_X11_266 d_X11_drawn_85 rfl is_133 ⟨_, _, rfl⟩ ⟨Nat.le_refl _, Nat.le_refl _⟩ (Nat.le_of_ble_eq_true rfl) rfl ?_
        refine jm_Cl.mono h (fun o m10 h hr _ => ?_)
        obtain rfl := jm_rokV hr
        have h := h rfl
        refine jm_aloadn d_X11_drawn_88 rfl ?_
        refine jm_iload d_X11_drawn_89 rfl ?_
        refine jm_bipush (v := 16) d_X11_drawn_91 rfl (jm_okI (by decide) (by decide)) ?_
        refine jm_idiv d_X11_drawn_93 (by decide) ?_
        refine jm_iload d_X11_drawn_94 rfl ?_
        refine jm_bipush (v := 16) d_X11_drawn_96 rfl (jm_okI (by decide) (by decide)) ?_
        refine jm_irem d_X11_drawn_98 (by decide) ?_
        refine jm_invV (n1 := jm_N) (mc := 0) (ms := 0) (av := [jm_I _, jm_I _]) w_X11_keepWord l_X11_279 d_X11_drawn_99 rfl is_133 ⟨_, _, rfl⟩ ⟨Nat.le_refl _, Nat.le_refl _⟩ (Nat.le_of_ble_eq_true rfl) rfl ?_
        refine jm_Cl.mono h (fun o m11 h hr _ => ?_)
        obtain rfl := jm_rokV hr
        have h := h rfl
        refine jm_iinc (L' := [some (jm_R _), some (jm_I _), none, some (jm_I _), some (jm_I _), some (jm_I _)]) d_X11_drawn_102 rfl rfl (Nat.le_of_ble_eq_true rfl) rfl ?_
        refine jm_goto (tgt := 29) d_X11_drawn_105 (by decide) ?_
        exact jm_weak2 h (And.intro rfl (And.intro rfl (And.intro rfl trivial)))
      · have h := h.2 c5
        refine jm_goto (tgt := 108) d_X11_drawn_58 (by decide) ?_
        refine jm_iloadn d_X11_drawn_108 rfl ?_
        exact jm_ret (o := some (jm_I _)) d_X11_drawn_109 rfl ⟨Nat.le_refl _, Nat.le_refl _⟩ jm_r_I h rfl
/-! ('CombTableModel', 'readTorn', '(III)Z') -/
theorem d_X11_readTorn_0 : decode m_X11_readTorn.2.1 0 = .ok (.aload_n 0, 1) := by decide +kernel
theorem d_X11_readTorn_1 : decode m_X11_readTorn.2.1 1 = .ok (.bipush 14, 2) := by decide +kernel
theorem d_X11_readTorn_3 : decode m_X11_readTorn.2.1 3 = .ok (.invokevirtual 209, 3) := by decide +kernel
theorem d_X11_readTorn_6 : decode m_X11_readTorn.2.1 6 = .ok (.ifCond .eq 41, 3) := by decide +kernel
theorem d_X11_readTorn_9 : decode m_X11_readTorn.2.1 9 = .ok (.aload_n 0, 1) := by decide +kernel
theorem d_X11_readTorn_10 : decode m_X11_readTorn.2.1 10 = .ok (.getfield 305, 3) := by decide +kernel
theorem d_X11_readTorn_13 : decode m_X11_readTorn.2.1 13 = .ok (.bipush 8, 2) := by decide +kernel
theorem d_X11_readTorn_15 : decode m_X11_readTorn.2.1 15 = .ok (.if_icmp .ne 9, 3) := by decide +kernel
theorem d_X11_readTorn_18 : decode m_X11_readTorn.2.1 18 = .ok (.aload_n 0, 1) := by decide +kernel
theorem d_X11_readTorn_19 : decode m_X11_readTorn.2.1 19 = .ok (.iconst 4, 1) := by decide +kernel
theorem d_X11_readTorn_20 : decode m_X11_readTorn.2.1 20 = .ok (.invokevirtual 174, 3) := by decide +kernel
theorem d_X11_readTorn_23 : decode m_X11_readTorn.2.1 23 = .ok (.ireturn, 1) := by decide +kernel
theorem d_X11_readTorn_24 : decode m_X11_readTorn.2.1 24 = .ok (.aload_n 0, 1) := by decide +kernel
theorem d_X11_readTorn_25 : decode m_X11_readTorn.2.1 25 = .ok (.dup, 1) := by decide +kernel
theorem d_X11_readTorn_26 : decode m_X11_readTorn.2.1 26 = .ok (.getfield 305, 3) := by decide +kernel
theorem d_X11_readTorn_29 : decode m_X11_readTorn.2.1 29 = .ok (.iconst 1, 1) := by decide +kernel
theorem d_X11_readTorn_30 : decode m_X11_readTorn.2.1 30 = .ok (.iadd, 1) := by decide +kernel
theorem d_X11_readTorn_31 : decode m_X11_readTorn.2.1 31 = .ok (.putfield 305, 3) := by decide +kernel
theorem d_X11_readTorn_34 : decode m_X11_readTorn.2.1 34 = .ok (.aload_n 0, 1) := by decide +kernel
theorem d_X11_readTorn_35 : decode m_X11_readTorn.2.1 35 = .ok (.getfield 22, 3) := by decide +kernel
theorem d_X11_readTorn_38 : decode m_X11_readTorn.2.1 38 = .ok (.iload_n 1, 1) := by decide +kernel
theorem d_X11_readTorn_39 : decode m_X11_readTorn.2.1 39 = .ok (.iconst (-1), 1) := by decide +kernel
theorem d_X11_readTorn_40 : decode m_X11_readTorn.2.1 40 = .ok (.iastore, 1) := by decide +kernel
theorem d_X11_readTorn_41 : decode m_X11_readTorn.2.1 41 = .ok (.aload_n 0, 1) := by decide +kernel
theorem d_X11_readTorn_42 : decode m_X11_readTorn.2.1 42 = .ok (.invokevirtual 184, 3) := by decide +kernel
theorem d_X11_readTorn_45 : decode m_X11_readTorn.2.1 45 = .ok (.iconst 1, 1) := by decide +kernel
theorem d_X11_readTorn_46 : decode m_X11_readTorn.2.1 46 = .ok (.ireturn, 1) := by decide +kernel
theorem d_X11_readTorn_47 : decode m_X11_readTorn.2.1 47 = .ok (.aload_n 0, 1) := by decide +kernel
theorem d_X11_readTorn_48 : decode m_X11_readTorn.2.1 48 = .ok (.invokevirtual 194, 3) := by decide +kernel
theorem d_X11_readTorn_51 : decode m_X11_readTorn.2.1 51 = .ok (.ifCond .ne 9, 3) := by decide +kernel
theorem d_X11_readTorn_54 : decode m_X11_readTorn.2.1 54 = .ok (.aload_n 0, 1) := by decide +kernel
theorem d_X11_readTorn_55 : decode m_X11_readTorn.2.1 55 = .ok (.iconst 1, 1) := by decide +kernel
theorem d_X11_readTorn_56 : decode m_X11_readTorn.2.1 56 = .ok (.invokevirtual 174, 3) := by decide +kernel
theorem d_X11_readTorn_59 : decode m_X11_readTorn.2.1 59 = .ok (.ireturn, 1) := by decide +kernel
theorem d_X11_readTorn_60 : decode m_X11_readTorn.2.1 60 = .ok (.aload_n 0, 1) := by decide +kernel
theorem d_X11_readTorn_61 : decode m_X11_readTorn.2.1 61 = .ok (.getfield 22, 3) := by decide +kernel
theorem d_X11_readTorn_64 : decode m_X11_readTorn.2.1 64 = .ok (.iload_n 1, 1) := by decide +kernel
theorem d_X11_readTorn_65 : decode m_X11_readTorn.2.1 65 = .ok (.aload_n 0, 1) := by decide +kernel
theorem d_X11_readTorn_66 : decode m_X11_readTorn.2.1 66 = .ok (.aload_n 0, 1) := by decide +kernel
theorem d_X11_readTorn_67 : decode m_X11_readTorn.2.1 67 = .ok (.getfield 25, 3) := by decide +kernel
theorem d_X11_readTorn_70 : decode m_X11_readTorn.2.1 70 = .ok (.iload_n 2, 1) := by decide +kernel
theorem d_X11_readTorn_71 : decode m_X11_readTorn.2.1 71 = .ok (.iload_n 3, 1) := by decide +kernel
theorem d_X11_readTorn_72 : decode m_X11_readTorn.2.1 72 = .ok (.invokevirtual 198, 3) := by decide +kernel
theorem d_X11_readTorn_75 : decode m_X11_readTorn.2.1 75 = .ok (.iastore, 1) := by decide +kernel
theorem d_X11_readTorn_76 : decode m_X11_readTorn.2.1 76 = .ok (.aload_n 0, 1) := by decide +kernel
theorem d_X11_readTorn_77 : decode m_X11_readTorn.2.1 77 = .ok (.getfield 22, 3) := by decide +kernel
theorem d_X11_readTorn_80 : decode m_X11_readTorn.2.1 80 = .ok (.iload_n 1, 1) := by decide +kernel
theorem d_X11_readTorn_81 : decode m_X11_readTorn.2.1 81 = .ok (.iaload, 1) := by decide +kernel
theorem d_X11_readTorn_82 : decode m_X11_readTorn.2.1 82 = .ok (.iconst (-1), 1) := by decide +kernel
theorem d_X11_readTorn_83 : decode m_X11_readTorn.2.1 83 = .ok (.if_icmp .ne 9, 3) := by decide +kernel
theorem d_X11_readTorn_86 : decode m_X11_readTorn.2.1 86 = .ok (.aload_n 0, 1) := by decide +kernel
theorem d_X11_readTorn_87 : decode m_X11_readTorn.2.1 87 = .ok (.iconst 3, 1) := by decide +kernel
theorem d_X11_readTorn_88 : decode m_X11_readTorn.2.1 88 = .ok (.invokevirtual 174, 3) := by decide +kernel
theorem d_X11_readTorn_91 : decode m_X11_readTorn.2.1 91 = .ok (.ireturn, 1) := by decide +kernel
theorem d_X11_readTorn_92 : decode m_X11_readTorn.2.1 92 = .ok (.aload_n 0, 1) := by decide +kernel
theorem d_X11_readTorn_93 : decode m_X11_readTorn.2.1 93 = .ok (.invokevirtual 184, 3) := by decide +kernel
theorem d_X11_readTorn_96 : decode m_X11_readTorn.2.1 96 = .ok (.iconst 1, 1) := by decide +kernel
theorem d_X11_readTorn_97 : decode m_X11_readTorn.2.1 97 = .ok (.ireturn, 1) := by decide +kernel
set_option maxRecDepth 20000 in
theorem e_X11_readTorn {E : jm_E} {d : Nat} {μ : jm_M} {Q : Option jm_V → jm_M → Prop} {v1 v2 v3 : Int} (h : (∀ v ∈ ([jm_R 133, jm_I v1, jm_I v2, jm_I v3] : List jm_V), jm_ok v) →
  jc E m_X11_isWord d [jm_R 133, jm_I 14] μ (fun (o : Option jm_V) (m1 : jm_M) => ∀ r2 : Int, o = some (jm_I r2) → (r2 = 0 ∨ r2 = 1) →
  ((r2 = 0 →
    jc E m_X11_isName d [jm_R 133] m1 (fun (o : Option jm_V) (m5 : jm_M) => ∀ r6 : Int, o = some (jm_I r6) → (r6 = 0 ∨ r6 = 1) →
    ((r6 ≠ 0 →
      jc E m_X11_findIn d [jm_R 133, jm_R 139, jm_I v2, jm_I v3] m5 (fun (o : Option jm_V) (m9 : jm_M) => ∀ r10 : Int, o = some (jm_I r10) →
      (0 ≤ v1 ∧ v1 < 800) ∧
      ∀ m12 : jm_M, m12 = (jm_up m9 138 v1 r10) →
      ((m12 138 v1 ≠ ((-1)) →
        jc E m_X11_go d [jm_R 133] m12 (fun (o : Option jm_V) (m14 : jm_M) => o = none →
        Q (some (jm_I 1)) m14)) ∧
       (¬ (m12 138 v1 ≠ ((-1))) →
        jc E m_X11_bad d [jm_R 133, jm_I 3] m12 (fun (o : Option jm_V) (m15 : jm_M) => ∀ r16 : Int, o = some (jm_I r16) → (r16 = 0 ∨ r16 = 1) →
        Q (some (jm_I r16)) m15))))) ∧
     (¬ (r6 ≠ 0) →
      jc E m_X11_bad d [jm_R 133, jm_I 1] m5 (fun (o : Option jm_V) (m18 : jm_M) => ∀ r19 : Int, o = some (jm_I r19) → (r19 = 0 ∨ r19 = 1) →
      Q (some (jm_I r19)) m18))))) ∧
   (¬ (r2 = 0) →
    ((m1 133 34 ≠ 8 →
      (0 ≤ v1 ∧ v1 < 800) ∧
      ∀ m23 : jm_M, m23 = (jm_up (jm_up m1 133 34 (jm_wr ((m1 133 34) + 1))) 138 v1 ((-1))) →
      jc E m_X11_go d [jm_R 133] m23 (fun (o : Option jm_V) (m24 : jm_M) => o = none →
      Q (some (jm_I 1)) m24)) ∧
     (¬ (m1 133 34 ≠ 8) →
      jc E m_X11_bad d [jm_R 133, jm_I 4] m1 (fun (o : Option jm_V) (m25 : jm_M) => ∀ r26 : Int, o = some (jm_I r26) → (r26 = 0 ∨ r26 = 1) →
      Q (some (jm_I r26)) m25))))))) : jc E m_X11_readTorn (d + 1) [jm_R 133, jm_I v1, jm_I v2, jm_I v3] μ Q := by
  refine jm_Cl.of2 (by decide +kernel) (L0 := [some (jm_R 133), some (jm_I v1), some (jm_I v2), some (jm_I v3)]) rfl (Nat.le_of_ble_eq_true rfl) (fun hok => ?_)
  have h := h hok
  refine jm_aloadn d_X11_readTorn_0 rfl ?_
  refine jm_bipush (v := 14) d_X11_readTorn_1 rfl (jm_okI (by decide) (by decide)) ?_
  refine jm_invV (n1 := jm_N) (mc := 0) (ms := 0) (av := [jm_I _]) w_X11_isWord l_X11_209 d_X11_readTorn_3 rfl is_133 ⟨_, _, rfl⟩ ⟨Nat.le_refl _, Nat.le_refl _⟩ (Nat.le_of_ble_eq_true rfl) rfl ?_
  refine jm_Cl.mono h (fun o m1 h hr _ => ?_)
  obtain ⟨r2, rfl, z3⟩ := jm_rokZ hr
  have h := h _ rfl z3
  refine jm_if_eq (tgt := 47) d_X11_readTorn_6 (by decide) (fun c4 => ?_) (fun c4 => ?_)
  · have h := h.1 c4
    refine jm_aloadn d_X11_readTorn_47 rfl ?_
    refine jm_invV (n1 := jm_N) (mc := 0) (ms := 0) (av := []) w_X11_isName l_X11_194 d_X11_readTorn_48 rfl is_133 ⟨_, _, rfl⟩ ⟨Nat.le_refl _, Nat.le_refl _⟩ (Nat.le_of_ble_eq_true rfl) rfl ?_
    refine jm_Cl.mono h (fun o m5 h hr _ => ?_)
    obtain ⟨r6, rfl, z7⟩ := jm_rokZ hr
    have h := h _ rfl z7
    refine jm_if_ne (tgt := 60) d_X11_readTorn_51 (by decide) (fun c8 => ?_) (fun c8 => ?_)
    · have h := h.1 c8
      refine jm_aloadn d_X11_readTorn_60 rfl ?_
      refine jm_getF (k := 17) (ki := 17) rfl cf_X11 (Nat.le_of_ble_eq_true rfl) f_X11_22 d_X11_readTorn_61 rfl rfl is_133 fr_133_17 ?_
      refine jm_iloadn d_X11_readTorn_64 rfl ?_
      refine jm_aloadn d_X11_readTorn_65 rfl ?_
      refine jm_aloadn d_X11_readTorn_66 rfl ?_
      refine jm_getF (k := 18) (ki := 18) rfl cf_X11 (Nat.le_of_ble_eq_true rfl) f_X11_25 d_X11_readTorn_67 rfl rfl is_133 fr_133_18 ?_
      refine jm_iloadn d_X11_readTorn_70 rfl ?_
      refine jm_iloadn d_X11_readTorn_71 rfl ?_
      refine jm_invV (n1 := jm_N) (mc := 0) (ms := 0) (av := [jm_R _, jm_I _, jm_I _]) w_X11_findIn l_X11_198 d_X11_readTorn_72 rfl is_133 ⟨_, _, rfl⟩ ⟨Nat.le_refl _, Nat.le_refl _⟩ (Nat.le_of_ble_eq_true rfl) rfl ?_
      refine jm_Cl.mono h (fun o m9 h hr _ => ?_)
      obtain ⟨r10, rfl⟩ := jm_rokI hr
      have h := h _ rfl
      obtain ⟨f11, h⟩ := h
      refine jm_iastore d_X11_readTorn_75 (ixl_138 f11.1 f11.2) ?_
      have h := h _ rfl
      refine jm_aloadn d_X11_readTorn_76 rfl ?_
      refine jm_getF (k := 17) (ki := 17) rfl cf_X11 (Nat.le_of_ble_eq_true rfl) f_X11_22 d_X11_readTorn_77 rfl rfl is_133 fr_133_17 ?_
      refine jm_iloadn d_X11_readTorn_80 rfl ?_
      refine jm_iaload d_X11_readTorn_81 (ixl_138 f11.1 f11.2) ?_
      refine jm_iconst (v := (-1)) d_X11_readTorn_82 rfl (jm_okI (by decide) (by decide)) ?_
      refine jm_icmp_ne (tgt := 92) d_X11_readTorn_83 (by decide) (fun c13 => ?_) (fun c13 => ?_)
      · have h := h.1 c13
        refine jm_aloadn d_X11_readTorn_92 rfl ?_
        refine jm_invV (n1 := jm_N) (mc := 0) (ms := 0) (av := []) w_X11_go l_X11_184 d_X11_readTorn_93 rfl is_133 ⟨_, _, rfl⟩ ⟨Nat.le_refl _, Nat.le_refl _⟩ (Nat.le_of_ble_eq_true rfl) rfl ?_
        refine jm_Cl.mono h (fun o m14 h hr _ => ?_)
        obtain rfl := jm_rokV hr
        have h := h rfl
        refine jm_iconst (v := 1) d_X11_readTorn_96 rfl (jm_okI (by decide) (by decide)) ?_
        exact jm_ret (o := some (jm_I _)) d_X11_readTorn_97 rfl ⟨Nat.le_refl _, Nat.le_refl _⟩ (jm_r_Z (by decide)) h rfl
      · have h := h.2 c13
        refine jm_aloadn d_X11_readTorn_86 rfl ?_
        refine jm_iconst (v := 3) d_X11_readTorn_87 rfl (jm_okI (by decide) (by decide)) ?_
        refine jm_invV (n1 := jm_N) (mc := 0) (ms := 0) (av := [jm_I _]) w_X11_bad l_X11_174 d_X11_readTorn_88 rfl is_133 ⟨_, _, rfl⟩ ⟨Nat.le_refl _, Nat.le_refl _⟩ (Nat.le_of_ble_eq_true rfl) rfl ?_
        refine jm_Cl.mono h (fun o m15 h hr _ => ?_)
        obtain ⟨r16, rfl, z17⟩ := jm_rokZ hr
        have h := h _ rfl z17
        exact jm_ret (o := some (jm_I _)) d_X11_readTorn_91 rfl ⟨Nat.le_refl _, Nat.le_refl _⟩ (jm_r_Z z17) h rfl
    · have h := h.2 c8
      refine jm_aloadn d_X11_readTorn_54 rfl ?_
      refine jm_iconst (v := 1) d_X11_readTorn_55 rfl (jm_okI (by decide) (by decide)) ?_
      refine jm_invV (n1 := jm_N) (mc := 0) (ms := 0) (av := [jm_I _]) w_X11_bad l_X11_174 d_X11_readTorn_56 rfl is_133 ⟨_, _, rfl⟩ ⟨Nat.le_refl _, Nat.le_refl _⟩ (Nat.le_of_ble_eq_true rfl) rfl ?_
      refine jm_Cl.mono h (fun o m18 h hr _ => ?_)
      obtain ⟨r19, rfl, z20⟩ := jm_rokZ hr
      have h := h _ rfl z20
      exact jm_ret (o := some (jm_I _)) d_X11_readTorn_59 rfl ⟨Nat.le_refl _, Nat.le_refl _⟩ (jm_r_Z z20) h rfl
  · have h := h.2 c4
    refine jm_aloadn d_X11_readTorn_9 rfl ?_
    refine jm_getI (k := 34) (ki := 34) cf_X11 (Nat.le_of_ble_eq_true rfl) f_X11_305 d_X11_readTorn_10 rfl rfl is_133 rfl ?_
    refine jm_bipush (v := 8) d_X11_readTorn_13 rfl (jm_okI (by decide) (by decide)) ?_
    refine jm_icmp_ne (tgt := 24) d_X11_readTorn_15 (by decide) (fun c21 => ?_) (fun c21 => ?_)
    · have h := h.1 c21
      refine jm_aloadn d_X11_readTorn_24 rfl ?_
      refine jm_dup rfl d_X11_readTorn_25 ?_
      refine jm_getI (k := 34) (ki := 34) cf_X11 (Nat.le_of_ble_eq_true rfl) f_X11_305 d_X11_readTorn_26 rfl rfl is_133 rfl ?_
      refine jm_iconst (v := 1) d_X11_readTorn_29 rfl (jm_okI (by decide) (by decide)) ?_
      refine jm_iadd d_X11_readTorn_30 ?_
      refine jm_putI (k := 34) (ki := 34) cf_X11 (Nat.le_of_ble_eq_true rfl) f_X11_305 d_X11_readTorn_31 (fun z => absurd z (by decide)) rfl rfl rfl (fun _ => rfl) is_133 ?_
      refine jm_aloadn d_X11_readTorn_34 rfl ?_
      refine jm_getF (k := 17) (ki := 17) rfl cf_X11 (Nat.le_of_ble_eq_true rfl) f_X11_22 d_X11_readTorn_35 rfl rfl is_133 fr_133_17 ?_
      refine jm_iloadn d_X11_readTorn_38 rfl ?_
      refine jm_iconst (v := (-1)) d_X11_readTorn_39 rfl (jm_okI (by decide) (by decide)) ?_
      obtain ⟨f22, h⟩ := h
      refine jm_iastore d_X11_readTorn_40 (ixl_138 f22.1 f22.2) ?_
      have h := h _ rfl
      refine jm_aloadn d_X11_readTorn_41 rfl ?_
      refine jm_invV (n1 := jm_N) (mc := 0) (ms := 0) (av := []) w_X11_go l_X11_184 d_X11_readTorn_42 rfl is_133 ⟨_, _, rfl⟩ ⟨Nat.le_refl _, Nat.le_refl _⟩ (Nat.le_of_ble_eq_true rfl) rfl ?_
      refine jm_Cl.mono h (fun o m24 h hr _ => ?_)
      obtain rfl := jm_rokV hr
      have h := h rfl
      refine jm_iconst (v := 1) d_X11_readTorn_45 rfl (jm_okI (by decide) (by decide)) ?_
      exact jm_ret (o := some (jm_I _)) d_X11_readTorn_46 rfl ⟨Nat.le_refl _, Nat.le_refl _⟩ (jm_r_Z (by decide)) h rfl
    · have h := h.2 c21
      refine jm_aloadn d_X11_readTorn_18 rfl ?_
      refine jm_iconst (v := 4) d_X11_readTorn_19 rfl (jm_okI (by decide) (by decide)) ?_
      refine jm_invV (n1 := jm_N) (mc := 0) (ms := 0) (av := [jm_I _]) w_X11_bad l_X11_174 d_X11_readTorn_20 rfl is_133 ⟨_, _, rfl⟩ ⟨Nat.le_refl _, Nat.le_refl _⟩ (Nat.le_of_ble_eq_true rfl) rfl ?_
      refine jm_Cl.mono h (fun o m25 h hr _ => ?_)
      obtain ⟨r26, rfl, z27⟩ := jm_rokZ hr
      have h := h _ rfl z27
      exact jm_ret (o := some (jm_I _)) d_X11_readTorn_23 rfl ⟨Nat.le_refl _, Nat.le_refl _⟩ (jm_r_Z z27) h rfl
/-! ('CombTableModel', 'readMinute', '()Z') -/
theorem d_X11_readMinute_0 : decode m_X11_readMinute.2.1 0 = .ok (.aload_n 0, 1) := by decide +kernel
theorem d_X11_readMinute_1 : decode m_X11_readMinute.2.1 1 = .ok (.getfield 128, 3) := by decide +kernel
theorem d_X11_readMinute_4 : decode m_X11_readMinute.2.1 4 = .ok (.iconst 2, 1) := by decide +kernel
theorem d_X11_readMinute_5 : decode m_X11_readMinute.2.1 5 = .ok (.if_icmp .ne 19, 3) := by decide +kernel
theorem d_X11_readMinute_8 : decode m_X11_readMinute.2.1 8 = .ok (.aload_n 0, 1) := by decide +kernel
theorem d_X11_readMinute_9 : decode m_X11_readMinute.2.1 9 = .ok (.bipush 14, 2) := by decide +kernel
theorem d_X11_readMinute_11 : decode m_X11_readMinute.2.1 11 = .ok (.invokevirtual 209, 3) := by decide +kernel
theorem d_X11_readMinute_14 : decode m_X11_readMinute.2.1 14 = .ok (.ifCond .ne 16, 3) := by decide +kernel
theorem d_X11_readMinute_17 : decode m_X11_readMinute.2.1 17 = .ok (.aload_n 0, 1) := by decide +kernel
theorem d_X11_readMinute_18 : decode m_X11_readMinute.2.1 18 = .ok (.invokevirtual 194, 3) := by decide +kernel
theorem d_X11_readMinute_21 : decode m_X11_readMinute.2.1 21 = .ok (.ifCond .ne 9, 3) := by decide +kernel
theorem d_X11_readMinute_24 : decode m_X11_readMinute.2.1 24 = .ok (.aload_n 0, 1) := by decide +kernel
theorem d_X11_readMinute_25 : decode m_X11_readMinute.2.1 25 = .ok (.iconst 1, 1) := by decide +kernel
theorem d_X11_readMinute_26 : decode m_X11_readMinute.2.1 26 = .ok (.invokevirtual 174, 3) := by decide +kernel
theorem d_X11_readMinute_29 : decode m_X11_readMinute.2.1 29 = .ok (.ireturn, 1) := by decide +kernel
theorem d_X11_readMinute_30 : decode m_X11_readMinute.2.1 30 = .ok (.aload_n 0, 1) := by decide +kernel
theorem d_X11_readMinute_31 : decode m_X11_readMinute.2.1 31 = .ok (.getfield 308, 3) := by decide +kernel
theorem d_X11_readMinute_34 : decode m_X11_readMinute.2.1 34 = .ok (.bipush 24, 2) := by decide +kernel
theorem d_X11_readMinute_36 : decode m_X11_readMinute.2.1 36 = .ok (.if_icmp .ne 51, 3) := by decide +kernel
theorem d_X11_readMinute_39 : decode m_X11_readMinute.2.1 39 = .ok (.aload_n 0, 1) := by decide +kernel
theorem d_X11_readMinute_40 : decode m_X11_readMinute.2.1 40 = .ok (.bipush 14, 2) := by decide +kernel
theorem d_X11_readMinute_42 : decode m_X11_readMinute.2.1 42 = .ok (.invokevirtual 209, 3) := by decide +kernel
theorem d_X11_readMinute_45 : decode m_X11_readMinute.2.1 45 = .ok (.ifCond .ne 22, 3) := by decide +kernel
theorem d_X11_readMinute_48 : decode m_X11_readMinute.2.1 48 = .ok (.aload_n 0, 1) := by decide +kernel
theorem d_X11_readMinute_49 : decode m_X11_readMinute.2.1 49 = .ok (.aload_n 0, 1) := by decide +kernel
theorem d_X11_readMinute_50 : decode m_X11_readMinute.2.1 50 = .ok (.getfield 25, 3) := by decide +kernel
theorem d_X11_readMinute_53 : decode m_X11_readMinute.2.1 53 = .ok (.iconst 0, 1) := by decide +kernel
theorem d_X11_readMinute_54 : decode m_X11_readMinute.2.1 54 = .ok (.aload_n 0, 1) := by decide +kernel
theorem d_X11_readMinute_55 : decode m_X11_readMinute.2.1 55 = .ok (.getfield 13, 3) := by decide +kernel
theorem d_X11_readMinute_58 : decode m_X11_readMinute.2.1 58 = .ok (.iconst 0, 1) := by decide +kernel
theorem d_X11_readMinute_59 : decode m_X11_readMinute.2.1 59 = .ok (.iaload, 1) := by decide +kernel
theorem d_X11_readMinute_60 : decode m_X11_readMinute.2.1 60 = .ok (.invokevirtual 198, 3) := by decide +kernel
theorem d_X11_readMinute_63 : decode m_X11_readMinute.2.1 63 = .ok (.iconst (-1), 1) := by decide +kernel
theorem d_X11_readMinute_64 : decode m_X11_readMinute.2.1 64 = .ok (.if_icmp .eq 7, 3) := by decide +kernel
theorem d_X11_readMinute_67 : decode m_X11_readMinute.2.1 67 = .ok (.iconst 1, 1) := by decide +kernel
theorem d_X11_readMinute_68 : decode m_X11_readMinute.2.1 68 = .ok (.goto 4, 3) := by decide +kernel
theorem d_X11_readMinute_71 : decode m_X11_readMinute.2.1 71 = .ok (.iconst 0, 1) := by decide +kernel
theorem d_X11_readMinute_72 : decode m_X11_readMinute.2.1 72 = .ok (.istore_n 1, 1) := by decide +kernel
theorem d_X11_readMinute_73 : decode m_X11_readMinute.2.1 73 = .ok (.aload_n 0, 1) := by decide +kernel
theorem d_X11_readMinute_74 : decode m_X11_readMinute.2.1 74 = .ok (.iload_n 1, 1) := by decide +kernel
theorem d_X11_readMinute_75 : decode m_X11_readMinute.2.1 75 = .ok (.ifCond .eq 7, 3) := by decide +kernel
theorem d_X11_readMinute_78 : decode m_X11_readMinute.2.1 78 = .ok (.iconst 4, 1) := by decide +kernel
theorem d_X11_readMinute_79 : decode m_X11_readMinute.2.1 79 = .ok (.goto 4, 3) := by decide +kernel
theorem d_X11_readMinute_82 : decode m_X11_readMinute.2.1 82 = .ok (.iconst 3, 1) := by decide +kernel
theorem d_X11_readMinute_83 : decode m_X11_readMinute.2.1 83 = .ok (.invokevirtual 174, 3) := by decide +kernel
theorem d_X11_readMinute_86 : decode m_X11_readMinute.2.1 86 = .ok (.ireturn, 1) := by decide +kernel
theorem d_X11_readMinute_87 : decode m_X11_readMinute.2.1 87 = .ok (.aload_n 0, 1) := by decide +kernel
theorem d_X11_readMinute_88 : decode m_X11_readMinute.2.1 88 = .ok (.iconst 2, 1) := by decide +kernel
theorem d_X11_readMinute_89 : decode m_X11_readMinute.2.1 89 = .ok (.aload_n 0, 1) := by decide +kernel
theorem d_X11_readMinute_90 : decode m_X11_readMinute.2.1 90 = .ok (.getfield 308, 3) := by decide +kernel
theorem d_X11_readMinute_93 : decode m_X11_readMinute.2.1 93 = .ok (.imul, 1) := by decide +kernel
theorem d_X11_readMinute_94 : decode m_X11_readMinute.2.1 94 = .ok (.iconst 0, 1) := by decide +kernel
theorem d_X11_readMinute_95 : decode m_X11_readMinute.2.1 95 = .ok (.aload_n 0, 1) := by decide +kernel
theorem d_X11_readMinute_96 : decode m_X11_readMinute.2.1 96 = .ok (.getfield 13, 3) := by decide +kernel
theorem d_X11_readMinute_99 : decode m_X11_readMinute.2.1 99 = .ok (.iconst 0, 1) := by decide +kernel
theorem d_X11_readMinute_100 : decode m_X11_readMinute.2.1 100 = .ok (.iaload, 1) := by decide +kernel
theorem d_X11_readMinute_101 : decode m_X11_readMinute.2.1 101 = .ok (.invokevirtual 311, 3) := by decide +kernel
theorem d_X11_readMinute_104 : decode m_X11_readMinute.2.1 104 = .ok (.ifCond .eq 26, 3) := by decide +kernel
theorem d_X11_readMinute_107 : decode m_X11_readMinute.2.1 107 = .ok (.aload_n 0, 1) := by decide +kernel
theorem d_X11_readMinute_108 : decode m_X11_readMinute.2.1 108 = .ok (.iconst 2, 1) := by decide +kernel
theorem d_X11_readMinute_109 : decode m_X11_readMinute.2.1 109 = .ok (.aload_n 0, 1) := by decide +kernel
theorem d_X11_readMinute_110 : decode m_X11_readMinute.2.1 110 = .ok (.getfield 308, 3) := by decide +kernel
theorem d_X11_readMinute_113 : decode m_X11_readMinute.2.1 113 = .ok (.imul, 1) := by decide +kernel
theorem d_X11_readMinute_114 : decode m_X11_readMinute.2.1 114 = .ok (.iconst 1, 1) := by decide +kernel
theorem d_X11_readMinute_115 : decode m_X11_readMinute.2.1 115 = .ok (.iadd, 1) := by decide +kernel
theorem d_X11_readMinute_116 : decode m_X11_readMinute.2.1 116 = .ok (.bipush 8, 2) := by decide +kernel
theorem d_X11_readMinute_118 : decode m_X11_readMinute.2.1 118 = .ok (.aload_n 0, 1) := by decide +kernel
theorem d_X11_readMinute_119 : decode m_X11_readMinute.2.1 119 = .ok (.getfield 13, 3) := by decide +kernel
theorem d_X11_readMinute_122 : decode m_X11_readMinute.2.1 122 = .ok (.iconst 1, 1) := by decide +kernel
theorem d_X11_readMinute_123 : decode m_X11_readMinute.2.1 123 = .ok (.iaload, 1) := by decide +kernel
theorem d_X11_readMinute_124 : decode m_X11_readMinute.2.1 124 = .ok (.invokevirtual 311, 3) := by decide +kernel
theorem d_X11_readMinute_127 : decode m_X11_readMinute.2.1 127 = .ok (.ifCond .ne 5, 3) := by decide +kernel
theorem d_X11_readMinute_130 : decode m_X11_readMinute.2.1 130 = .ok (.iconst 0, 1) := by decide +kernel
theorem d_X11_readMinute_131 : decode m_X11_readMinute.2.1 131 = .ok (.ireturn, 1) := by decide +kernel
theorem d_X11_readMinute_132 : decode m_X11_readMinute.2.1 132 = .ok (.aload_n 0, 1) := by decide +kernel
theorem d_X11_readMinute_133 : decode m_X11_readMinute.2.1 133 = .ok (.dup, 1) := by decide +kernel
theorem d_X11_readMinute_134 : decode m_X11_readMinute.2.1 134 = .ok (.getfield 308, 3) := by decide +kernel
theorem d_X11_readMinute_137 : decode m_X11_readMinute.2.1 137 = .ok (.iconst 1, 1) := by decide +kernel
theorem d_X11_readMinute_138 : decode m_X11_readMinute.2.1 138 = .ok (.iadd, 1) := by decide +kernel
theorem d_X11_readMinute_139 : decode m_X11_readMinute.2.1 139 = .ok (.putfield 308, 3) := by decide +kernel
theorem d_X11_readMinute_142 : decode m_X11_readMinute.2.1 142 = .ok (.aload_n 0, 1) := by decide +kernel
theorem d_X11_readMinute_143 : decode m_X11_readMinute.2.1 143 = .ok (.invokevirtual 233, 3) := by decide +kernel
theorem d_X11_readMinute_146 : decode m_X11_readMinute.2.1 146 = .ok (.ireturn, 1) := by decide +kernel
set_option maxRecDepth 20000 in
theorem e_X11_readMinute {E : jm_E} {d : Nat} {μ : jm_M} {Q : Option jm_V → jm_M → Prop}  (h : (∀ v ∈ ([jm_R 133] : List jm_V), jm_ok v) →
  ((μ 133 7 ≠ 2 →
    jc E m_X11_bad d [jm_R 133, jm_I 1] μ (fun (o : Option jm_V) (m2 : jm_M) => ∀ r3 : Int, o = some (jm_I r3) → (r3 = 0 ∨ r3 = 1) →
    Q (some (jm_I r3)) m2)) ∧
   (¬ (μ 133 7 ≠ 2) →
    jc E m_X11_isWord d [jm_R 133, jm_I 14] μ (fun (o : Option jm_V) (m5 : jm_M) => ∀ r6 : Int, o = some (jm_I r6) → (r6 = 0 ∨ r6 = 1) →
    ((r6 ≠ 0 →
      jg E m_X11_readMinute d 30 [some (jm_R 133), none] [] m5 Q) ∧
     (¬ (r6 ≠ 0) →
      jc E m_X11_isName d [jm_R 133] m5 (fun (o : Option jm_V) (m9 : jm_M) => ∀ r10 : Int, o = some (jm_I r10) → (r10 = 0 ∨ r10 = 1) →
      ((r10 ≠ 0 →
        jg E m_X11_readMinute d 30 [some (jm_R 133), none] [] m9 Q) ∧
       (¬ (r10 ≠ 0) →
        jc E m_X11_bad d [jm_R 133, jm_I 1] m9 (fun (o : Option jm_V) (m13 : jm_M) => ∀ r14 : Int, o = some (jm_I r14) → (r14 = 0 ∨ r14 = 1) →
        Q (some (jm_I r14)) m13)))))))))) : jc E m_X11_readMinute (d + 1) [jm_R 133] μ Q := by
  refine jm_Cl.of2 (by decide +kernel) (L0 := [some (jm_R 133), none]) rfl (Nat.le_of_ble_eq_true rfl) (fun hok => ?_)
  have h := h hok
  refine jm_aloadn d_X11_readMinute_0 rfl ?_
  refine jm_getI (k := 7) (ki := 7) cf_X11 (Nat.le_of_ble_eq_true rfl) f_X11_128 d_X11_readMinute_1 rfl rfl is_133 rfl ?_
  refine jm_iconst (v := 2) d_X11_readMinute_4 rfl (jm_okI (by decide) (by decide)) ?_
  refine jm_icmp_ne (tgt := 24) d_X11_readMinute_5 (by decide) (fun c1 => ?_) (fun c1 => ?_)
  · have h := h.1 c1
    refine jm_aloadn d_X11_readMinute_24 rfl ?_
    refine jm_iconst (v := 1) d_X11_readMinute_25 rfl (jm_okI (by decide) (by decide)) ?_
    refine jm_invV (n1 := jm_N) (mc := 0) (ms := 0) (av := [jm_I _]) w_X11_bad l_X11_174 d_X11_readMinute_26 rfl is_133 ⟨_, _, rfl⟩ ⟨Nat.le_refl _, Nat.le_refl _⟩ (Nat.le_of_ble_eq_true rfl) rfl ?_
    refine jm_Cl.mono h (fun o m2 h hr _ => ?_)
    obtain ⟨r3, rfl, z4⟩ := jm_rokZ hr
    have h := h _ rfl z4
    exact jm_ret (o := some (jm_I _)) d_X11_readMinute_29 rfl ⟨Nat.le_refl _, Nat.le_refl _⟩ (jm_r_Z z4) h rfl
  · have h := h.2 c1
    refine jm_aloadn d_X11_readMinute_8 rfl ?_
    refine jm_bipush (v := 14) d_X11_readMinute_9 rfl (jm_okI (by decide) (by decide)) ?_
    refine jm_invV (n1 := jm_N) (mc := 0) (ms := 0) (av := [jm_I _]) w_X11_isWord l_X11_209 d_X11_readMinute_11 rfl is_133 ⟨_, _, rfl⟩ ⟨Nat.le_refl _, Nat.le_refl _⟩ (Nat.le_of_ble_eq_true rfl) rfl ?_
    refine jm_Cl.mono h (fun o m5 h hr _ => ?_)
    obtain ⟨r6, rfl, z7⟩ := jm_rokZ hr
    have h := h _ rfl z7
    refine jm_if_ne (tgt := 30) d_X11_readMinute_14 (by decide) (fun c8 => ?_) (fun c8 => ?_)
    · have h := h.1 c8
      exact h
    · have h := h.2 c8
      refine jm_aloadn d_X11_readMinute_17 rfl ?_
      refine jm_invV (n1 := jm_N) (mc := 0) (ms := 0) (av := []) w_X11_isName l_X11_194 d_X11_readMinute_18 rfl is_133 ⟨_, _, rfl⟩ ⟨Nat.le_refl _, Nat.le_refl _⟩ (Nat.le_of_ble_eq_true rfl) rfl ?_
      refine jm_Cl.mono h (fun o m9 h hr _ => ?_)
      obtain ⟨r10, rfl, z11⟩ := jm_rokZ hr
      have h := h _ rfl z11
      refine jm_if_ne (tgt := 30) d_X11_readMinute_21 (by decide) (fun c12 => ?_) (fun c12 => ?_)
      · have h := h.1 c12
        exact h
      · have h := h.2 c12
        refine jm_aloadn d_X11_readMinute_24 rfl ?_
        refine jm_iconst (v := 1) d_X11_readMinute_25 rfl (jm_okI (by decide) (by decide)) ?_
        refine jm_invV (n1 := jm_N) (mc := 0) (ms := 0) (av := [jm_I _]) w_X11_bad l_X11_174 d_X11_readMinute_26 rfl is_133 ⟨_, _, rfl⟩ ⟨Nat.le_refl _, Nat.le_refl _⟩ (Nat.le_of_ble_eq_true rfl) rfl ?_
        refine jm_Cl.mono h (fun o m13 h hr _ => ?_)
        obtain ⟨r14, rfl, z15⟩ := jm_rokZ hr
        have h := h _ rfl z15
        exact jm_ret (o := some (jm_I _)) d_X11_readMinute_29 rfl ⟨Nat.le_refl _, Nat.le_refl _⟩ (jm_r_Z z15) h rfl
set_option maxRecDepth 20000 in
theorem r_X11_readMinute_30 {E : jm_E} {d : Nat} {μ : jm_M} {Q : Option jm_V → jm_M → Prop}  (h :
  ((μ 133 33 ≠ 24 →
    jc E m_X11_readTorn d [jm_R 133, jm_I (jm_wr (2 * (μ 133 33))), jm_I 0, jm_I (μ 135 0)] μ (fun (o : Option jm_V) (m2 : jm_M) => ∀ r3 : Int, o = some (jm_I r3) → (r3 = 0 ∨ r3 = 1) →
    ((r3 = 0 →
      Q (some (jm_I 0)) m2) ∧
     (¬ (r3 = 0) →
      jc E m_X11_readTorn d [jm_R 133, jm_I (jm_wr ((jm_wr (2 * (m2 133 33))) + 1)), jm_I 8, jm_I (m2 135 1)] m2 (fun (o : Option jm_V) (m6 : jm_M) => ∀ r7 : Int, o = some (jm_I r7) → (r7 = 0 ∨ r7 = 1) →
      ((r7 ≠ 0 →
        jc E m_X11_readEnd d [jm_R 133] (jm_up m6 133 33 (jm_wr ((m6 133 33) + 1))) (fun (o : Option jm_V) (m10 : jm_M) => ∀ r11 : Int, o = some (jm_I r11) → (r11 = 0 ∨ r11 = 1) →
        Q (some (jm_I r11)) m10)) ∧
       (¬ (r7 ≠ 0) →
        Q (some (jm_I 0)) m6))))))) ∧
   (¬ (μ 133 33 ≠ 24) →
    jc E m_X11_isWord d [jm_R 133, jm_I 14] μ (fun (o : Option jm_V) (m13 : jm_M) => ∀ r14 : Int, o = some (jm_I r14) → (r14 = 0 ∨ r14 = 1) →
    ((r14 ≠ 0 →
      jc E m_X11_bad d [jm_R 133, jm_I 4] m13 (fun (o : Option jm_V) (m18 : jm_M) => ∀ r19 : Int, o = some (jm_I r19) → (r19 = 0 ∨ r19 = 1) →
      Q (some (jm_I r19)) m18)) ∧
     (¬ (r14 ≠ 0) →
      jc E m_X11_findIn d [jm_R 133, jm_R 139, jm_I 0, jm_I (m13 135 0)] m13 (fun (o : Option jm_V) (m21 : jm_M) => ∀ r22 : Int, o = some (jm_I r22) →
      ((r22 = ((-1)) →
        jc E m_X11_bad d [jm_R 133, jm_I 3] m21 (fun (o : Option jm_V) (m25 : jm_M) => ∀ r26 : Int, o = some (jm_I r26) → (r26 = 0 ∨ r26 = 1) →
        Q (some (jm_I r26)) m25)) ∧
       (¬ (r22 = ((-1))) →
        jc E m_X11_bad d [jm_R 133, jm_I 4] m21 (fun (o : Option jm_V) (m29 : jm_M) => ∀ r30 : Int, o = some (jm_I r30) → (r30 = 0 ∨ r30 = 1) →
        Q (some (jm_I r30)) m29)))))))))) : jg E m_X11_readMinute d 30 [some (jm_R 133), none] [] μ Q := by
  refine jm_aloadn d_X11_readMinute_30 rfl ?_
  refine jm_getI (k := 33) (ki := 33) cf_X11 (Nat.le_of_ble_eq_true rfl) f_X11_308 d_X11_readMinute_31 rfl rfl is_133 rfl ?_
  refine jm_bipush (v := 24) d_X11_readMinute_34 rfl (jm_okI (by decide) (by decide)) ?_
  refine jm_icmp_ne (tgt := 87) d_X11_readMinute_36 (by decide) (fun c1 => ?_) (fun c1 => ?_)
  · have h := h.1 c1
    refine jm_aloadn d_X11_readMinute_87 rfl ?_
    refine jm_iconst (v := 2) d_X11_readMinute_88 rfl (jm_okI (by decide) (by decide)) ?_
    refine jm_aloadn d_X11_readMinute_89 rfl ?_
    refine jm_getI (k := 33) (ki := 33) cf_X11 (Nat.le_of_ble_eq_true rfl) f_X11_308 d_X11_readMinute_90 rfl rfl is_133 rfl ?_
    refine jm_imul d_X11_readMinute_93 ?_
    refine jm_iconst (v := 0) d_X11_readMinute_94 rfl (jm_okI (by decide) (by decide)) ?_
    refine jm_aloadn d_X11_readMinute_95 rfl ?_
    refine jm_getF (k := 14) (ki := 14) rfl cf_X11 (Nat.le_of_ble_eq_true rfl) f_X11_13 d_X11_readMinute_96 rfl rfl is_133 fr_133_14 ?_
    refine jm_iconst (v := 0) d_X11_readMinute_99 rfl (jm_okI (by decide) (by decide)) ?_
    refine jm_iaload d_X11_readMinute_100 (ixl_135 (by decide) (by decide)) ?_
    refine jm_invV (n1 := jm_N) (mc := 0) (ms := 0) (av := [jm_I _, jm_I _, jm_I _]) w_X11_readTorn l_X11_311 d_X11_readMinute_101 rfl is_133 ⟨_, _, rfl⟩ ⟨Nat.le_refl _, Nat.le_refl _⟩ (Nat.le_of_ble_eq_true rfl) rfl ?_
    refine jm_Cl.mono h (fun o m2 h hr _ => ?_)
    obtain ⟨r3, rfl, z4⟩ := jm_rokZ hr
    have h := h _ rfl z4
    refine jm_if_eq (tgt := 130) d_X11_readMinute_104 (by decide) (fun c5 => ?_) (fun c5 => ?_)
    · have h := h.1 c5
      refine jm_iconst (v := 0) d_X11_readMinute_130 rfl (jm_okI (by decide) (by decide)) ?_
      exact jm_ret (o := some (jm_I _)) d_X11_readMinute_131 rfl ⟨Nat.le_refl _, Nat.le_refl _⟩ (jm_r_Z (by decide)) h rfl
    · have h := h.2 c5
      refine jm_aloadn d_X11_readMinute_107 rfl ?_
      refine jm_iconst (v := 2) d_X11_readMinute_108 rfl (jm_okI (by decide) (by decide)) ?_
      refine jm_aloadn d_X11_readMinute_109 rfl ?_
      refine jm_getI (k := 33) (ki := 33) cf_X11 (Nat.le_of_ble_eq_true rfl) f_X11_308 d_X11_readMinute_110 rfl rfl is_133 rfl ?_
      refine jm_imul d_X11_readMinute_113 ?_
      refine jm_iconst (v := 1) d_X11_readMinute_114 rfl (jm_okI (by decide) (by decide)) ?_
      refine jm_iadd d_X11_readMinute_115 ?_
      refine jm_bipush (v := 8) d_X11_readMinute_116 rfl (jm_okI (by decide) (by decide)) ?_
      refine jm_aloadn d_X11_readMinute_118 rfl ?_
      refine jm_getF (k := 14) (ki := 14) rfl cf_X11 (Nat.le_of_ble_eq_true rfl) f_X11_13 d_X11_readMinute_119 rfl rfl is_133 fr_133_14 ?_
      refine jm_iconst (v := 1) d_X11_readMinute_122 rfl (jm_okI (by decide) (by decide)) ?_
      refine jm_iaload d_X11_readMinute_123 (ixl_135 (by decide) (by decide)) ?_
      refine jm_invV (n1 := jm_N) (mc := 0) (ms := 0) (av := [jm_I _, jm_I _, jm_I _]) w_X11_readTorn l_X11_311 d_X11_readMinute_124 rfl is_133 ⟨_, _, rfl⟩ ⟨Nat.le_refl _, Nat.le_refl _⟩ (Nat.le_of_ble_eq_true rfl) rfl ?_
      refine jm_Cl.mono h (fun o m6 h hr _ => ?_)
      obtain ⟨r7, rfl, z8⟩ := jm_rokZ hr
      have h := h _ rfl z8
      refine jm_if_ne (tgt := 132) d_X11_readMinute_127 (by decide) (fun c9 => ?_) (fun c9 => ?_)
      · have h := h.1 c9
        refine jm_aloadn d_X11_readMinute_132 rfl ?_
        refine jm_dup rfl d_X11_readMinute_133 ?_
        refine jm_getI (k := 33) (ki := 33) cf_X11 (Nat.le_of_ble_eq_true rfl) f_X11_308 d_X11_readMinute_134 rfl rfl is_133 rfl ?_
        refine jm_iconst (v := 1) d_X11_readMinute_137 rfl (jm_okI (by decide) (by decide)) ?_
        refine jm_iadd d_X11_readMinute_138 ?_
        refine jm_putI (k := 33) (ki := 33) cf_X11 (Nat.le_of_ble_eq_true rfl) f_X11_308 d_X11_readMinute_139 (fun z => absurd z (by decide)) rfl rfl rfl (fun _ => rfl) is_133 ?_
        refine jm_aloadn d_X11_readMinute_142 rfl ?_
        refine jm_invV (n1 := jm_N) (mc := 0) (ms := 0) (av := []) w_X11_readEnd l_X11_233 d_X11_readMinute_143 rfl is_133 ⟨_, _, rfl⟩ ⟨Nat.le_refl _, Nat.le_refl _⟩ (Nat.le_of_ble_eq_true rfl) rfl ?_
        refine jm_Cl.mono h (fun o m10 h hr _ => ?_)
        obtain ⟨r11, rfl, z12⟩ := jm_rokZ hr
        have h := h _ rfl z12
        exact jm_ret (o := some (jm_I _)) d_X11_readMinute_146 rfl ⟨Nat.le_refl _, Nat.le_refl _⟩ (jm_r_Z z12) h rfl
      · have h := h.2 c9
        refine jm_iconst (v := 0) d_X11_readMinute_130 rfl (jm_okI (by decide) (by decide)) ?_
        exact jm_ret (o := some (jm_I _)) d_X11_readMinute_131 rfl ⟨Nat.le_refl _, Nat.le_refl _⟩ (jm_r_Z (by decide)) h rfl
  · have h := h.2 c1
    refine jm_aloadn d_X11_readMinute_39 rfl ?_
    refine jm_bipush (v := 14) d_X11_readMinute_40 rfl (jm_okI (by decide) (by decide)) ?_
    refine jm_invV (n1 := jm_N) (mc := 0) (ms := 0) (av := [jm_I _]) w_X11_isWord l_X11_209 d_X11_readMinute_42 rfl is_133 ⟨_, _, rfl⟩ ⟨Nat.le_refl _, Nat.le_refl _⟩ (Nat.le_of_ble_eq_true rfl) rfl ?_
    refine jm_Cl.mono h (fun o m13 h hr _ => ?_)
    obtain ⟨r14, rfl, z15⟩ := jm_rokZ hr
    have h := h _ rfl z15
    refine jm_if_ne (tgt := 67) d_X11_readMinute_45 (by decide) (fun c16 => ?_) (fun c16 => ?_)
    · have h := h.1 c16
      refine jm_iconst (v := 1) d_X11_readMinute_67 rfl (jm_okI (by decide) (by decide)) ?_
      refine jm_goto (tgt := 72) d_X11_readMinute_68 (by decide) ?_
      refine jm_istoren (L' := [some (jm_R _), some (jm_I _)]) d_X11_readMinute_72 (Nat.le_of_ble_eq_true rfl) rfl ?_
      refine jm_aloadn d_X11_readMinute_73 rfl ?_
      refine jm_iloadn d_X11_readMinute_74 rfl ?_
      refine jm_if_eq (tgt := 82) d_X11_readMinute_75 (by decide) (fun c17 => absurd c17 (by decide)) (fun _ => ?_)
      refine jm_iconst (v := 4) d_X11_readMinute_78 rfl (jm_okI (by decide) (by decide)) ?_
      refine jm_goto (tgt := 83) d_X11_readMinute_79 (by decide) ?_
      refine jm_invV (n1 := jm_N) (mc := 0) (ms := 0) (av := [jm_I _]) w_X11_bad l_X11_174 d_X11_readMinute_83 rfl is_133 ⟨_, _, rfl⟩ ⟨Nat.le_refl _, Nat.le_refl _⟩ (Nat.le_of_ble_eq_true rfl) rfl ?_
      refine jm_Cl.mono h (fun o m18 h hr _ => ?_)
      obtain ⟨r19, rfl, z20⟩ := jm_rokZ hr
      have h := h _ rfl z20
      exact jm_ret (o := some (jm_I _)) d_X11_readMinute_86 rfl ⟨Nat.le_refl _, Nat.le_refl _⟩ (jm_r_Z z20) h rfl
    · have h := h.2 c16
      refine jm_aloadn d_X11_readMinute_48 rfl ?_
      refine jm_aloadn d_X11_readMinute_49 rfl ?_
      refine jm_getF (k := 18) (ki := 18) rfl cf_X11 (Nat.le_of_ble_eq_true rfl) f_X11_25 d_X11_readMinute_50 rfl rfl is_133 fr_133_18 ?_
      refine jm_iconst (v := 0) d_X11_readMinute_53 rfl (jm_okI (by decide) (by decide)) ?_
      refine jm_aloadn d_X11_readMinute_54 rfl ?_
      refine jm_getF (k := 14) (ki := 14) rfl cf_X11 (Nat.le_of_ble_eq_true rfl) f_X11_13 d_X11_readMinute_55 rfl rfl is_133 fr_133_14 ?_
      refine jm_iconst (v := 0) d_X11_readMinute_58 rfl (jm_okI (by decide) (by decide)) ?_
      refine jm_iaload d_X11_readMinute_59 (ixl_135 (by decide) (by decide)) ?_
      refine jm_invV (n1 := jm_N) (mc := 0) (ms := 0) (av := [jm_R _, jm_I _, jm_I _]) w_X11_findIn l_X11_198 d_X11_readMinute_60 rfl is_133 ⟨_, _, rfl⟩ ⟨Nat.le_refl _, Nat.le_refl _⟩ (Nat.le_of_ble_eq_true rfl) rfl ?_
      refine jm_Cl.mono h (fun o m21 h hr _ => ?_)
      obtain ⟨r22, rfl⟩ := jm_rokI hr
      have h := h _ rfl
      refine jm_iconst (v := (-1)) d_X11_readMinute_63 rfl (jm_okI (by decide) (by decide)) ?_
      refine jm_icmp_eq (tgt := 71) d_X11_readMinute_64 (by decide) (fun c23 => ?_) (fun c23 => ?_)
      · have h := h.1 c23
        refine jm_iconst (v := 0) d_X11_readMinute_71 rfl (jm_okI (by decide) (by decide)) ?_
        refine jm_istoren (L' := [some (jm_R _), some (jm_I _)]) d_X11_readMinute_72 (Nat.le_of_ble_eq_true rfl) rfl ?_
        refine jm_aloadn d_X11_readMinute_73 rfl ?_
        refine jm_iloadn d_X11_readMinute_74 rfl ?_
        refine jm_if_eq (tgt := 82) d_X11_readMinute_75 (by decide) (fun _ => ?_) (fun c24 => absurd (by decide) c24)
        refine jm_iconst (v := 3) d_X11_readMinute_82 rfl (jm_okI (by decide) (by decide)) ?_
        refine jm_invV (n1 := jm_N) (mc := 0) (ms := 0) (av := [jm_I _]) w_X11_bad l_X11_174 d_X11_readMinute_83 rfl is_133 ⟨_, _, rfl⟩ ⟨Nat.le_refl _, Nat.le_refl _⟩ (Nat.le_of_ble_eq_true rfl) rfl ?_
        refine jm_Cl.mono h (fun o m25 h hr _ => ?_)
        obtain ⟨r26, rfl, z27⟩ := jm_rokZ hr
        have h := h _ rfl z27
        exact jm_ret (o := some (jm_I _)) d_X11_readMinute_86 rfl ⟨Nat.le_refl _, Nat.le_refl _⟩ (jm_r_Z z27) h rfl
      · have h := h.2 c23
        refine jm_iconst (v := 1) d_X11_readMinute_67 rfl (jm_okI (by decide) (by decide)) ?_
        refine jm_goto (tgt := 72) d_X11_readMinute_68 (by decide) ?_
        refine jm_istoren (L' := [some (jm_R _), some (jm_I _)]) d_X11_readMinute_72 (Nat.le_of_ble_eq_true rfl) rfl ?_
        refine jm_aloadn d_X11_readMinute_73 rfl ?_
        refine jm_iloadn d_X11_readMinute_74 rfl ?_
        refine jm_if_eq (tgt := 82) d_X11_readMinute_75 (by decide) (fun c28 => absurd c28 (by decide)) (fun _ => ?_)
        refine jm_iconst (v := 4) d_X11_readMinute_78 rfl (jm_okI (by decide) (by decide)) ?_
        refine jm_goto (tgt := 83) d_X11_readMinute_79 (by decide) ?_
        refine jm_invV (n1 := jm_N) (mc := 0) (ms := 0) (av := [jm_I _]) w_X11_bad l_X11_174 d_X11_readMinute_83 rfl is_133 ⟨_, _, rfl⟩ ⟨Nat.le_refl _, Nat.le_refl _⟩ (Nat.le_of_ble_eq_true rfl) rfl ?_
        refine jm_Cl.mono h (fun o m29 h hr _ => ?_)
        obtain ⟨r30, rfl, z31⟩ := jm_rokZ hr
        have h := h _ rfl z31
        exact jm_ret (o := some (jm_I _)) d_X11_readMinute_86 rfl ⟨Nat.le_refl _, Nat.le_refl _⟩ (jm_r_Z z31) h rfl
/-! ('CombTableModel', 'minutes', '()I') -/
theorem d_X11_minutes_0 : decode m_X11_minutes.2.1 0 = .ok (.aload_n 0, 1) := by decide +kernel
theorem d_X11_minutes_1 : decode m_X11_minutes.2.1 1 = .ok (.sipush 300, 3) := by decide +kernel
theorem d_X11_minutes_4 : decode m_X11_minutes.2.1 4 = .ok (.invokevirtual 236, 3) := by decide +kernel
theorem d_X11_minutes_7 : decode m_X11_minutes.2.1 7 = .ok (.aload_n 0, 1) := by decide +kernel
theorem d_X11_minutes_8 : decode m_X11_minutes.2.1 8 = .ok (.iconst 0, 1) := by decide +kernel
theorem d_X11_minutes_9 : decode m_X11_minutes.2.1 9 = .ok (.putfield 308, 3) := by decide +kernel
theorem d_X11_minutes_12 : decode m_X11_minutes.2.1 12 = .ok (.aload_n 0, 1) := by decide +kernel
theorem d_X11_minutes_13 : decode m_X11_minutes.2.1 13 = .ok (.iconst 0, 1) := by decide +kernel
theorem d_X11_minutes_14 : decode m_X11_minutes.2.1 14 = .ok (.putfield 305, 3) := by decide +kernel
theorem d_X11_minutes_17 : decode m_X11_minutes.2.1 17 = .ok (.aload_n 0, 1) := by decide +kernel
theorem d_X11_minutes_18 : decode m_X11_minutes.2.1 18 = .ok (.getfield 128, 3) := by decide +kernel
theorem d_X11_minutes_21 : decode m_X11_minutes.2.1 21 = .ok (.ifCond .eq 17, 3) := by decide +kernel
theorem d_X11_minutes_24 : decode m_X11_minutes.2.1 24 = .ok (.aload_n 0, 1) := by decide +kernel
theorem d_X11_minutes_25 : decode m_X11_minutes.2.1 25 = .ok (.invokevirtual 314, 3) := by decide +kernel
theorem d_X11_minutes_28 : decode m_X11_minutes.2.1 28 = .ok (.ifCond .ne (-11), 3) := by decide +kernel
theorem d_X11_minutes_31 : decode m_X11_minutes.2.1 31 = .ok (.iconst (-1), 1) := by decide +kernel
theorem d_X11_minutes_32 : decode m_X11_minutes.2.1 32 = .ok (.aload_n 0, 1) := by decide +kernel
theorem d_X11_minutes_33 : decode m_X11_minutes.2.1 33 = .ok (.getfield 171, 3) := by decide +kernel
theorem d_X11_minutes_36 : decode m_X11_minutes.2.1 36 = .ok (.isub, 1) := by decide +kernel
theorem d_X11_minutes_37 : decode m_X11_minutes.2.1 37 = .ok (.ireturn, 1) := by decide +kernel
theorem d_X11_minutes_38 : decode m_X11_minutes.2.1 38 = .ok (.iconst 0, 1) := by decide +kernel
theorem d_X11_minutes_39 : decode m_X11_minutes.2.1 39 = .ok (.istore_n 1, 1) := by decide +kernel
theorem d_X11_minutes_40 : decode m_X11_minutes.2.1 40 = .ok (.iload_n 1, 1) := by decide +kernel
theorem d_X11_minutes_41 : decode m_X11_minutes.2.1 41 = .ok (.iconst 2, 1) := by decide +kernel
theorem d_X11_minutes_42 : decode m_X11_minutes.2.1 42 = .ok (.aload_n 0, 1) := by decide +kernel
theorem d_X11_minutes_43 : decode m_X11_minutes.2.1 43 = .ok (.getfield 308, 3) := by decide +kernel
theorem d_X11_minutes_46 : decode m_X11_minutes.2.1 46 = .ok (.imul, 1) := by decide +kernel
theorem d_X11_minutes_47 : decode m_X11_minutes.2.1 47 = .ok (.if_icmp .ge 25, 3) := by decide +kernel
theorem d_X11_minutes_50 : decode m_X11_minutes.2.1 50 = .ok (.aload_n 0, 1) := by decide +kernel
theorem d_X11_minutes_51 : decode m_X11_minutes.2.1 51 = .ok (.getfield 13, 3) := by decide +kernel
theorem d_X11_minutes_54 : decode m_X11_minutes.2.1 54 = .ok (.sipush 862, 3) := by decide +kernel
theorem d_X11_minutes_57 : decode m_X11_minutes.2.1 57 = .ok (.iload_n 1, 1) := by decide +kernel
theorem d_X11_minutes_58 : decode m_X11_minutes.2.1 58 = .ok (.iadd, 1) := by decide +kernel
theorem d_X11_minutes_59 : decode m_X11_minutes.2.1 59 = .ok (.aload_n 0, 1) := by decide +kernel
theorem d_X11_minutes_60 : decode m_X11_minutes.2.1 60 = .ok (.getfield 22, 3) := by decide +kernel
theorem d_X11_minutes_63 : decode m_X11_minutes.2.1 63 = .ok (.iload_n 1, 1) := by decide +kernel
theorem d_X11_minutes_64 : decode m_X11_minutes.2.1 64 = .ok (.iaload, 1) := by decide +kernel
theorem d_X11_minutes_65 : decode m_X11_minutes.2.1 65 = .ok (.iastore, 1) := by decide +kernel
theorem d_X11_minutes_66 : decode m_X11_minutes.2.1 66 = .ok (.iinc 1 1, 3) := by decide +kernel
theorem d_X11_minutes_69 : decode m_X11_minutes.2.1 69 = .ok (.goto (-29), 3) := by decide +kernel
theorem d_X11_minutes_72 : decode m_X11_minutes.2.1 72 = .ok (.aload_n 0, 1) := by decide +kernel
theorem d_X11_minutes_73 : decode m_X11_minutes.2.1 73 = .ok (.getfield 13, 3) := by decide +kernel
theorem d_X11_minutes_76 : decode m_X11_minutes.2.1 76 = .ok (.sipush 861, 3) := by decide +kernel
theorem d_X11_minutes_79 : decode m_X11_minutes.2.1 79 = .ok (.aload_n 0, 1) := by decide +kernel
theorem d_X11_minutes_80 : decode m_X11_minutes.2.1 80 = .ok (.getfield 308, 3) := by decide +kernel
theorem d_X11_minutes_83 : decode m_X11_minutes.2.1 83 = .ok (.iastore, 1) := by decide +kernel
theorem d_X11_minutes_84 : decode m_X11_minutes.2.1 84 = .ok (.aload_n 0, 1) := by decide +kernel
theorem d_X11_minutes_85 : decode m_X11_minutes.2.1 85 = .ok (.getfield 308, 3) := by decide +kernel
theorem d_X11_minutes_88 : decode m_X11_minutes.2.1 88 = .ok (.ireturn, 1) := by decide +kernel
set_option maxRecDepth 20000 in
theorem e_X11_minutes {E : jm_E} {d : Nat} {μ : jm_M} {Q : Option jm_V → jm_M → Prop}  (h : (∀ v ∈ ([jm_R 133] : List jm_V), jm_ok v) →
  jc E m_X11_begin d [jm_R 133, jm_I 300] μ (fun (o : Option jm_V) (m1 : jm_M) => o = none →
  jg E m_X11_minutes d 17 [some (jm_R 133), none] [] (jm_up (jm_up m1 133 33 0) 133 34 0) Q)) : jc E m_X11_minutes (d + 1) [jm_R 133] μ Q := by
  refine jm_Cl.of2 (by decide +kernel) (L0 := [some (jm_R 133), none]) rfl (Nat.le_of_ble_eq_true rfl) (fun hok => ?_)
  have h := h hok
  refine jm_aloadn d_X11_minutes_0 rfl ?_
  refine jm_sipush (v := 300) d_X11_minutes_1 rfl (jm_okI (by decide) (by decide)) ?_
  refine jm_invV (n1 := jm_N) (mc := 0) (ms := 0) (av := [jm_I _]) w_X11_begin l_X11_236 d_X11_minutes_4 rfl is_133 ⟨_, _, rfl⟩ ⟨Nat.le_refl _, Nat.le_refl _⟩ (Nat.le_of_ble_eq_true rfl) rfl ?_
  refine jm_Cl.mono h (fun o m1 h hr _ => ?_)
  obtain rfl := jm_rokV hr
  have h := h rfl
  refine jm_aloadn d_X11_minutes_7 rfl ?_
  refine jm_iconst (v := 0) d_X11_minutes_8 rfl (jm_okI (by decide) (by decide)) ?_
  refine jm_putI (k := 33) (ki := 33) cf_X11 (Nat.le_of_ble_eq_true rfl) f_X11_308 d_X11_minutes_9 (fun z => absurd z (by decide)) rfl rfl rfl (fun _ => rfl) is_133 ?_
  refine jm_aloadn d_X11_minutes_12 rfl ?_
  refine jm_iconst (v := 0) d_X11_minutes_13 rfl (jm_okI (by decide) (by decide)) ?_
  refine jm_putI (k := 34) (ki := 34) cf_X11 (Nat.le_of_ble_eq_true rfl) f_X11_305 d_X11_minutes_14 (fun z => absurd z (by decide)) rfl rfl rfl (fun _ => rfl) is_133 ?_
  exact h
set_option maxRecDepth 20000 in
theorem r_X11_minutes_17 {E : jm_E} {d : Nat} {μ : jm_M} {Q : Option jm_V → jm_M → Prop}  (h :
  ((μ 133 7 = 0 →
    jg E m_X11_minutes d 40 [some (jm_R 133), some (jm_I 0)] [] μ Q) ∧
   (¬ (μ 133 7 = 0) →
    jc E m_X11_readMinute d [jm_R 133] μ (fun (o : Option jm_V) (m2 : jm_M) => ∀ r3 : Int, o = some (jm_I r3) → (r3 = 0 ∨ r3 = 1) →
    ((r3 ≠ 0 →
      jg E m_X11_minutes d 17 [some (jm_R 133), none] [] m2 Q) ∧
     (¬ (r3 ≠ 0) →
      Q (some (jm_I (jm_wr (((-1)) - (m2 133 11))))) m2)))))) : jg E m_X11_minutes d 17 [some (jm_R 133), none] [] μ Q := by
  refine jm_aloadn d_X11_minutes_17 rfl ?_
  refine jm_getI (k := 7) (ki := 7) cf_X11 (Nat.le_of_ble_eq_true rfl) f_X11_128 d_X11_minutes_18 rfl rfl is_133 rfl ?_
  refine jm_if_eq (tgt := 38) d_X11_minutes_21 (by decide) (fun c1 => ?_) (fun c1 => ?_)
  · have h := h.1 c1
    refine jm_iconst (v := 0) d_X11_minutes_38 rfl (jm_okI (by decide) (by decide)) ?_
    refine jm_istoren (L' := [some (jm_R _), some (jm_I _)]) d_X11_minutes_39 (Nat.le_of_ble_eq_true rfl) rfl ?_
    exact h
  · have h := h.2 c1
    refine jm_aloadn d_X11_minutes_24 rfl ?_
    refine jm_invV (n1 := jm_N) (mc := 0) (ms := 0) (av := []) w_X11_readMinute l_X11_314 d_X11_minutes_25 rfl is_133 ⟨_, _, rfl⟩ ⟨Nat.le_refl _, Nat.le_refl _⟩ (Nat.le_of_ble_eq_true rfl) rfl ?_
    refine jm_Cl.mono h (fun o m2 h hr _ => ?_)
    obtain ⟨r3, rfl, z4⟩ := jm_rokZ hr
    have h := h _ rfl z4
    refine jm_if_ne (tgt := 17) d_X11_minutes_28 (by decide) (fun c5 => ?_) (fun c5 => ?_)
    · have h := h.1 c5
      exact h
    · have h := h.2 c5
      refine jm_iconst (v := (-1)) d_X11_minutes_31 rfl (jm_okI (by decide) (by decide)) ?_
      refine jm_aloadn d_X11_minutes_32 rfl ?_
      refine jm_getI (k := 11) (ki := 11) cf_X11 (Nat.le_of_ble_eq_true rfl) f_X11_171 d_X11_minutes_33 rfl rfl is_133 rfl ?_
      refine jm_isub d_X11_minutes_36 ?_
      exact jm_ret (o := some (jm_I _)) d_X11_minutes_37 rfl ⟨Nat.le_refl _, Nat.le_refl _⟩ jm_r_I h rfl
set_option maxRecDepth 20000 in
theorem r_X11_minutes_40 {E : jm_E} {d : Nat} {μ : jm_M} {Q : Option jm_V → jm_M → Prop} {v1 : Int} (h :
  (((jm_wr (2 * (μ 133 33))) ≤ v1 →
    ∀ m2 : jm_M, m2 = (jm_up μ 135 861 (μ 133 33)) →
    Q (some (jm_I (m2 133 33))) m2) ∧
   (¬ ((jm_wr (2 * (μ 133 33))) ≤ v1) →
    (0 ≤ v1 ∧ v1 < 800) ∧
    (0 ≤ jm_wr (862 + v1) ∧ jm_wr (862 + v1) < 1152) ∧
    ∀ m5 : jm_M, m5 = (jm_up μ 135 (jm_wr (862 + v1)) (μ 138 v1)) →
    jg E m_X11_minutes d 40 [some (jm_R 133), some (jm_I (jm_wr (v1 + 1)))] [] m5 Q))) : jg E m_X11_minutes d 40 [some (jm_R 133), some (jm_I v1)] [] μ Q := by
  refine jm_iloadn d_X11_minutes_40 rfl ?_
  refine jm_iconst (v := 2) d_X11_minutes_41 rfl (jm_okI (by decide) (by decide)) ?_
  refine jm_aloadn d_X11_minutes_42 rfl ?_
  refine jm_getI (k := 33) (ki := 33) cf_X11 (Nat.le_of_ble_eq_true rfl) f_X11_308 d_X11_minutes_43 rfl rfl is_133 rfl ?_
  refine jm_imul d_X11_minutes_46 ?_
  refine jm_icmp_ge (tgt := 72) d_X11_minutes_47 (by decide) (fun c1 => ?_) (fun c1 => ?_)
  · have h := h.1 c1
    refine jm_aloadn d_X11_minutes_72 rfl ?_
    refine jm_getF (k := 14) (ki := 14) rfl cf_X11 (Nat.le_of_ble_eq_true rfl) f_X11_13 d_X11_minutes_73 rfl rfl is_133 fr_133_14 ?_
    refine jm_sipush (v := 861) d_X11_minutes_76 rfl (jm_okI (by decide) (by decide)) ?_
    refine jm_aloadn d_X11_minutes_79 rfl ?_
    refine jm_getI (k := 33) (ki := 33) cf_X11 (Nat.le_of_ble_eq_true rfl) f_X11_308 d_X11_minutes_80 rfl rfl is_133 rfl ?_
    refine jm_iastore d_X11_minutes_83 (ixl_135 (by decide) (by decide)) ?_
    have h := h _ rfl
    refine jm_aloadn d_X11_minutes_84 rfl ?_
    refine jm_getI (k := 33) (ki := 33) cf_X11 (Nat.le_of_ble_eq_true rfl) f_X11_308 d_X11_minutes_85 rfl rfl is_133 rfl ?_
    exact jm_ret (o := some (jm_I _)) d_X11_minutes_88 rfl ⟨Nat.le_refl _, Nat.le_refl _⟩ jm_r_I h rfl
  · have h := h.2 c1
    refine jm_aloadn d_X11_minutes_50 rfl ?_
    refine jm_getF (k := 14) (ki := 14) rfl cf_X11 (Nat.le_of_ble_eq_true rfl) f_X11_13 d_X11_minutes_51 rfl rfl is_133 fr_133_14 ?_
    refine jm_sipush (v := 862) d_X11_minutes_54 rfl (jm_okI (by decide) (by decide)) ?_
    refine jm_iloadn d_X11_minutes_57 rfl ?_
    refine jm_iadd d_X11_minutes_58 ?_
    refine jm_aloadn d_X11_minutes_59 rfl ?_
    refine jm_getF (k := 17) (ki := 17) rfl cf_X11 (Nat.le_of_ble_eq_true rfl) f_X11_22 d_X11_minutes_60 rfl rfl is_133 fr_133_17 ?_
    refine jm_iloadn d_X11_minutes_63 rfl ?_
    obtain ⟨f3, h⟩ := h
    refine jm_iaload d_X11_minutes_64 (ixl_138 f3.1 f3.2) ?_
    obtain ⟨f4, h⟩ := h
    refine jm_iastore d_X11_minutes_65 (ixl_135 f4.1 f4.2) ?_
    have h := h _ rfl
    refine jm_iinc (L' := [some (jm_R _), some (jm_I _)]) d_X11_minutes_66 rfl rfl (Nat.le_of_ble_eq_true rfl) rfl ?_
    refine jm_goto (tgt := 40) d_X11_minutes_69 (by decide) ?_
    exact h
/-! ('CombTableModel', 'fill', '(I)V') -/
theorem d_X11_fill_0 : decode m_X11_fill.2.1 0 = .ok (.iload_n 1, 1) := by decide +kernel
theorem d_X11_fill_1 : decode m_X11_fill.2.1 1 = .ok (.aload_n 0, 1) := by decide +kernel
theorem d_X11_fill_2 : decode m_X11_fill.2.1 2 = .ok (.getfield 317, 3) := by decide +kernel
theorem d_X11_fill_5 : decode m_X11_fill.2.1 5 = .ok (.if_icmp .ne 78, 3) := by decide +kernel
theorem d_X11_fill_8 : decode m_X11_fill.2.1 8 = .ok (.aload_n 0, 1) := by decide +kernel
theorem d_X11_fill_9 : decode m_X11_fill.2.1 9 = .ok (.dup, 1) := by decide +kernel
theorem d_X11_fill_10 : decode m_X11_fill.2.1 10 = .ok (.getfield 320, 3) := by decide +kernel
theorem d_X11_fill_13 : decode m_X11_fill.2.1 13 = .ok (.iconst 1, 1) := by decide +kernel
theorem d_X11_fill_14 : decode m_X11_fill.2.1 14 = .ok (.iadd, 1) := by decide +kernel
theorem d_X11_fill_15 : decode m_X11_fill.2.1 15 = .ok (.putfield 320, 3) := by decide +kernel
theorem d_X11_fill_18 : decode m_X11_fill.2.1 18 = .ok (.iconst 0, 1) := by decide +kernel
theorem d_X11_fill_19 : decode m_X11_fill.2.1 19 = .ok (.istore_n 2, 1) := by decide +kernel
theorem d_X11_fill_20 : decode m_X11_fill.2.1 20 = .ok (.iload_n 2, 1) := by decide +kernel
theorem d_X11_fill_21 : decode m_X11_fill.2.1 21 = .ok (.iload_n 1, 1) := by decide +kernel
theorem d_X11_fill_22 : decode m_X11_fill.2.1 22 = .ok (.if_icmp .ge 60, 3) := by decide +kernel
theorem d_X11_fill_25 : decode m_X11_fill.2.1 25 = .ok (.aload_n 0, 1) := by decide +kernel
theorem d_X11_fill_26 : decode m_X11_fill.2.1 26 = .ok (.getfield 69, 3) := by decide +kernel
theorem d_X11_fill_29 : decode m_X11_fill.2.1 29 = .ok (.iload_n 2, 1) := by decide +kernel
theorem d_X11_fill_30 : decode m_X11_fill.2.1 30 = .ok (.dup2, 1) := by decide +kernel
theorem d_X11_fill_31 : decode m_X11_fill.2.1 31 = .ok (.iaload, 1) := by decide +kernel
theorem d_X11_fill_32 : decode m_X11_fill.2.1 32 = .ok (.iconst 1, 1) := by decide +kernel
theorem d_X11_fill_33 : decode m_X11_fill.2.1 33 = .ok (.aload_n 0, 1) := by decide +kernel
theorem d_X11_fill_34 : decode m_X11_fill.2.1 34 = .ok (.getfield 42, 3) := by decide +kernel
theorem d_X11_fill_37 : decode m_X11_fill.2.1 37 = .ok (.iload_n 2, 1) := by decide +kernel
theorem d_X11_fill_38 : decode m_X11_fill.2.1 38 = .ok (.iaload, 1) := by decide +kernel
theorem d_X11_fill_39 : decode m_X11_fill.2.1 39 = .ok (.ishl, 1) := by decide +kernel
theorem d_X11_fill_40 : decode m_X11_fill.2.1 40 = .ok (.ior, 1) := by decide +kernel
theorem d_X11_fill_41 : decode m_X11_fill.2.1 41 = .ok (.iastore, 1) := by decide +kernel
theorem d_X11_fill_42 : decode m_X11_fill.2.1 42 = .ok (.aload_n 0, 1) := by decide +kernel
theorem d_X11_fill_43 : decode m_X11_fill.2.1 43 = .ok (.getfield 72, 3) := by decide +kernel
theorem d_X11_fill_46 : decode m_X11_fill.2.1 46 = .ok (.iload_n 2, 1) := by decide +kernel
theorem d_X11_fill_47 : decode m_X11_fill.2.1 47 = .ok (.dup2, 1) := by decide +kernel
theorem d_X11_fill_48 : decode m_X11_fill.2.1 48 = .ok (.iaload, 1) := by decide +kernel
theorem d_X11_fill_49 : decode m_X11_fill.2.1 49 = .ok (.iconst 1, 1) := by decide +kernel
theorem d_X11_fill_50 : decode m_X11_fill.2.1 50 = .ok (.aload_n 0, 1) := by decide +kernel
theorem d_X11_fill_51 : decode m_X11_fill.2.1 51 = .ok (.getfield 45, 3) := by decide +kernel
theorem d_X11_fill_54 : decode m_X11_fill.2.1 54 = .ok (.iload_n 2, 1) := by decide +kernel
theorem d_X11_fill_55 : decode m_X11_fill.2.1 55 = .ok (.iaload, 1) := by decide +kernel
theorem d_X11_fill_56 : decode m_X11_fill.2.1 56 = .ok (.ishl, 1) := by decide +kernel
theorem d_X11_fill_57 : decode m_X11_fill.2.1 57 = .ok (.ior, 1) := by decide +kernel
theorem d_X11_fill_58 : decode m_X11_fill.2.1 58 = .ok (.iastore, 1) := by decide +kernel
theorem d_X11_fill_59 : decode m_X11_fill.2.1 59 = .ok (.aload_n 0, 1) := by decide +kernel
theorem d_X11_fill_60 : decode m_X11_fill.2.1 60 = .ok (.getfield 75, 3) := by decide +kernel
theorem d_X11_fill_63 : decode m_X11_fill.2.1 63 = .ok (.iload_n 2, 1) := by decide +kernel
theorem d_X11_fill_64 : decode m_X11_fill.2.1 64 = .ok (.dup2, 1) := by decide +kernel
theorem d_X11_fill_65 : decode m_X11_fill.2.1 65 = .ok (.iaload, 1) := by decide +kernel
theorem d_X11_fill_66 : decode m_X11_fill.2.1 66 = .ok (.iconst 1, 1) := by decide +kernel
theorem d_X11_fill_67 : decode m_X11_fill.2.1 67 = .ok (.aload_n 0, 1) := by decide +kernel
theorem d_X11_fill_68 : decode m_X11_fill.2.1 68 = .ok (.iconst 0, 1) := by decide +kernel
theorem d_X11_fill_69 : decode m_X11_fill.2.1 69 = .ok (.iload_n 2, 1) := by decide +kernel
theorem d_X11_fill_70 : decode m_X11_fill.2.1 70 = .ok (.invokevirtual 289, 3) := by decide +kernel
theorem d_X11_fill_73 : decode m_X11_fill.2.1 73 = .ok (.ishl, 1) := by decide +kernel
theorem d_X11_fill_74 : decode m_X11_fill.2.1 74 = .ok (.ior, 1) := by decide +kernel
theorem d_X11_fill_75 : decode m_X11_fill.2.1 75 = .ok (.iastore, 1) := by decide +kernel
theorem d_X11_fill_76 : decode m_X11_fill.2.1 76 = .ok (.iinc 2 1, 3) := by decide +kernel
theorem d_X11_fill_79 : decode m_X11_fill.2.1 79 = .ok (.goto (-59), 3) := by decide +kernel
theorem d_X11_fill_82 : decode m_X11_fill.2.1 82 = .ok (.return_, 1) := by decide +kernel
theorem d_X11_fill_83 : decode m_X11_fill.2.1 83 = .ok (.iconst 0, 1) := by decide +kernel
theorem d_X11_fill_84 : decode m_X11_fill.2.1 84 = .ok (.istore_n 2, 1) := by decide +kernel
theorem d_X11_fill_85 : decode m_X11_fill.2.1 85 = .ok (.iload_n 2, 1) := by decide +kernel
theorem d_X11_fill_86 : decode m_X11_fill.2.1 86 = .ok (.aload_n 0, 1) := by decide +kernel
theorem d_X11_fill_87 : decode m_X11_fill.2.1 87 = .ok (.getfield 13, 3) := by decide +kernel
theorem d_X11_fill_90 : decode m_X11_fill.2.1 90 = .ok (.iconst 0, 1) := by decide +kernel
theorem d_X11_fill_91 : decode m_X11_fill.2.1 91 = .ok (.iaload, 1) := by decide +kernel
theorem d_X11_fill_92 : decode m_X11_fill.2.1 92 = .ok (.if_icmp .ge 114, 3) := by decide +kernel
theorem d_X11_fill_95 : decode m_X11_fill.2.1 95 = .ok (.aload_n 0, 1) := by decide +kernel
theorem d_X11_fill_96 : decode m_X11_fill.2.1 96 = .ok (.getfield 66, 3) := by decide +kernel
theorem d_X11_fill_99 : decode m_X11_fill.2.1 99 = .ok (.iconst 2, 1) := by decide +kernel
theorem d_X11_fill_100 : decode m_X11_fill.2.1 100 = .ok (.iload_n 1, 1) := by decide +kernel
theorem d_X11_fill_101 : decode m_X11_fill.2.1 101 = .ok (.imul, 1) := by decide +kernel
theorem d_X11_fill_102 : decode m_X11_fill.2.1 102 = .ok (.iaload, 1) := by decide +kernel
theorem d_X11_fill_103 : decode m_X11_fill.2.1 103 = .ok (.iconst (-1), 1) := by decide +kernel
theorem d_X11_fill_104 : decode m_X11_fill.2.1 104 = .ok (.if_icmp .eq 18, 3) := by decide +kernel
theorem d_X11_fill_107 : decode m_X11_fill.2.1 107 = .ok (.aload_n 0, 1) := by decide +kernel
theorem d_X11_fill_108 : decode m_X11_fill.2.1 108 = .ok (.getfield 66, 3) := by decide +kernel
theorem d_X11_fill_111 : decode m_X11_fill.2.1 111 = .ok (.iconst 2, 1) := by decide +kernel
theorem d_X11_fill_112 : decode m_X11_fill.2.1 112 = .ok (.iload_n 1, 1) := by decide +kernel
theorem d_X11_fill_113 : decode m_X11_fill.2.1 113 = .ok (.imul, 1) := by decide +kernel
theorem d_X11_fill_114 : decode m_X11_fill.2.1 114 = .ok (.iaload, 1) := by decide +kernel
theorem d_X11_fill_115 : decode m_X11_fill.2.1 115 = .ok (.iload_n 2, 1) := by decide +kernel
theorem d_X11_fill_116 : decode m_X11_fill.2.1 116 = .ok (.if_icmp .eq 6, 3) := by decide +kernel
theorem d_X11_fill_119 : decode m_X11_fill.2.1 119 = .ok (.goto 81, 3) := by decide +kernel
theorem d_X11_fill_122 : decode m_X11_fill.2.1 122 = .ok (.iconst 0, 1) := by decide +kernel
theorem d_X11_fill_123 : decode m_X11_fill.2.1 123 = .ok (.istore_n 3, 1) := by decide +kernel
theorem d_X11_fill_124 : decode m_X11_fill.2.1 124 = .ok (.iload_n 3, 1) := by decide +kernel
theorem d_X11_fill_125 : decode m_X11_fill.2.1 125 = .ok (.aload_n 0, 1) := by decide +kernel
theorem d_X11_fill_126 : decode m_X11_fill.2.1 126 = .ok (.getfield 13, 3) := by decide +kernel
theorem d_X11_fill_129 : decode m_X11_fill.2.1 129 = .ok (.iconst 1, 1) := by decide +kernel
theorem d_X11_fill_130 : decode m_X11_fill.2.1 130 = .ok (.iaload, 1) := by decide +kernel
theorem d_X11_fill_131 : decode m_X11_fill.2.1 131 = .ok (.if_icmp .ge 69, 3) := by decide +kernel
theorem d_X11_fill_134 : decode m_X11_fill.2.1 134 = .ok (.aload_n 0, 1) := by decide +kernel
theorem d_X11_fill_135 : decode m_X11_fill.2.1 135 = .ok (.getfield 66, 3) := by decide +kernel
theorem d_X11_fill_138 : decode m_X11_fill.2.1 138 = .ok (.iconst 2, 1) := by decide +kernel
theorem d_X11_fill_139 : decode m_X11_fill.2.1 139 = .ok (.iload_n 1, 1) := by decide +kernel
theorem d_X11_fill_140 : decode m_X11_fill.2.1 140 = .ok (.imul, 1) := by decide +kernel
theorem d_X11_fill_141 : decode m_X11_fill.2.1 141 = .ok (.iconst 1, 1) := by decide +kernel
theorem d_X11_fill_142 : decode m_X11_fill.2.1 142 = .ok (.iadd, 1) := by decide +kernel
theorem d_X11_fill_143 : decode m_X11_fill.2.1 143 = .ok (.iaload, 1) := by decide +kernel
theorem d_X11_fill_144 : decode m_X11_fill.2.1 144 = .ok (.iconst (-1), 1) := by decide +kernel
theorem d_X11_fill_145 : decode m_X11_fill.2.1 145 = .ok (.if_icmp .eq 17, 3) := by decide +kernel
theorem d_X11_fill_148 : decode m_X11_fill.2.1 148 = .ok (.aload_n 0, 1) := by decide +kernel
theorem d_X11_fill_149 : decode m_X11_fill.2.1 149 = .ok (.getfield 66, 3) := by decide +kernel
theorem d_X11_fill_152 : decode m_X11_fill.2.1 152 = .ok (.iconst 2, 1) := by decide +kernel
theorem d_X11_fill_153 : decode m_X11_fill.2.1 153 = .ok (.iload_n 1, 1) := by decide +kernel
theorem d_X11_fill_154 : decode m_X11_fill.2.1 154 = .ok (.imul, 1) := by decide +kernel
theorem d_X11_fill_155 : decode m_X11_fill.2.1 155 = .ok (.iconst 1, 1) := by decide +kernel
theorem d_X11_fill_156 : decode m_X11_fill.2.1 156 = .ok (.iadd, 1) := by decide +kernel
theorem d_X11_fill_157 : decode m_X11_fill.2.1 157 = .ok (.iaload, 1) := by decide +kernel
theorem d_X11_fill_158 : decode m_X11_fill.2.1 158 = .ok (.iload_n 3, 1) := by decide +kernel
theorem d_X11_fill_159 : decode m_X11_fill.2.1 159 = .ok (.if_icmp .ne 35, 3) := by decide +kernel
theorem d_X11_fill_162 : decode m_X11_fill.2.1 162 = .ok (.aload_n 0, 1) := by decide +kernel
theorem d_X11_fill_163 : decode m_X11_fill.2.1 163 = .ok (.iconst 0, 1) := by decide +kernel
theorem d_X11_fill_164 : decode m_X11_fill.2.1 164 = .ok (.iload_n 2, 1) := by decide +kernel
theorem d_X11_fill_165 : decode m_X11_fill.2.1 165 = .ok (.iload_n 3, 1) := by decide +kernel
theorem d_X11_fill_166 : decode m_X11_fill.2.1 166 = .ok (.invokevirtual 273, 3) := by decide +kernel
theorem d_X11_fill_169 : decode m_X11_fill.2.1 169 = .ok (.ifCond .eq 6, 3) := by decide +kernel
theorem d_X11_fill_172 : decode m_X11_fill.2.1 172 = .ok (.goto 22, 3) := by decide +kernel
theorem d_X11_fill_175 : decode m_X11_fill.2.1 175 = .ok (.aload_n 0, 1) := by decide +kernel
theorem d_X11_fill_176 : decode m_X11_fill.2.1 176 = .ok (.iconst 0, 1) := by decide +kernel
theorem d_X11_fill_177 : decode m_X11_fill.2.1 177 = .ok (.iload_n 2, 1) := by decide +kernel
theorem d_X11_fill_178 : decode m_X11_fill.2.1 178 = .ok (.iload_n 3, 1) := by decide +kernel
theorem d_X11_fill_179 : decode m_X11_fill.2.1 179 = .ok (.invokevirtual 266, 3) := by decide +kernel
theorem d_X11_fill_182 : decode m_X11_fill.2.1 182 = .ok (.aload_n 0, 1) := by decide +kernel
theorem d_X11_fill_183 : decode m_X11_fill.2.1 183 = .ok (.iload_n 1, 1) := by decide +kernel
theorem d_X11_fill_184 : decode m_X11_fill.2.1 184 = .ok (.iconst 1, 1) := by decide +kernel
theorem d_X11_fill_185 : decode m_X11_fill.2.1 185 = .ok (.iadd, 1) := by decide +kernel
theorem d_X11_fill_186 : decode m_X11_fill.2.1 186 = .ok (.invokevirtual 323, 3) := by decide +kernel
theorem d_X11_fill_189 : decode m_X11_fill.2.1 189 = .ok (.aload_n 0, 1) := by decide +kernel
theorem d_X11_fill_190 : decode m_X11_fill.2.1 190 = .ok (.iconst 0, 1) := by decide +kernel
theorem d_X11_fill_191 : decode m_X11_fill.2.1 191 = .ok (.invokevirtual 326, 3) := by decide +kernel
theorem d_X11_fill_194 : decode m_X11_fill.2.1 194 = .ok (.iinc 3 1, 3) := by decide +kernel
theorem d_X11_fill_197 : decode m_X11_fill.2.1 197 = .ok (.goto (-73), 3) := by decide +kernel
theorem d_X11_fill_200 : decode m_X11_fill.2.1 200 = .ok (.iinc 2 1, 3) := by decide +kernel
theorem d_X11_fill_203 : decode m_X11_fill.2.1 203 = .ok (.goto (-118), 3) := by decide +kernel
theorem d_X11_fill_206 : decode m_X11_fill.2.1 206 = .ok (.return_, 1) := by decide +kernel
set_option maxRecDepth 20000 in
theorem e_X11_fill {E : jm_E} {d : Nat} {μ : jm_M} {Q : Option jm_V → jm_M → Prop} {v1 : Int} (h : (∀ v ∈ ([jm_R 133, jm_I v1] : List jm_V), jm_ok v) →
  ((v1 ≠ μ 133 42 →
    jg E m_X11_fill d 85 [some (jm_R 133), some (jm_I v1), some (jm_I 0), none] [] μ Q) ∧
   (¬ (v1 ≠ μ 133 42) →
    jg E m_X11_fill d 20 [some (jm_R 133), some (jm_I v1), some (jm_I 0), none] [] (jm_up μ 133 43 (jm_wr ((μ 133 43) + 1))) Q))) : jc E m_X11_fill (d + 1) [jm_R 133, jm_I v1] μ Q := by
  refine jm_Cl.of2 (by decide +kernel) (L0 := [some (jm_R 133), some (jm_I v1), none, none]) rfl (Nat.le_of_ble_eq_true rfl) (fun hok => ?_)
  have h := h hok
  refine jm_iloadn d_X11_fill_0 rfl ?_
  refine jm_aloadn d_X11_fill_1 rfl ?_
  refine jm_getI (k := 42) (ki := 42) cf_X11 (Nat.le_of_ble_eq_true rfl) f_X11_317 d_X11_fill_2 rfl rfl is_133 rfl ?_
  refine jm_icmp_ne (tgt := 83) d_X11_fill_5 (by decide) (fun c1 => ?_) (fun c1 => ?_)
  · have h := h.1 c1
    refine jm_iconst (v := 0) d_X11_fill_83 rfl (jm_okI (by decide) (by decide)) ?_
    refine jm_istoren (L' := [some (jm_R _), some (jm_I _), some (jm_I _), none]) d_X11_fill_84 (Nat.le_of_ble_eq_true rfl) rfl ?_
    exact h
  · have h := h.2 c1
    refine jm_aloadn d_X11_fill_8 rfl ?_
    refine jm_dup rfl d_X11_fill_9 ?_
    refine jm_getI (k := 43) (ki := 43) cf_X11 (Nat.le_of_ble_eq_true rfl) f_X11_320 d_X11_fill_10 rfl rfl is_133 rfl ?_
    refine jm_iconst (v := 1) d_X11_fill_13 rfl (jm_okI (by decide) (by decide)) ?_
    refine jm_iadd d_X11_fill_14 ?_
    refine jm_putI (k := 43) (ki := 43) cf_X11 (Nat.le_of_ble_eq_true rfl) f_X11_320 d_X11_fill_15 (fun z => absurd z (by decide)) rfl rfl rfl (fun _ => rfl) is_133 ?_
    refine jm_iconst (v := 0) d_X11_fill_18 rfl (jm_okI (by decide) (by decide)) ?_
    refine jm_istoren (L' := [some (jm_R _), some (jm_I _), some (jm_I _), none]) d_X11_fill_19 (Nat.le_of_ble_eq_true rfl) rfl ?_
    exact h
set_option maxRecDepth 20000 in
theorem r_X11_fill_20 {E : jm_E} {d : Nat} {μ : jm_M} {Q : Option jm_V → jm_M → Prop} {v1 v2 : Int} (h :
  ((v1 ≤ v2 →
    Q none μ) ∧
   (¬ (v1 ≤ v2) →
    (0 ≤ v2 ∧ v2 < 24) ∧
    (0 ≤ v2 ∧ v2 < 800) ∧
    ∀ m4 : jm_M, m4 = (jm_up μ 153 v2 (jm_or (μ 153 v2) (jm_shl 1 (μ 144 v2)))) →
    ∀ m5 : jm_M, m5 = (jm_up m4 154 v2 (jm_or (m4 154 v2) (jm_shl 1 (m4 145 v2)))) →
    jc E m_X11_stateOf d [jm_R 133, jm_I 0, jm_I v2] m5 (fun (o : Option jm_V) (m6 : jm_M) => ∀ r7 : Int, o = some (jm_I r7) →
    ∀ m8 : jm_M, m8 = (jm_up m6 155 v2 (jm_or (m5 155 v2) (jm_shl 1 r7))) →
    jg E m_X11_fill d 20 [some (jm_R 133), some (jm_I v1), some (jm_I (jm_wr (v2 + 1))), none] [] m8 Q)))) : jg E m_X11_fill d 20 [some (jm_R 133), some (jm_I v1), some (jm_I v2), none] [] μ Q := by
  refine jm_iloadn d_X11_fill_20 rfl ?_
  refine jm_iloadn d_X11_fill_21 rfl ?_
  refine jm_icmp_ge (tgt := 82) d_X11_fill_22 (by decide) (fun c1 => ?_) (fun c1 => ?_)
  · have h := h.1 c1
    exact jm_ret (o := none) d_X11_fill_82 rfl ⟨Nat.le_refl _, Nat.le_refl _⟩ jm_r_V h rfl
  · have h := h.2 c1
    refine jm_aloadn d_X11_fill_25 rfl ?_
    refine jm_getF (k := 36) (ki := 36) rfl cf_X11 (Nat.le_of_ble_eq_true rfl) f_X11_69 d_X11_fill_26 rfl rfl is_133 fr_133_36 ?_
    refine jm_iloadn d_X11_fill_29 rfl ?_
    refine jm_dup2 rfl rfl d_X11_fill_30 ?_
    obtain ⟨f2, h⟩ := h
    refine jm_iaload d_X11_fill_31 (ixl_153 f2.1 f2.2) ?_
    refine jm_iconst (v := 1) d_X11_fill_32 rfl (jm_okI (by decide) (by decide)) ?_
    refine jm_aloadn d_X11_fill_33 rfl ?_
    refine jm_getF (k := 23) (ki := 23) rfl cf_X11 (Nat.le_of_ble_eq_true rfl) f_X11_42 d_X11_fill_34 rfl rfl is_133 fr_133_23 ?_
    refine jm_iloadn d_X11_fill_37 rfl ?_
    obtain ⟨f3, h⟩ := h
    refine jm_iaload d_X11_fill_38 (ixl_144 f3.1 f3.2) ?_
    refine jm_ishl d_X11_fill_39 ?_
    refine jm_ior d_X11_fill_40 ?_
    refine jm_iastore d_X11_fill_41 (ixl_153 f2.1 f2.2) ?_
    have h := h _ rfl
    refine jm_aloadn d_X11_fill_42 rfl ?_
    refine jm_getF (k := 37) (ki := 37) rfl cf_X11 (Nat.le_of_ble_eq_true rfl) f_X11_72 d_X11_fill_43 rfl rfl is_133 fr_133_37 ?_
    refine jm_iloadn d_X11_fill_46 rfl ?_
    refine jm_dup2 rfl rfl d_X11_fill_47 ?_
    refine jm_iaload d_X11_fill_48 (ixl_154 f2.1 f2.2) ?_
    refine jm_iconst (v := 1) d_X11_fill_49 rfl (jm_okI (by decide) (by decide)) ?_
    refine jm_aloadn d_X11_fill_50 rfl ?_
    refine jm_getF (k := 24) (ki := 24) rfl cf_X11 (Nat.le_of_ble_eq_true rfl) f_X11_45 d_X11_fill_51 rfl rfl is_133 fr_133_24 ?_
    refine jm_iloadn d_X11_fill_54 rfl ?_
    refine jm_iaload d_X11_fill_55 (ixl_145 f3.1 f3.2) ?_
    refine jm_ishl d_X11_fill_56 ?_
    refine jm_ior d_X11_fill_57 ?_
    refine jm_iastore d_X11_fill_58 (ixl_154 f2.1 f2.2) ?_
    have h := h _ rfl
    refine jm_aloadn d_X11_fill_59 rfl ?_
    refine jm_getF (k := 38) (ki := 38) rfl cf_X11 (Nat.le_of_ble_eq_true rfl) f_X11_75 d_X11_fill_60 rfl rfl is_133 fr_133_38 ?_
    refine jm_iloadn d_X11_fill_63 rfl ?_
    refine jm_dup2 rfl rfl d_X11_fill_64 ?_
    refine jm_iaload d_X11_fill_65 (ixl_155 f2.1 f2.2) ?_
    refine jm_iconst (v := 1) d_X11_fill_66 rfl (jm_okI (by decide) (by decide)) ?_
    refine jm_aloadn d_X11_fill_67 rfl ?_
    refine jm_iconst (v := 0) d_X11_fill_68 rfl (jm_okI (by decide) (by decide)) ?_
    refine jm_iloadn d_X11_fill_69 rfl ?_
    refine jm_invV (n1 := jm_N) (mc := 0) (ms := 0) (av := [jm_I _, jm_I _]) w_X11_stateOf l_X11_289 d_X11_fill_70 rfl is_133 ⟨_, _, rfl⟩ ⟨Nat.le_refl _, Nat.le_refl _⟩ (Nat.le_of_ble_eq_true rfl) rfl ?_
    refine jm_Cl.mono h (fun o m6 h hr _ => ?_)
    obtain ⟨r7, rfl⟩ := jm_rokI hr
    have h := h _ rfl
    refine jm_ishl d_X11_fill_73 ?_
    refine jm_ior d_X11_fill_74 ?_
    refine jm_iastore d_X11_fill_75 (ixl_155 f2.1 f2.2) ?_
    have h := h _ rfl
    refine jm_iinc (L' := [some (jm_R _), some (jm_I _), some (jm_I _), none]) d_X11_fill_76 rfl rfl (Nat.le_of_ble_eq_true rfl) rfl ?_
    refine jm_goto (tgt := 20) d_X11_fill_79 (by decide) ?_
    exact h
set_option maxRecDepth 20000 in
theorem r_X11_fill_85 {E : jm_E} {d : Nat} {μ : jm_M} {Q : Option jm_V → jm_M → Prop} {v1 v2 : Int} (h :
  ((μ 135 0 ≤ v2 →
    Q none μ) ∧
   (¬ (μ 135 0 ≤ v2) →
    (0 ≤ jm_wr (2 * v1) ∧ jm_wr (2 * v1) < 48) ∧
    (((μ 152 (jm_wr (2 * v1))) = ((-1)) →
      jg E m_X11_fill d 124 [some (jm_R 133), some (jm_I v1), some (jm_I v2), some (jm_I 0)] [] μ Q) ∧
     (¬ ((μ 152 (jm_wr (2 * v1))) = ((-1))) →
      (((μ 152 (jm_wr (2 * v1))) = v2 →
        jg E m_X11_fill d 124 [some (jm_R 133), some (jm_I v1), some (jm_I v2), some (jm_I 0)] [] μ Q) ∧
       (¬ ((μ 152 (jm_wr (2 * v1))) = v2) →
        jg E m_X11_fill d 85 [some (jm_R 133), some (jm_I v1), some (jm_I (jm_wr (v2 + 1))), none] [] μ Q))))))) : jg E m_X11_fill d 85 [some (jm_R 133), some (jm_I v1), some (jm_I v2), none] [] μ Q := by
  refine jm_iloadn d_X11_fill_85 rfl ?_
  refine jm_aloadn d_X11_fill_86 rfl ?_
  refine jm_getF (k := 14) (ki := 14) rfl cf_X11 (Nat.le_of_ble_eq_true rfl) f_X11_13 d_X11_fill_87 rfl rfl is_133 fr_133_14 ?_
  refine jm_iconst (v := 0) d_X11_fill_90 rfl (jm_okI (by decide) (by decide)) ?_
  refine jm_iaload d_X11_fill_91 (ixl_135 (by decide) (by decide)) ?_
  refine jm_icmp_ge (tgt := 206) d_X11_fill_92 (by decide) (fun c1 => ?_) (fun c1 => ?_)
  · have h := h.1 c1
    exact jm_ret (o := none) d_X11_fill_206 rfl ⟨Nat.le_refl _, Nat.le_refl _⟩ jm_r_V h rfl
  · have h := h.2 c1
    refine jm_aloadn d_X11_fill_95 rfl ?_
    refine jm_getF (k := 35) (ki := 35) rfl cf_X11 (Nat.le_of_ble_eq_true rfl) f_X11_66 d_X11_fill_96 rfl rfl is_133 fr_133_35 ?_
    refine jm_iconst (v := 2) d_X11_fill_99 rfl (jm_okI (by decide) (by decide)) ?_
    refine jm_iloadn d_X11_fill_100 rfl ?_
    refine jm_imul d_X11_fill_101 ?_
    obtain ⟨f2, h⟩ := h
    refine jm_iaload d_X11_fill_102 (ixl_152 f2.1 f2.2) ?_
    refine jm_iconst (v := (-1)) d_X11_fill_103 rfl (jm_okI (by decide) (by decide)) ?_
    refine jm_icmp_eq (tgt := 122) d_X11_fill_104 (by decide) (fun c3 => ?_) (fun c3 => ?_)
    · have h := h.1 c3
      refine jm_iconst (v := 0) d_X11_fill_122 rfl (jm_okI (by decide) (by decide)) ?_
      refine jm_istoren (L' := [some (jm_R _), some (jm_I _), some (jm_I _), some (jm_I _)]) d_X11_fill_123 (Nat.le_of_ble_eq_true rfl) rfl ?_
      exact h
    · have h := h.2 c3
      refine jm_aloadn d_X11_fill_107 rfl ?_
      refine jm_getF (k := 35) (ki := 35) rfl cf_X11 (Nat.le_of_ble_eq_true rfl) f_X11_66 d_X11_fill_108 rfl rfl is_133 fr_133_35 ?_
      refine jm_iconst (v := 2) d_X11_fill_111 rfl (jm_okI (by decide) (by decide)) ?_
      refine jm_iloadn d_X11_fill_112 rfl ?_
      refine jm_imul d_X11_fill_113 ?_
      refine jm_iaload d_X11_fill_114 (ixl_152 f2.1 f2.2) ?_
      refine jm_iloadn d_X11_fill_115 rfl ?_
      refine jm_icmp_eq (tgt := 122) d_X11_fill_116 (by decide) (fun c4 => ?_) (fun c4 => ?_)
      · have h := h.1 c4
        refine jm_iconst (v := 0) d_X11_fill_122 rfl (jm_okI (by decide) (by decide)) ?_
        refine jm_istoren (L' := [some (jm_R _), some (jm_I _), some (jm_I _), some (jm_I _)]) d_X11_fill_123 (Nat.le_of_ble_eq_true rfl) rfl ?_
        exact h
      · have h := h.2 c4
        refine jm_goto (tgt := 200) d_X11_fill_119 (by decide) ?_
        refine jm_iinc (L' := [some (jm_R _), some (jm_I _), some (jm_I _), none]) d_X11_fill_200 rfl rfl (Nat.le_of_ble_eq_true rfl) rfl ?_
        refine jm_goto (tgt := 85) d_X11_fill_203 (by decide) ?_
        exact h
set_option maxRecDepth 20000 in
theorem r_X11_fill_124 {E : jm_E} {d : Nat} {μ : jm_M} {Q : Option jm_V → jm_M → Prop} {v1 v2 v3 : Int} (h :
  ((μ 135 1 ≤ v3 →
    jg E m_X11_fill d 85 [some (jm_R 133), some (jm_I v1), some (jm_I (jm_wr (v2 + 1))), none] [] μ Q) ∧
   (¬ (μ 135 1 ≤ v3) →
    (0 ≤ jm_wr ((jm_wr (2 * v1)) + 1) ∧ jm_wr ((jm_wr (2 * v1)) + 1) < 48) ∧
    (((μ 152 (jm_wr ((jm_wr (2 * v1)) + 1))) = ((-1)) →
      jg E m_X11_fill d 162 [some (jm_R 133), some (jm_I v1), some (jm_I v2), some (jm_I v3)] [] μ Q) ∧
     (¬ ((μ 152 (jm_wr ((jm_wr (2 * v1)) + 1))) = ((-1))) →
      (((μ 152 (jm_wr ((jm_wr (2 * v1)) + 1))) ≠ v3 →
        jg E m_X11_fill d 124 [some (jm_R 133), some (jm_I v1), some (jm_I v2), some (jm_I (jm_wr (v3 + 1)))] [] μ Q) ∧
       (¬ ((μ 152 (jm_wr ((jm_wr (2 * v1)) + 1))) ≠ v3) →
        jg E m_X11_fill d 162 [some (jm_R 133), some (jm_I v1), some (jm_I v2), some (jm_I v3)] [] μ Q))))))) : jg E m_X11_fill d 124 [some (jm_R 133), some (jm_I v1), some (jm_I v2), some (jm_I v3)] [] μ Q := by
  refine jm_iloadn d_X11_fill_124 rfl ?_
  refine jm_aloadn d_X11_fill_125 rfl ?_
  refine jm_getF (k := 14) (ki := 14) rfl cf_X11 (Nat.le_of_ble_eq_true rfl) f_X11_13 d_X11_fill_126 rfl rfl is_133 fr_133_14 ?_
  refine jm_iconst (v := 1) d_X11_fill_129 rfl (jm_okI (by decide) (by decide)) ?_
  refine jm_iaload d_X11_fill_130 (ixl_135 (by decide) (by decide)) ?_
  refine jm_icmp_ge (tgt := 200) d_X11_fill_131 (by decide) (fun c1 => ?_) (fun c1 => ?_)
  · have h := h.1 c1
    refine jm_iinc (L' := [some (jm_R _), some (jm_I _), some (jm_I _), some (jm_I _)]) d_X11_fill_200 rfl rfl (Nat.le_of_ble_eq_true rfl) rfl ?_
    refine jm_goto (tgt := 85) d_X11_fill_203 (by decide) ?_
    exact jm_weak2 h (And.intro rfl (And.intro rfl (And.intro rfl trivial)))
  · have h := h.2 c1
    refine jm_aloadn d_X11_fill_134 rfl ?_
    refine jm_getF (k := 35) (ki := 35) rfl cf_X11 (Nat.le_of_ble_eq_true rfl) f_X11_66 d_X11_fill_135 rfl rfl is_133 fr_133_35 ?_
    refine jm_iconst (v := 2) d_X11_fill_138 rfl (jm_okI (by decide) (by decide)) ?_
    refine jm_iloadn d_X11_fill_139 rfl ?_
    refine jm_imul d_X11_fill_140 ?_
    refine jm_iconst (v := 1) d_X11_fill_141 rfl (jm_okI (by decide) (by decide)) ?_
    refine jm_iadd d_X11_fill_142 ?_
    obtain ⟨f2, h⟩ := h
    refine jm_iaload d_X11_fill_143 (ixl_152 f2.1 f2.2) ?_
    refine jm_iconst (v := (-1)) d_X11_fill_144 rfl (jm_okI (by decide) (by decide)) ?_
    refine jm_icmp_eq (tgt := 162) d_X11_fill_145 (by decide) (fun c3 => ?_) (fun c3 => ?_)
    · have h := h.1 c3
      exact h
    · have h := h.2 c3
      refine jm_aloadn d_X11_fill_148 rfl ?_
      refine jm_getF (k := 35) (ki := 35) rfl cf_X11 (Nat.le_of_ble_eq_true rfl) f_X11_66 d_X11_fill_149 rfl rfl is_133 fr_133_35 ?_
      refine jm_iconst (v := 2) d_X11_fill_152 rfl (jm_okI (by decide) (by decide)) ?_
      refine jm_iloadn d_X11_fill_153 rfl ?_
      refine jm_imul d_X11_fill_154 ?_
      refine jm_iconst (v := 1) d_X11_fill_155 rfl (jm_okI (by decide) (by decide)) ?_
      refine jm_iadd d_X11_fill_156 ?_
      refine jm_iaload d_X11_fill_157 (ixl_152 f2.1 f2.2) ?_
      refine jm_iloadn d_X11_fill_158 rfl ?_
      refine jm_icmp_ne (tgt := 194) d_X11_fill_159 (by decide) (fun c4 => ?_) (fun c4 => ?_)
      · have h := h.1 c4
        refine jm_iinc (L' := [some (jm_R _), some (jm_I _), some (jm_I _), some (jm_I _)]) d_X11_fill_194 rfl rfl (Nat.le_of_ble_eq_true rfl) rfl ?_
        refine jm_goto (tgt := 124) d_X11_fill_197 (by decide) ?_
        exact h
      · have h := h.2 c4
        exact h
set_option maxRecDepth 20000 in
theorem r_X11_fill_162 {E : jm_E} {d : Nat} {μ : jm_M} {Q : Option jm_V → jm_M → Prop} {v1 v2 v3 : Int} (h :
  jc E m_X11_wrongOf d [jm_R 133, jm_I 0, jm_I v2, jm_I v3] μ (fun (o : Option jm_V) (m1 : jm_M) => ∀ r2 : Int, o = some (jm_I r2) →
  ((r2 = 0 →
    jc E m_X11_push d [jm_R 133, jm_I 0, jm_I v2, jm_I v3] m1 (fun (o : Option jm_V) (m4 : jm_M) => o = none →
    jc E m_X11_fill d [jm_R 133, jm_I (jm_wr (v1 + 1))] m4 (fun (o : Option jm_V) (m5 : jm_M) => o = none →
    jc E m_X11_pop d [jm_R 133, jm_I 0] m5 (fun (o : Option jm_V) (m6 : jm_M) => o = none →
    jg E m_X11_fill d 124 [some (jm_R 133), some (jm_I v1), some (jm_I v2), some (jm_I (jm_wr (v3 + 1)))] [] m6 Q)))) ∧
   (¬ (r2 = 0) →
    jg E m_X11_fill d 124 [some (jm_R 133), some (jm_I v1), some (jm_I v2), some (jm_I (jm_wr (v3 + 1)))] [] m1 Q)))) : jg E m_X11_fill d 162 [some (jm_R 133), some (jm_I v1), some (jm_I v2), some (jm_I v3)] [] μ Q := by
  refine jm_aloadn d_X11_fill_162 rfl ?_
  refine jm_iconst (v := 0) d_X11_fill_163 rfl (jm_okI (by decide) (by decide)) ?_
  refine jm_iloadn d_X11_fill_164 rfl ?_
  refine jm_iloadn d_X11_fill_165 rfl ?_
  refine jm_invV (n1 := jm_N) (mc := 0) (ms := 0) (av := [jm_I _, jm_I _, jm_I _]) w_X11_wrongOf l_X11_273 d_X11_fill_166 rfl is_133 ⟨_, _, rfl⟩ ⟨Nat.le_refl _, Nat.le_refl _⟩ (Nat.le_of_ble_eq_true rfl) rfl ?_
  refine jm_Cl.mono h (fun o m1 h hr _ => ?_)
  obtain ⟨r2, rfl⟩ := jm_rokI hr
  have h := h _ rfl
  refine jm_if_eq (tgt := 175) d_X11_fill_169 (by decide) (fun c3 => ?_) (fun c3 => ?_)
  · have h := h.1 c3
    refine jm_aloadn d_X11_fill_175 rfl ?_
    refine jm_iconst (v := 0) d_X11_fill_176 rfl (jm_okI (by decide) (by decide)) ?_
    refine jm_iloadn d_X11_fill_177 rfl ?_
    refine jm_iloadn d_X11_fill_178 rfl ?_
    refine jm_invV (n1 := jm_N) (mc := 0) (ms := 0) (av := [jm_I _, jm_I _, jm_I _]) w_X11_push l_X11_266 d_X11_fill_179 rfl is_133 ⟨_, _, rfl⟩ ⟨Nat.le_refl _, Nat.le_refl _⟩ (Nat.le_of_ble_eq_true rfl) rfl ?_
    refine jm_Cl.mono h (fun o m4 h hr _ => ?_)
    obtain rfl := jm_rokV hr
    have h := h rfl
    refine jm_aloadn d_X11_fill_182 rfl ?_
    refine jm_iloadn d_X11_fill_183 rfl ?_
    refine jm_iconst (v := 1) d_X11_fill_184 rfl (jm_okI (by decide) (by decide)) ?_
    refine jm_iadd d_X11_fill_185 ?_
    refine jm_invV (n1 := jm_N) (mc := 0) (ms := 0) (av := [jm_I _]) w_X11_fill l_X11_323 d_X11_fill_186 rfl is_133 ⟨_, _, rfl⟩ ⟨Nat.le_refl _, Nat.le_refl _⟩ (Nat.le_of_ble_eq_true rfl) rfl ?_
    refine jm_Cl.mono h (fun o m5 h hr _ => ?_)
    obtain rfl := jm_rokV hr
    have h := h rfl
    refine jm_aloadn d_X11_fill_189 rfl ?_
    refine jm_iconst (v := 0) d_X11_fill_190 rfl (jm_okI (by decide) (by decide)) ?_
    refine jm_invV (n1 := jm_N) (mc := 0) (ms := 0) (av := [jm_I _]) w_X11_pop l_X11_326 d_X11_fill_191 rfl is_133 ⟨_, _, rfl⟩ ⟨Nat.le_refl _, Nat.le_refl _⟩ (Nat.le_of_ble_eq_true rfl) rfl ?_
    refine jm_Cl.mono h (fun o m6 h hr _ => ?_)
    obtain rfl := jm_rokV hr
    have h := h rfl
    refine jm_iinc (L' := [some (jm_R _), some (jm_I _), some (jm_I _), some (jm_I _)]) d_X11_fill_194 rfl rfl (Nat.le_of_ble_eq_true rfl) rfl ?_
    refine jm_goto (tgt := 124) d_X11_fill_197 (by decide) ?_
    exact h
  · have h := h.2 c3
    refine jm_goto (tgt := 194) d_X11_fill_172 (by decide) ?_
    refine jm_iinc (L' := [some (jm_R _), some (jm_I _), some (jm_I _), some (jm_I _)]) d_X11_fill_194 rfl rfl (Nat.le_of_ble_eq_true rfl) rfl ?_
    refine jm_goto (tgt := 124) d_X11_fill_197 (by decide) ?_
    exact h
/-! ('CombTableModel', 'fillings', '(II)I') -/
theorem d_X11_fillings_0 : decode m_X11_fillings.2.1 0 = .ok (.iload_n 1, 1) := by decide +kernel
theorem d_X11_fillings_1 : decode m_X11_fillings.2.1 1 = .ok (.istore_n 3, 1) := by decide +kernel
theorem d_X11_fillings_2 : decode m_X11_fillings.2.1 2 = .ok (.iconst 0, 1) := by decide +kernel
theorem d_X11_fillings_3 : decode m_X11_fillings.2.1 3 = .ok (.istore 4, 2) := by decide +kernel
theorem d_X11_fillings_5 : decode m_X11_fillings.2.1 5 = .ok (.iload 4, 2) := by decide +kernel
theorem d_X11_fillings_7 : decode m_X11_fillings.2.1 7 = .ok (.iconst 2, 1) := by decide +kernel
theorem d_X11_fillings_8 : decode m_X11_fillings.2.1 8 = .ok (.aload_n 0, 1) := by decide +kernel
theorem d_X11_fillings_9 : decode m_X11_fillings.2.1 9 = .ok (.getfield 13, 3) := by decide +kernel
theorem d_X11_fillings_12 : decode m_X11_fillings.2.1 12 = .ok (.sipush 861, 3) := by decide +kernel
theorem d_X11_fillings_15 : decode m_X11_fillings.2.1 15 = .ok (.iaload, 1) := by decide +kernel
theorem d_X11_fillings_16 : decode m_X11_fillings.2.1 16 = .ok (.imul, 1) := by decide +kernel
theorem d_X11_fillings_17 : decode m_X11_fillings.2.1 17 = .ok (.if_icmp .ge 61, 3) := by decide +kernel
theorem d_X11_fillings_20 : decode m_X11_fillings.2.1 20 = .ok (.aload_n 0, 1) := by decide +kernel
theorem d_X11_fillings_21 : decode m_X11_fillings.2.1 21 = .ok (.getfield 13, 3) := by decide +kernel
theorem d_X11_fillings_24 : decode m_X11_fillings.2.1 24 = .ok (.sipush 862, 3) := by decide +kernel
theorem d_X11_fillings_27 : decode m_X11_fillings.2.1 27 = .ok (.iload 4, 2) := by decide +kernel
theorem d_X11_fillings_29 : decode m_X11_fillings.2.1 29 = .ok (.iadd, 1) := by decide +kernel
theorem d_X11_fillings_30 : decode m_X11_fillings.2.1 30 = .ok (.iaload, 1) := by decide +kernel
theorem d_X11_fillings_31 : decode m_X11_fillings.2.1 31 = .ok (.iconst (-1), 1) := by decide +kernel
theorem d_X11_fillings_32 : decode m_X11_fillings.2.1 32 = .ok (.if_icmp .eq 6, 3) := by decide +kernel
theorem d_X11_fillings_35 : decode m_X11_fillings.2.1 35 = .ok (.goto 37, 3) := by decide +kernel
theorem d_X11_fillings_38 : decode m_X11_fillings.2.1 38 = .ok (.iload_n 3, 1) := by decide +kernel
theorem d_X11_fillings_39 : decode m_X11_fillings.2.1 39 = .ok (.iload 4, 2) := by decide +kernel
theorem d_X11_fillings_41 : decode m_X11_fillings.2.1 41 = .ok (.iconst 2, 1) := by decide +kernel
theorem d_X11_fillings_42 : decode m_X11_fillings.2.1 42 = .ok (.irem, 1) := by decide +kernel
theorem d_X11_fillings_43 : decode m_X11_fillings.2.1 43 = .ok (.ifCond .ne 12, 3) := by decide +kernel
theorem d_X11_fillings_46 : decode m_X11_fillings.2.1 46 = .ok (.aload_n 0, 1) := by decide +kernel
theorem d_X11_fillings_47 : decode m_X11_fillings.2.1 47 = .ok (.getfield 13, 3) := by decide +kernel
theorem d_X11_fillings_50 : decode m_X11_fillings.2.1 50 = .ok (.iconst 0, 1) := by decide +kernel
theorem d_X11_fillings_51 : decode m_X11_fillings.2.1 51 = .ok (.iaload, 1) := by decide +kernel
theorem d_X11_fillings_52 : decode m_X11_fillings.2.1 52 = .ok (.goto 9, 3) := by decide +kernel
theorem d_X11_fillings_55 : decode m_X11_fillings.2.1 55 = .ok (.aload_n 0, 1) := by decide +kernel
theorem d_X11_fillings_56 : decode m_X11_fillings.2.1 56 = .ok (.getfield 13, 3) := by decide +kernel
theorem d_X11_fillings_59 : decode m_X11_fillings.2.1 59 = .ok (.iconst 1, 1) := by decide +kernel
theorem d_X11_fillings_60 : decode m_X11_fillings.2.1 60 = .ok (.iaload, 1) := by decide +kernel
theorem d_X11_fillings_61 : decode m_X11_fillings.2.1 61 = .ok (.imul, 1) := by decide +kernel
theorem d_X11_fillings_62 : decode m_X11_fillings.2.1 62 = .ok (.istore_n 3, 1) := by decide +kernel
theorem d_X11_fillings_63 : decode m_X11_fillings.2.1 63 = .ok (.iload_n 3, 1) := by decide +kernel
theorem d_X11_fillings_64 : decode m_X11_fillings.2.1 64 = .ok (.iload_n 2, 1) := by decide +kernel
theorem d_X11_fillings_65 : decode m_X11_fillings.2.1 65 = .ok (.if_icmp .le 7, 3) := by decide +kernel
theorem d_X11_fillings_68 : decode m_X11_fillings.2.1 68 = .ok (.iload_n 2, 1) := by decide +kernel
theorem d_X11_fillings_69 : decode m_X11_fillings.2.1 69 = .ok (.iconst 1, 1) := by decide +kernel
theorem d_X11_fillings_70 : decode m_X11_fillings.2.1 70 = .ok (.iadd, 1) := by decide +kernel
theorem d_X11_fillings_71 : decode m_X11_fillings.2.1 71 = .ok (.ireturn, 1) := by decide +kernel
theorem d_X11_fillings_72 : decode m_X11_fillings.2.1 72 = .ok (.iinc 4 1, 3) := by decide +kernel
theorem d_X11_fillings_75 : decode m_X11_fillings.2.1 75 = .ok (.goto (-70), 3) := by decide +kernel
theorem d_X11_fillings_78 : decode m_X11_fillings.2.1 78 = .ok (.iload_n 3, 1) := by decide +kernel
theorem d_X11_fillings_79 : decode m_X11_fillings.2.1 79 = .ok (.iload_n 2, 1) := by decide +kernel
theorem d_X11_fillings_80 : decode m_X11_fillings.2.1 80 = .ok (.if_icmp .le 9, 3) := by decide +kernel
theorem d_X11_fillings_83 : decode m_X11_fillings.2.1 83 = .ok (.iload_n 2, 1) := by decide +kernel
theorem d_X11_fillings_84 : decode m_X11_fillings.2.1 84 = .ok (.iconst 1, 1) := by decide +kernel
theorem d_X11_fillings_85 : decode m_X11_fillings.2.1 85 = .ok (.iadd, 1) := by decide +kernel
theorem d_X11_fillings_86 : decode m_X11_fillings.2.1 86 = .ok (.goto 4, 3) := by decide +kernel
theorem d_X11_fillings_89 : decode m_X11_fillings.2.1 89 = .ok (.iload_n 3, 1) := by decide +kernel
theorem d_X11_fillings_90 : decode m_X11_fillings.2.1 90 = .ok (.ireturn, 1) := by decide +kernel
set_option maxRecDepth 20000 in
theorem e_X11_fillings {E : jm_E} {d : Nat} {μ : jm_M} {Q : Option jm_V → jm_M → Prop} {v1 v2 : Int} (h : (∀ v ∈ ([jm_R 133, jm_I v1, jm_I v2] : List jm_V), jm_ok v) →
  jg E m_X11_fillings d 5 [some (jm_R 133), none, some (jm_I v2), some (jm_I v1), some (jm_I 0)] [] μ Q) : jc E m_X11_fillings (d + 1) [jm_R 133, jm_I v1, jm_I v2] μ Q := by
  refine jm_Cl.of2 (by decide +kernel) (L0 := [some (jm_R 133), some (jm_I v1), some (jm_I v2), none, none]) rfl (Nat.le_of_ble_eq_true rfl) (fun hok => ?_)
  have h := h hok
  refine jm_iloadn d_X11_fillings_0 rfl ?_
  refine jm_istoren (L' := [some (jm_R _), some (jm_I _), some (jm_I _), some (jm_I _), none]) d_X11_fillings_1 (Nat.le_of_ble_eq_true rfl) rfl ?_
  refine jm_iconst (v := 0) d_X11_fillings_2 rfl (jm_okI (by decide) (by decide)) ?_
  refine jm_istore (L' := [some (jm_R _), some (jm_I _), some (jm_I _), some (jm_I _), some (jm_I _)]) d_X11_fillings_3 (Nat.le_of_ble_eq_true rfl) rfl ?_
  exact jm_weak2 h (And.intro rfl (And.intro rfl (And.intro rfl (And.intro rfl trivial))))
set_option maxRecDepth 20000 in
theorem r_X11_fillings_5 {E : jm_E} {d : Nat} {μ : jm_M} {Q : Option jm_V → jm_M → Prop} {v2 v3 v4 : Int} (h :
  (((jm_wr (2 * (μ 135 861))) ≤ v4 →
    ((v3 ≤ v2 →
      Q (some (jm_I v3)) μ) ∧
     (¬ (v3 ≤ v2) →
      Q (some (jm_I (jm_wr (v2 + 1)))) μ))) ∧
   (¬ ((jm_wr (2 * (μ 135 861))) ≤ v4) →
    (0 ≤ jm_wr (862 + v4) ∧ jm_wr (862 + v4) < 1152) ∧
    (((μ 135 (jm_wr (862 + v4))) = ((-1)) →
      ((jm_rem v4 2 ≠ 0 →
        ∀ x6 : Int, x6 = jm_wr (v3 * (μ 135 1)) →
        ((x6 ≤ v2 →
          jg E m_X11_fillings d 5 [some (jm_R 133), none, some (jm_I v2), some (jm_I x6), some (jm_I (jm_wr (v4 + 1)))] [] μ Q) ∧
         (¬ (x6 ≤ v2) →
          Q (some (jm_I (jm_wr (v2 + 1)))) μ))) ∧
       (¬ (jm_rem v4 2 ≠ 0) →
        ∀ x8 : Int, x8 = jm_wr (v3 * (μ 135 0)) →
        ((x8 ≤ v2 →
          jg E m_X11_fillings d 5 [some (jm_R 133), none, some (jm_I v2), some (jm_I x8), some (jm_I (jm_wr (v4 + 1)))] [] μ Q) ∧
         (¬ (x8 ≤ v2) →
          Q (some (jm_I (jm_wr (v2 + 1)))) μ))))) ∧
     (¬ ((μ 135 (jm_wr (862 + v4))) = ((-1))) →
      jg E m_X11_fillings d 5 [some (jm_R 133), none, some (jm_I v2), some (jm_I v3), some (jm_I (jm_wr (v4 + 1)))] [] μ Q))))) : jg E m_X11_fillings d 5 [some (jm_R 133), none, some (jm_I v2), some (jm_I v3), some (jm_I v4)] [] μ Q := by
  refine jm_iload d_X11_fillings_5 rfl ?_
  refine jm_iconst (v := 2) d_X11_fillings_7 rfl (jm_okI (by decide) (by decide)) ?_
  refine jm_aloadn d_X11_fillings_8 rfl ?_
  refine jm_getF (k := 14) (ki := 14) rfl cf_X11 (Nat.le_of_ble_eq_true rfl) f_X11_13 d_X11_fillings_9 rfl rfl is_133 fr_133_14 ?_
  refine jm_sipush (v := 861) d_X11_fillings_12 rfl (jm_okI (by decide) (by decide)) ?_
  refine jm_iaload d_X11_fillings_15 (ixl_135 (by decide) (by decide)) ?_
  refine jm_imul d_X11_fillings_16 ?_
  refine jm_icmp_ge (tgt := 78) d_X11_fillings_17 (by decide) (fun c1 => ?_) (fun c1 => ?_)
  · have h := h.1 c1
    refine jm_iloadn d_X11_fillings_78 rfl ?_
    refine jm_iloadn d_X11_fillings_79 rfl ?_
    refine jm_icmp_le (tgt := 89) d_X11_fillings_80 (by decide) (fun c2 => ?_) (fun c2 => ?_)
    · have h := h.1 c2
      refine jm_iloadn d_X11_fillings_89 rfl ?_
      exact jm_ret (o := some (jm_I _)) d_X11_fillings_90 rfl ⟨Nat.le_refl _, Nat.le_refl _⟩ jm_r_I h rfl
    · have h := h.2 c2
      refine jm_iloadn d_X11_fillings_83 rfl ?_
      refine jm_iconst (v := 1) d_X11_fillings_84 rfl (jm_okI (by decide) (by decide)) ?_
      refine jm_iadd d_X11_fillings_85 ?_
      refine jm_goto (tgt := 90) d_X11_fillings_86 (by decide) ?_
      exact jm_ret (o := some (jm_I _)) d_X11_fillings_90 rfl ⟨Nat.le_refl _, Nat.le_refl _⟩ jm_r_I h rfl
  · have h := h.2 c1
    refine jm_aloadn d_X11_fillings_20 rfl ?_
    refine jm_getF (k := 14) (ki := 14) rfl cf_X11 (Nat.le_of_ble_eq_true rfl) f_X11_13 d_X11_fillings_21 rfl rfl is_133 fr_133_14 ?_
    refine jm_sipush (v := 862) d_X11_fillings_24 rfl (jm_okI (by decide) (by decide)) ?_
    refine jm_iload d_X11_fillings_27 rfl ?_
    refine jm_iadd d_X11_fillings_29 ?_
    obtain ⟨f3, h⟩ := h
    refine jm_iaload d_X11_fillings_30 (ixl_135 f3.1 f3.2) ?_
    refine jm_iconst (v := (-1)) d_X11_fillings_31 rfl (jm_okI (by decide) (by decide)) ?_
    refine jm_icmp_eq (tgt := 38) d_X11_fillings_32 (by decide) (fun c4 => ?_) (fun c4 => ?_)
    · have h := h.1 c4
      refine jm_iloadn d_X11_fillings_38 rfl ?_
      refine jm_iload d_X11_fillings_39 rfl ?_
      refine jm_iconst (v := 2) d_X11_fillings_41 rfl (jm_okI (by decide) (by decide)) ?_
      refine jm_irem d_X11_fillings_42 (by decide) ?_
      refine jm_if_ne (tgt := 55) d_X11_fillings_43 (by decide) (fun c5 => ?_) (fun c5 => ?_)
      · have h := h.1 c5
        refine jm_aloadn d_X11_fillings_55 rfl ?_
        refine jm_getF (k := 14) (ki := 14) rfl cf_X11 (Nat.le_of_ble_eq_true rfl) f_X11_13 d_X11_fillings_56 rfl rfl is_133 fr_133_14 ?_
        refine jm_iconst (v := 1) d_X11_fillings_59 rfl (jm_okI (by decide) (by decide)) ?_
        refine jm_iaload d_X11_fillings_60 (ixl_135 (by decide) (by decide)) ?_
        refine jm_imul d_X11_fillings_61 ?_
        have h := h _ rfl
        refine jm_istoren (L' := [some (jm_R _), none, some (jm_I _), some (jm_I _), some (jm_I _)]) d_X11_fillings_62 (Nat.le_of_ble_eq_true rfl) rfl ?_
        refine jm_iloadn d_X11_fillings_63 rfl ?_
        refine jm_iloadn d_X11_fillings_64 rfl ?_
        refine jm_icmp_le (tgt := 72) d_X11_fillings_65 (by decide) (fun c7 => ?_) (fun c7 => ?_)
        · have h := h.1 c7
          refine jm_iinc (L' := [some (jm_R _), none, some (jm_I _), some (jm_I _), some (jm_I _)]) d_X11_fillings_72 rfl rfl (Nat.le_of_ble_eq_true rfl) rfl ?_
          refine jm_goto (tgt := 5) d_X11_fillings_75 (by decide) ?_
          exact h
        · have h := h.2 c7
          refine jm_iloadn d_X11_fillings_68 rfl ?_
          refine jm_iconst (v := 1) d_X11_fillings_69 rfl (jm_okI (by decide) (by decide)) ?_
          refine jm_iadd d_X11_fillings_70 ?_
          exact jm_ret (o := some (jm_I _)) d_X11_fillings_71 rfl ⟨Nat.le_refl _, Nat.le_refl _⟩ jm_r_I h rfl
      · have h := h.2 c5
        refine jm_aloadn d_X11_fillings_46 rfl ?_
        refine jm_getF (k := 14) (ki := 14) rfl cf_X11 (Nat.le_of_ble_eq_true rfl) f_X11_13 d_X11_fillings_47 rfl rfl is_133 fr_133_14 ?_
        refine jm_iconst (v := 0) d_X11_fillings_50 rfl (jm_okI (by decide) (by decide)) ?_
        refine jm_iaload d_X11_fillings_51 (ixl_135 (by decide) (by decide)) ?_
        refine jm_goto (tgt := 61) d_X11_fillings_52 (by decide) ?_
        refine jm_imul d_X11_fillings_61 ?_
        have h := h _ rfl
        refine jm_istoren (L' := [some (jm_R _), none, some (jm_I _), some (jm_I _), some (jm_I _)]) d_X11_fillings_62 (Nat.le_of_ble_eq_true rfl) rfl ?_
        refine jm_iloadn d_X11_fillings_63 rfl ?_
        refine jm_iloadn d_X11_fillings_64 rfl ?_
        refine jm_icmp_le (tgt := 72) d_X11_fillings_65 (by decide) (fun c9 => ?_) (fun c9 => ?_)
        · have h := h.1 c9
          refine jm_iinc (L' := [some (jm_R _), none, some (jm_I _), some (jm_I _), some (jm_I _)]) d_X11_fillings_72 rfl rfl (Nat.le_of_ble_eq_true rfl) rfl ?_
          refine jm_goto (tgt := 5) d_X11_fillings_75 (by decide) ?_
          exact h
        · have h := h.2 c9
          refine jm_iloadn d_X11_fillings_68 rfl ?_
          refine jm_iconst (v := 1) d_X11_fillings_69 rfl (jm_okI (by decide) (by decide)) ?_
          refine jm_iadd d_X11_fillings_70 ?_
          exact jm_ret (o := some (jm_I _)) d_X11_fillings_71 rfl ⟨Nat.le_refl _, Nat.le_refl _⟩ jm_r_I h rfl
    · have h := h.2 c4
      refine jm_goto (tgt := 72) d_X11_fillings_35 (by decide) ?_
      refine jm_iinc (L' := [some (jm_R _), none, some (jm_I _), some (jm_I _), some (jm_I _)]) d_X11_fillings_72 rfl rfl (Nat.le_of_ble_eq_true rfl) rfl ?_
      refine jm_goto (tgt := 5) d_X11_fillings_75 (by decide) ?_
      exact h
/-! ('CombTableModel', 'layTorn', '(II)V') -/
theorem d_X11_layTorn_0 : decode m_X11_layTorn.2.1 0 = .ok (.aload_n 0, 1) := by decide +kernel
theorem d_X11_layTorn_1 : decode m_X11_layTorn.2.1 1 = .ok (.iconst 0, 1) := by decide +kernel
theorem d_X11_layTorn_2 : decode m_X11_layTorn.2.1 2 = .ok (.putfield 317, 3) := by decide +kernel
theorem d_X11_layTorn_5 : decode m_X11_layTorn.2.1 5 = .ok (.iconst 0, 1) := by decide +kernel
theorem d_X11_layTorn_6 : decode m_X11_layTorn.2.1 6 = .ok (.istore_n 3, 1) := by decide +kernel
theorem d_X11_layTorn_7 : decode m_X11_layTorn.2.1 7 = .ok (.iload_n 3, 1) := by decide +kernel
theorem d_X11_layTorn_8 : decode m_X11_layTorn.2.1 8 = .ok (.aload_n 0, 1) := by decide +kernel
theorem d_X11_layTorn_9 : decode m_X11_layTorn.2.1 9 = .ok (.getfield 13, 3) := by decide +kernel
theorem d_X11_layTorn_12 : decode m_X11_layTorn.2.1 12 = .ok (.sipush 861, 3) := by decide +kernel
theorem d_X11_layTorn_15 : decode m_X11_layTorn.2.1 15 = .ok (.iaload, 1) := by decide +kernel
theorem d_X11_layTorn_16 : decode m_X11_layTorn.2.1 16 = .ok (.if_icmp .ge 111, 3) := by decide +kernel
theorem d_X11_layTorn_19 : decode m_X11_layTorn.2.1 19 = .ok (.iload_n 3, 1) := by decide +kernel
theorem d_X11_layTorn_20 : decode m_X11_layTorn.2.1 20 = .ok (.iload_n 1, 1) := by decide +kernel
theorem d_X11_layTorn_21 : decode m_X11_layTorn.2.1 21 = .ok (.if_icmp .ne 6, 3) := by decide +kernel
theorem d_X11_layTorn_24 : decode m_X11_layTorn.2.1 24 = .ok (.goto 97, 3) := by decide +kernel
theorem d_X11_layTorn_27 : decode m_X11_layTorn.2.1 27 = .ok (.iload_n 3, 1) := by decide +kernel
theorem d_X11_layTorn_28 : decode m_X11_layTorn.2.1 28 = .ok (.iload_n 2, 1) := by decide +kernel
theorem d_X11_layTorn_29 : decode m_X11_layTorn.2.1 29 = .ok (.if_icmp .ne 9, 3) := by decide +kernel
theorem d_X11_layTorn_32 : decode m_X11_layTorn.2.1 32 = .ok (.iload_n 3, 1) := by decide +kernel
theorem d_X11_layTorn_33 : decode m_X11_layTorn.2.1 33 = .ok (.iconst 1, 1) := by decide +kernel
theorem d_X11_layTorn_34 : decode m_X11_layTorn.2.1 34 = .ok (.iadd, 1) := by decide +kernel
theorem d_X11_layTorn_35 : decode m_X11_layTorn.2.1 35 = .ok (.goto 22, 3) := by decide +kernel
theorem d_X11_layTorn_38 : decode m_X11_layTorn.2.1 38 = .ok (.iload_n 3, 1) := by decide +kernel
theorem d_X11_layTorn_39 : decode m_X11_layTorn.2.1 39 = .ok (.iload_n 2, 1) := by decide +kernel
theorem d_X11_layTorn_40 : decode m_X11_layTorn.2.1 40 = .ok (.iconst 1, 1) := by decide +kernel
theorem d_X11_layTorn_41 : decode m_X11_layTorn.2.1 41 = .ok (.iadd, 1) := by decide +kernel
theorem d_X11_layTorn_42 : decode m_X11_layTorn.2.1 42 = .ok (.if_icmp .ne 14, 3) := by decide +kernel
theorem d_X11_layTorn_45 : decode m_X11_layTorn.2.1 45 = .ok (.iload_n 2, 1) := by decide +kernel
theorem d_X11_layTorn_46 : decode m_X11_layTorn.2.1 46 = .ok (.iconst (-1), 1) := by decide +kernel
theorem d_X11_layTorn_47 : decode m_X11_layTorn.2.1 47 = .ok (.if_icmp .eq 9, 3) := by decide +kernel
theorem d_X11_layTorn_50 : decode m_X11_layTorn.2.1 50 = .ok (.iload_n 3, 1) := by decide +kernel
theorem d_X11_layTorn_51 : decode m_X11_layTorn.2.1 51 = .ok (.iconst 1, 1) := by decide +kernel
theorem d_X11_layTorn_52 : decode m_X11_layTorn.2.1 52 = .ok (.isub, 1) := by decide +kernel
theorem d_X11_layTorn_53 : decode m_X11_layTorn.2.1 53 = .ok (.goto 4, 3) := by decide +kernel
theorem d_X11_layTorn_56 : decode m_X11_layTorn.2.1 56 = .ok (.iload_n 3, 1) := by decide +kernel
theorem d_X11_layTorn_57 : decode m_X11_layTorn.2.1 57 = .ok (.istore 4, 2) := by decide +kernel
theorem d_X11_layTorn_59 : decode m_X11_layTorn.2.1 59 = .ok (.aload_n 0, 1) := by decide +kernel
theorem d_X11_layTorn_60 : decode m_X11_layTorn.2.1 60 = .ok (.getfield 66, 3) := by decide +kernel
theorem d_X11_layTorn_63 : decode m_X11_layTorn.2.1 63 = .ok (.iconst 2, 1) := by decide +kernel
theorem d_X11_layTorn_64 : decode m_X11_layTorn.2.1 64 = .ok (.aload_n 0, 1) := by decide +kernel
theorem d_X11_layTorn_65 : decode m_X11_layTorn.2.1 65 = .ok (.getfield 317, 3) := by decide +kernel
theorem d_X11_layTorn_68 : decode m_X11_layTorn.2.1 68 = .ok (.imul, 1) := by decide +kernel
theorem d_X11_layTorn_69 : decode m_X11_layTorn.2.1 69 = .ok (.aload_n 0, 1) := by decide +kernel
theorem d_X11_layTorn_70 : decode m_X11_layTorn.2.1 70 = .ok (.getfield 13, 3) := by decide +kernel
theorem d_X11_layTorn_73 : decode m_X11_layTorn.2.1 73 = .ok (.sipush 862, 3) := by decide +kernel
theorem d_X11_layTorn_76 : decode m_X11_layTorn.2.1 76 = .ok (.iconst 2, 1) := by decide +kernel
theorem d_X11_layTorn_77 : decode m_X11_layTorn.2.1 77 = .ok (.iload 4, 2) := by decide +kernel
theorem d_X11_layTorn_79 : decode m_X11_layTorn.2.1 79 = .ok (.imul, 1) := by decide +kernel
theorem d_X11_layTorn_80 : decode m_X11_layTorn.2.1 80 = .ok (.iadd, 1) := by decide +kernel
theorem d_X11_layTorn_81 : decode m_X11_layTorn.2.1 81 = .ok (.iaload, 1) := by decide +kernel
theorem d_X11_layTorn_82 : decode m_X11_layTorn.2.1 82 = .ok (.iastore, 1) := by decide +kernel
theorem d_X11_layTorn_83 : decode m_X11_layTorn.2.1 83 = .ok (.aload_n 0, 1) := by decide +kernel
theorem d_X11_layTorn_84 : decode m_X11_layTorn.2.1 84 = .ok (.getfield 66, 3) := by decide +kernel
theorem d_X11_layTorn_87 : decode m_X11_layTorn.2.1 87 = .ok (.iconst 2, 1) := by decide +kernel
theorem d_X11_layTorn_88 : decode m_X11_layTorn.2.1 88 = .ok (.aload_n 0, 1) := by decide +kernel
theorem d_X11_layTorn_89 : decode m_X11_layTorn.2.1 89 = .ok (.getfield 317, 3) := by decide +kernel
theorem d_X11_layTorn_92 : decode m_X11_layTorn.2.1 92 = .ok (.imul, 1) := by decide +kernel
theorem d_X11_layTorn_93 : decode m_X11_layTorn.2.1 93 = .ok (.iconst 1, 1) := by decide +kernel
theorem d_X11_layTorn_94 : decode m_X11_layTorn.2.1 94 = .ok (.iadd, 1) := by decide +kernel
theorem d_X11_layTorn_95 : decode m_X11_layTorn.2.1 95 = .ok (.aload_n 0, 1) := by decide +kernel
theorem d_X11_layTorn_96 : decode m_X11_layTorn.2.1 96 = .ok (.getfield 13, 3) := by decide +kernel
theorem d_X11_layTorn_99 : decode m_X11_layTorn.2.1 99 = .ok (.sipush 862, 3) := by decide +kernel
theorem d_X11_layTorn_102 : decode m_X11_layTorn.2.1 102 = .ok (.iconst 2, 1) := by decide +kernel
theorem d_X11_layTorn_103 : decode m_X11_layTorn.2.1 103 = .ok (.iload 4, 2) := by decide +kernel
theorem d_X11_layTorn_105 : decode m_X11_layTorn.2.1 105 = .ok (.imul, 1) := by decide +kernel
theorem d_X11_layTorn_106 : decode m_X11_layTorn.2.1 106 = .ok (.iadd, 1) := by decide +kernel
theorem d_X11_layTorn_107 : decode m_X11_layTorn.2.1 107 = .ok (.iconst 1, 1) := by decide +kernel
theorem d_X11_layTorn_108 : decode m_X11_layTorn.2.1 108 = .ok (.iadd, 1) := by decide +kernel
theorem d_X11_layTorn_109 : decode m_X11_layTorn.2.1 109 = .ok (.iaload, 1) := by decide +kernel
theorem d_X11_layTorn_110 : decode m_X11_layTorn.2.1 110 = .ok (.iastore, 1) := by decide +kernel
theorem d_X11_layTorn_111 : decode m_X11_layTorn.2.1 111 = .ok (.aload_n 0, 1) := by decide +kernel
theorem d_X11_layTorn_112 : decode m_X11_layTorn.2.1 112 = .ok (.dup, 1) := by decide +kernel
theorem d_X11_layTorn_113 : decode m_X11_layTorn.2.1 113 = .ok (.getfield 317, 3) := by decide +kernel
theorem d_X11_layTorn_116 : decode m_X11_layTorn.2.1 116 = .ok (.iconst 1, 1) := by decide +kernel
theorem d_X11_layTorn_117 : decode m_X11_layTorn.2.1 117 = .ok (.iadd, 1) := by decide +kernel
theorem d_X11_layTorn_118 : decode m_X11_layTorn.2.1 118 = .ok (.putfield 317, 3) := by decide +kernel
theorem d_X11_layTorn_121 : decode m_X11_layTorn.2.1 121 = .ok (.iinc 3 1, 3) := by decide +kernel
theorem d_X11_layTorn_124 : decode m_X11_layTorn.2.1 124 = .ok (.goto (-117), 3) := by decide +kernel
theorem d_X11_layTorn_127 : decode m_X11_layTorn.2.1 127 = .ok (.return_, 1) := by decide +kernel
set_option maxRecDepth 20000 in
theorem e_X11_layTorn {E : jm_E} {d : Nat} {μ : jm_M} {Q : Option jm_V → jm_M → Prop} {v1 v2 : Int} (h : (∀ v ∈ ([jm_R 133, jm_I v1, jm_I v2] : List jm_V), jm_ok v) →
  jg E m_X11_layTorn d 7 [some (jm_R 133), some (jm_I v1), some (jm_I v2), some (jm_I 0), none] [] (jm_up μ 133 42 0) Q) : jc E m_X11_layTorn (d + 1) [jm_R 133, jm_I v1, jm_I v2] μ Q := by
  refine jm_Cl.of2 (by decide +kernel) (L0 := [some (jm_R 133), some (jm_I v1), some (jm_I v2), none, none]) rfl (Nat.le_of_ble_eq_true rfl) (fun hok => ?_)
  have h := h hok
  refine jm_aloadn d_X11_layTorn_0 rfl ?_
  refine jm_iconst (v := 0) d_X11_layTorn_1 rfl (jm_okI (by decide) (by decide)) ?_
  refine jm_putI (k := 42) (ki := 42) cf_X11 (Nat.le_of_ble_eq_true rfl) f_X11_317 d_X11_layTorn_2 (fun z => absurd z (by decide)) rfl rfl rfl (fun _ => rfl) is_133 ?_
  refine jm_iconst (v := 0) d_X11_layTorn_5 rfl (jm_okI (by decide) (by decide)) ?_
  refine jm_istoren (L' := [some (jm_R _), some (jm_I _), some (jm_I _), some (jm_I _), none]) d_X11_layTorn_6 (Nat.le_of_ble_eq_true rfl) rfl ?_
  exact h
set_option maxRecDepth 20000 in
theorem r_X11_layTorn_7 {E : jm_E} {d : Nat} {μ : jm_M} {Q : Option jm_V → jm_M → Prop} {v1 v2 v3 : Int} (h :
  ((μ 135 861 ≤ v3 →
    Q none μ) ∧
   (¬ (μ 135 861 ≤ v3) →
    ((v3 ≠ v1 →
      ((v3 ≠ v2 →
        ((v3 ≠ (jm_wr (v2 + 1)) →
          jg E m_X11_layTorn d 56 [some (jm_R 133), some (jm_I v1), some (jm_I v2), some (jm_I v3), none] [] μ Q) ∧
         (¬ (v3 ≠ (jm_wr (v2 + 1))) →
          ((v2 = ((-1)) →
            jg E m_X11_layTorn d 56 [some (jm_R 133), some (jm_I v1), some (jm_I v2), some (jm_I v3), none] [] μ Q) ∧
           (¬ (v2 = ((-1))) →
            ∀ x6 : Int, x6 = jm_wr (v3 - 1) →
            (0 ≤ jm_wr (862 + (jm_wr (2 * x6))) ∧ jm_wr (862 + (jm_wr (2 * x6))) < 1152) ∧
            (0 ≤ jm_wr (2 * (μ 133 42)) ∧ jm_wr (2 * (μ 133 42)) < 48) ∧
            ∀ m9 : jm_M, m9 = (jm_up μ 152 (jm_wr (2 * (μ 133 42))) (μ 135 (jm_wr (862 + (jm_wr (2 * x6)))))) →
            (0 ≤ jm_wr ((jm_wr (862 + (jm_wr (2 * x6)))) + 1) ∧ jm_wr ((jm_wr (862 + (jm_wr (2 * x6)))) + 1) < 1152) ∧
            (0 ≤ jm_wr ((jm_wr (2 * (m9 133 42))) + 1) ∧ jm_wr ((jm_wr (2 * (m9 133 42))) + 1) < 48) ∧
            ∀ m12 : jm_M, m12 = (jm_up m9 152 (jm_wr ((jm_wr (2 * (m9 133 42))) + 1)) (m9 135 (jm_wr ((jm_wr (862 + (jm_wr (2 * x6)))) + 1)))) →
            jg E m_X11_layTorn d 7 [some (jm_R 133), some (jm_I v1), some (jm_I v2), some (jm_I (jm_wr (v3 + 1))), none] [] (jm_up m12 133 42 (jm_wr ((m12 133 42) + 1))) Q))))) ∧
       (¬ (v3 ≠ v2) →
        ∀ x13 : Int, x13 = jm_wr (v3 + 1) →
        (0 ≤ jm_wr (862 + (jm_wr (2 * x13))) ∧ jm_wr (862 + (jm_wr (2 * x13))) < 1152) ∧
        (0 ≤ jm_wr (2 * (μ 133 42)) ∧ jm_wr (2 * (μ 133 42)) < 48) ∧
        ∀ m16 : jm_M, m16 = (jm_up μ 152 (jm_wr (2 * (μ 133 42))) (μ 135 (jm_wr (862 + (jm_wr (2 * x13)))))) →
        (0 ≤ jm_wr ((jm_wr (862 + (jm_wr (2 * x13)))) + 1) ∧ jm_wr ((jm_wr (862 + (jm_wr (2 * x13)))) + 1) < 1152) ∧
        (0 ≤ jm_wr ((jm_wr (2 * (m16 133 42))) + 1) ∧ jm_wr ((jm_wr (2 * (m16 133 42))) + 1) < 48) ∧
        ∀ m19 : jm_M, m19 = (jm_up m16 152 (jm_wr ((jm_wr (2 * (m16 133 42))) + 1)) (m16 135 (jm_wr ((jm_wr (862 + (jm_wr (2 * x13)))) + 1)))) →
        jg E m_X11_layTorn d 7 [some (jm_R 133), some (jm_I v1), some (jm_I v2), some (jm_I (jm_wr (v3 + 1))), none] [] (jm_up m19 133 42 (jm_wr ((m19 133 42) + 1))) Q))) ∧
     (¬ (v3 ≠ v1) →
      jg E m_X11_layTorn d 7 [some (jm_R 133), some (jm_I v1), some (jm_I v2), some (jm_I (jm_wr (v3 + 1))), none] [] μ Q))))) : jg E m_X11_layTorn d 7 [some (jm_R 133), some (jm_I v1), some (jm_I v2), some (jm_I v3), none] [] μ Q := by
  refine jm_iloadn d_X11_layTorn_7 rfl ?_
  refine jm_aloadn d_X11_layTorn_8 rfl ?_
  refine jm_getF (k := 14) (ki := 14) rfl cf_X11 (Nat.le_of_ble_eq_true rfl) f_X11_13 d_X11_layTorn_9 rfl rfl is_133 fr_133_14 ?_
  refine jm_sipush (v := 861) d_X11_layTorn_12 rfl (jm_okI (by decide) (by decide)) ?_
  refine jm_iaload d_X11_layTorn_15 (ixl_135 (by decide) (by decide)) ?_
  refine jm_icmp_ge (tgt := 127) d_X11_layTorn_16 (by decide) (fun c1 => ?_) (fun c1 => ?_)
  · have h := h.1 c1
    exact jm_ret (o := none) d_X11_layTorn_127 rfl ⟨Nat.le_refl _, Nat.le_refl _⟩ jm_r_V h rfl
  · have h := h.2 c1
    refine jm_iloadn d_X11_layTorn_19 rfl ?_
    refine jm_iloadn d_X11_layTorn_20 rfl ?_
    refine jm_icmp_ne (tgt := 27) d_X11_layTorn_21 (by decide) (fun c2 => ?_) (fun c2 => ?_)
    · have h := h.1 c2
      refine jm_iloadn d_X11_layTorn_27 rfl ?_
      refine jm_iloadn d_X11_layTorn_28 rfl ?_
      refine jm_icmp_ne (tgt := 38) d_X11_layTorn_29 (by decide) (fun c3 => ?_) (fun c3 => ?_)
      · have h := h.1 c3
        refine jm_iloadn d_X11_layTorn_38 rfl ?_
        refine jm_iloadn d_X11_layTorn_39 rfl ?_
        refine jm_iconst (v := 1) d_X11_layTorn_40 rfl (jm_okI (by decide) (by decide)) ?_
        refine jm_iadd d_X11_layTorn_41 ?_
        refine jm_icmp_ne (tgt := 56) d_X11_layTorn_42 (by decide) (fun c4 => ?_) (fun c4 => ?_)
        · have h := h.1 c4
          exact h
        · have h := h.2 c4
          refine jm_iloadn d_X11_layTorn_45 rfl ?_
          refine jm_iconst (v := (-1)) d_X11_layTorn_46 rfl (jm_okI (by decide) (by decide)) ?_
          refine jm_icmp_eq (tgt := 56) d_X11_layTorn_47 (by decide) (fun c5 => ?_) (fun c5 => ?_)
          · have h := h.1 c5
            exact h
          · have h := h.2 c5
            refine jm_iloadn d_X11_layTorn_50 rfl ?_
            refine jm_iconst (v := 1) d_X11_layTorn_51 rfl (jm_okI (by decide) (by decide)) ?_
            refine jm_isub d_X11_layTorn_52 ?_
            refine jm_goto (tgt := 57) d_X11_layTorn_53 (by decide) ?_
            have h := h _ rfl
            refine jm_istore (L' := [some (jm_R _), some (jm_I _), some (jm_I _), some (jm_I _), some (jm_I _)]) d_X11_layTorn_57 (Nat.le_of_ble_eq_true rfl) rfl ?_
            refine jm_aloadn d_X11_layTorn_59 rfl ?_
            refine jm_getF (k := 35) (ki := 35) rfl cf_X11 (Nat.le_of_ble_eq_true rfl) f_X11_66 d_X11_layTorn_60 rfl rfl is_133 fr_133_35 ?_
            refine jm_iconst (v := 2) d_X11_layTorn_63 rfl (jm_okI (by decide) (by decide)) ?_
            refine jm_aloadn d_X11_layTorn_64 rfl ?_
            refine jm_getI (k := 42) (ki := 42) cf_X11 (Nat.le_of_ble_eq_true rfl) f_X11_317 d_X11_layTorn_65 rfl rfl is_133 rfl ?_
            refine jm_imul d_X11_layTorn_68 ?_
            refine jm_aloadn d_X11_layTorn_69 rfl ?_
            refine jm_getF (k := 14) (ki := 14) rfl cf_X11 (Nat.le_of_ble_eq_true rfl) f_X11_13 d_X11_layTorn_70 rfl rfl is_133 fr_133_14 ?_
            refine jm_sipush (v := 862) d_X11_layTorn_73 rfl (jm_okI (by decide) (by decide)) ?_
            refine jm_iconst (v := 2) d_X11_layTorn_76 rfl (jm_okI (by decide) (by decide)) ?_
            refine jm_iload d_X11_layTorn_77 rfl ?_
            refine jm_imul d_X11_layTorn_79 ?_
            refine jm_iadd d_X11_layTorn_80 ?_
            obtain ⟨f7, h⟩ := h
            refine jm_iaload d_X11_layTorn_81 (ixl_135 f7.1 f7.2) ?_
            obtain ⟨f8, h⟩ := h
            refine jm_iastore d_X11_layTorn_82 (ixl_152 f8.1 f8.2) ?_
            have h := h _ rfl
            refine jm_aloadn d_X11_layTorn_83 rfl ?_
            refine jm_getF (k := 35) (ki := 35) rfl cf_X11 (Nat.le_of_ble_eq_true rfl) f_X11_66 d_X11_layTorn_84 rfl rfl is_133 fr_133_35 ?_
            refine jm_iconst (v := 2) d_X11_layTorn_87 rfl (jm_okI (by decide) (by decide)) ?_
            refine jm_aloadn d_X11_layTorn_88 rfl ?_
            refine jm_getI (k := 42) (ki := 42) cf_X11 (Nat.le_of_ble_eq_true rfl) f_X11_317 d_X11_layTorn_89 rfl rfl is_133 rfl ?_
            refine jm_imul d_X11_layTorn_92 ?_
            refine jm_iconst (v := 1) d_X11_layTorn_93 rfl (jm_okI (by decide) (by decide)) ?_
            refine jm_iadd d_X11_layTorn_94 ?_
            refine jm_aloadn d_X11_layTorn_95 rfl ?_
            refine jm_getF (k := 14) (ki := 14) rfl cf_X11 (Nat.le_of_ble_eq_true rfl) f_X11_13 d_X11_layTorn_96 rfl rfl is_133 fr_133_14 ?_
            refine jm_sipush (v := 862) d_X11_layTorn_99 rfl (jm_okI (by decide) (by decide)) ?_
            refine jm_iconst (v := 2) d_X11_layTorn_102 rfl (jm_okI (by decide) (by decide)) ?_
            refine jm_iload d_X11_layTorn_103 rfl ?_
            refine jm_imul d_X11_layTorn_105 ?_
            refine jm_iadd d_X11_layTorn_106 ?_
            refine jm_iconst (v := 1) d_X11_layTorn_107 rfl (jm_okI (by decide) (by decide)) ?_
            refine jm_iadd d_X11_layTorn_108 ?_
            obtain ⟨f10, h⟩ := h
            refine jm_iaload d_X11_layTorn_109 (ixl_135 f10.1 f10.2) ?_
            obtain ⟨f11, h⟩ := h
            refine jm_iastore d_X11_layTorn_110 (ixl_152 f11.1 f11.2) ?_
            have h := h _ rfl
            refine jm_aloadn d_X11_layTorn_111 rfl ?_
            refine jm_dup rfl d_X11_layTorn_112 ?_
            refine jm_getI (k := 42) (ki := 42) cf_X11 (Nat.le_of_ble_eq_true rfl) f_X11_317 d_X11_layTorn_113 rfl rfl is_133 rfl ?_
            refine jm_iconst (v := 1) d_X11_layTorn_116 rfl (jm_okI (by decide) (by decide)) ?_
            refine jm_iadd d_X11_layTorn_117 ?_
            refine jm_putI (k := 42) (ki := 42) cf_X11 (Nat.le_of_ble_eq_true rfl) f_X11_317 d_X11_layTorn_118 (fun z => absurd z (by decide)) rfl rfl rfl (fun _ => rfl) is_133 ?_
            refine jm_iinc (L' := [some (jm_R _), some (jm_I _), some (jm_I _), some (jm_I _), some (jm_I _)]) d_X11_layTorn_121 rfl rfl (Nat.le_of_ble_eq_true rfl) rfl ?_
            refine jm_goto (tgt := 7) d_X11_layTorn_124 (by decide) ?_
            exact jm_weak2 h (And.intro rfl (And.intro rfl (And.intro rfl (And.intro rfl trivial))))
      · have h := h.2 c3
        refine jm_iloadn d_X11_layTorn_32 rfl ?_
        refine jm_iconst (v := 1) d_X11_layTorn_33 rfl (jm_okI (by decide) (by decide)) ?_
        refine jm_iadd d_X11_layTorn_34 ?_
        refine jm_goto (tgt := 57) d_X11_layTorn_35 (by decide) ?_
        have h := h _ rfl
        refine jm_istore (L' := [some (jm_R _), some (jm_I _), some (jm_I _), some (jm_I _), some (jm_I _)]) d_X11_layTorn_57 (Nat.le_of_ble_eq_true rfl) rfl ?_
        refine jm_aloadn d_X11_layTorn_59 rfl ?_
        refine jm_getF (k := 35) (ki := 35) rfl cf_X11 (Nat.le_of_ble_eq_true rfl) f_X11_66 d_X11_layTorn_60 rfl rfl is_133 fr_133_35 ?_
        refine jm_iconst (v := 2) d_X11_layTorn_63 rfl (jm_okI (by decide) (by decide)) ?_
        refine jm_aloadn d_X11_layTorn_64 rfl ?_
        refine jm_getI (k := 42) (ki := 42) cf_X11 (Nat.le_of_ble_eq_true rfl) f_X11_317 d_X11_layTorn_65 rfl rfl is_133 rfl ?_
        refine jm_imul d_X11_layTorn_68 ?_
        refine jm_aloadn d_X11_layTorn_69 rfl ?_
        refine jm_getF (k := 14) (ki := 14) rfl cf_X11 (Nat.le_of_ble_eq_true rfl) f_X11_13 d_X11_layTorn_70 rfl rfl is_133 fr_133_14 ?_
        refine jm_sipush (v := 862) d_X11_layTorn_73 rfl (jm_okI (by decide) (by decide)) ?_
        refine jm_iconst (v := 2) d_X11_layTorn_76 rfl (jm_okI (by decide) (by decide)) ?_
        refine jm_iload d_X11_layTorn_77 rfl ?_
        refine jm_imul d_X11_layTorn_79 ?_
        refine jm_iadd d_X11_layTorn_80 ?_
        obtain ⟨f14, h⟩ := h
        refine jm_iaload d_X11_layTorn_81 (ixl_135 f14.1 f14.2) ?_
        obtain ⟨f15, h⟩ := h
        refine jm_iastore d_X11_layTorn_82 (ixl_152 f15.1 f15.2) ?_
        have h := h _ rfl
        refine jm_aloadn d_X11_layTorn_83 rfl ?_
        refine jm_getF (k := 35) (ki := 35) rfl cf_X11 (Nat.le_of_ble_eq_true rfl) f_X11_66 d_X11_layTorn_84 rfl rfl is_133 fr_133_35 ?_
        refine jm_iconst (v := 2) d_X11_layTorn_87 rfl (jm_okI (by decide) (by decide)) ?_
        refine jm_aloadn d_X11_layTorn_88 rfl ?_
        refine jm_getI (k := 42) (ki := 42) cf_X11 (Nat.le_of_ble_eq_true rfl) f_X11_317 d_X11_layTorn_89 rfl rfl is_133 rfl ?_
        refine jm_imul d_X11_layTorn_92 ?_
        refine jm_iconst (v := 1) d_X11_layTorn_93 rfl (jm_okI (by decide) (by decide)) ?_
        refine jm_iadd d_X11_layTorn_94 ?_
        refine jm_aloadn d_X11_layTorn_95 rfl ?_
        refine jm_getF (k := 14) (ki := 14) rfl cf_X11 (Nat.le_of_ble_eq_true rfl) f_X11_13 d_X11_layTorn_96 rfl rfl is_133 fr_133_14 ?_
        refine jm_sipush (v := 862) d_X11_layTorn_99 rfl (jm_okI (by decide) (by decide)) ?_
        refine jm_iconst (v := 2) d_X11_layTorn_102 rfl (jm_okI (by decide) (by decide)) ?_
        refine jm_iload d_X11_layTorn_103 rfl ?_
        refine jm_imul d_X11_layTorn_105 ?_
        refine jm_iadd d_X11_layTorn_106 ?_
        refine jm_iconst (v := 1) d_X11_layTorn_107 rfl (jm_okI (by decide) (by decide)) ?_
        refine jm_iadd d_X11_layTorn_108 ?_
        obtain ⟨f17, h⟩ := h
        refine jm_iaload d_X11_layTorn_109 (ixl_135 f17.1 f17.2) ?_
        obtain ⟨f18, h⟩ := h
        refine jm_iastore d_X11_layTorn_110 (ixl_152 f18.1 f18.2) ?_
        have h := h _ rfl
        refine jm_aloadn d_X11_layTorn_111 rfl ?_
        refine jm_dup rfl d_X11_layTorn_112 ?_
        refine jm_getI (k := 42) (ki := 42) cf_X11 (Nat.le_of_ble_eq_true rfl) f_X11_317 d_X11_layTorn_113 rfl rfl is_133 rfl ?_
        refine jm_iconst (v := 1) d_X11_layTorn_116 rfl (jm_okI (by decide) (by decide)) ?_
        refine jm_iadd d_X11_layTorn_117 ?_
        refine jm_putI (k := 42) (ki := 42) cf_X11 (Nat.le_of_ble_eq_true rfl) f_X11_317 d_X11_layTorn_118 (fun z => absurd z (by decide)) rfl rfl rfl (fun _ => rfl) is_133 ?_
        refine jm_iinc (L' := [some (jm_R _), some (jm_I _), some (jm_I _), some (jm_I _), some (jm_I _)]) d_X11_layTorn_121 rfl rfl (Nat.le_of_ble_eq_true rfl) rfl ?_
        refine jm_goto (tgt := 7) d_X11_layTorn_124 (by decide) ?_
        exact jm_weak2 h (And.intro rfl (And.intro rfl (And.intro rfl (And.intro rfl trivial))))
    · have h := h.2 c2
      refine jm_goto (tgt := 121) d_X11_layTorn_24 (by decide) ?_
      refine jm_iinc (L' := [some (jm_R _), some (jm_I _), some (jm_I _), some (jm_I _), none]) d_X11_layTorn_121 rfl rfl (Nat.le_of_ble_eq_true rfl) rfl ?_
      refine jm_goto (tgt := 7) d_X11_layTorn_124 (by decide) ?_
      exact h
set_option maxRecDepth 20000 in
theorem r_X11_layTorn_56 {E : jm_E} {d : Nat} {μ : jm_M} {Q : Option jm_V → jm_M → Prop} {v1 v2 v3 : Int} (h :
  (0 ≤ jm_wr (862 + (jm_wr (2 * v3))) ∧ jm_wr (862 + (jm_wr (2 * v3))) < 1152) ∧
  (0 ≤ jm_wr (2 * (μ 133 42)) ∧ jm_wr (2 * (μ 133 42)) < 48) ∧
  ∀ m3 : jm_M, m3 = (jm_up μ 152 (jm_wr (2 * (μ 133 42))) (μ 135 (jm_wr (862 + (jm_wr (2 * v3)))))) →
  (0 ≤ jm_wr ((jm_wr (862 + (jm_wr (2 * v3)))) + 1) ∧ jm_wr ((jm_wr (862 + (jm_wr (2 * v3)))) + 1) < 1152) ∧
  (0 ≤ jm_wr ((jm_wr (2 * (m3 133 42))) + 1) ∧ jm_wr ((jm_wr (2 * (m3 133 42))) + 1) < 48) ∧
  ∀ m6 : jm_M, m6 = (jm_up m3 152 (jm_wr ((jm_wr (2 * (m3 133 42))) + 1)) (m3 135 (jm_wr ((jm_wr (862 + (jm_wr (2 * v3)))) + 1)))) →
  jg E m_X11_layTorn d 7 [some (jm_R 133), some (jm_I v1), some (jm_I v2), some (jm_I (jm_wr (v3 + 1))), none] [] (jm_up m6 133 42 (jm_wr ((m6 133 42) + 1))) Q) : jg E m_X11_layTorn d 56 [some (jm_R 133), some (jm_I v1), some (jm_I v2), some (jm_I v3), none] [] μ Q := by
  refine jm_iloadn d_X11_layTorn_56 rfl ?_
  refine jm_istore (L' := [some (jm_R _), some (jm_I _), some (jm_I _), some (jm_I _), some (jm_I _)]) d_X11_layTorn_57 (Nat.le_of_ble_eq_true rfl) rfl ?_
  refine jm_aloadn d_X11_layTorn_59 rfl ?_
  refine jm_getF (k := 35) (ki := 35) rfl cf_X11 (Nat.le_of_ble_eq_true rfl) f_X11_66 d_X11_layTorn_60 rfl rfl is_133 fr_133_35 ?_
  refine jm_iconst (v := 2) d_X11_layTorn_63 rfl (jm_okI (by decide) (by decide)) ?_
  refine jm_aloadn d_X11_layTorn_64 rfl ?_
  refine jm_getI (k := 42) (ki := 42) cf_X11 (Nat.le_of_ble_eq_true rfl) f_X11_317 d_X11_layTorn_65 rfl rfl is_133 rfl ?_
  refine jm_imul d_X11_layTorn_68 ?_
  refine jm_aloadn d_X11_layTorn_69 rfl ?_
  refine jm_getF (k := 14) (ki := 14) rfl cf_X11 (Nat.le_of_ble_eq_true rfl) f_X11_13 d_X11_layTorn_70 rfl rfl is_133 fr_133_14 ?_
  refine jm_sipush (v := 862) d_X11_layTorn_73 rfl (jm_okI (by decide) (by decide)) ?_
  refine jm_iconst (v := 2) d_X11_layTorn_76 rfl (jm_okI (by decide) (by decide)) ?_
  refine jm_iload d_X11_layTorn_77 rfl ?_
  refine jm_imul d_X11_layTorn_79 ?_
  refine jm_iadd d_X11_layTorn_80 ?_
  obtain ⟨f1, h⟩ := h
  refine jm_iaload d_X11_layTorn_81 (ixl_135 f1.1 f1.2) ?_
  obtain ⟨f2, h⟩ := h
  refine jm_iastore d_X11_layTorn_82 (ixl_152 f2.1 f2.2) ?_
  have h := h _ rfl
  refine jm_aloadn d_X11_layTorn_83 rfl ?_
  refine jm_getF (k := 35) (ki := 35) rfl cf_X11 (Nat.le_of_ble_eq_true rfl) f_X11_66 d_X11_layTorn_84 rfl rfl is_133 fr_133_35 ?_
  refine jm_iconst (v := 2) d_X11_layTorn_87 rfl (jm_okI (by decide) (by decide)) ?_
  refine jm_aloadn d_X11_layTorn_88 rfl ?_
  refine jm_getI (k := 42) (ki := 42) cf_X11 (Nat.le_of_ble_eq_true rfl) f_X11_317 d_X11_layTorn_89 rfl rfl is_133 rfl ?_
  refine jm_imul d_X11_layTorn_92 ?_
  refine jm_iconst (v := 1) d_X11_layTorn_93 rfl (jm_okI (by decide) (by decide)) ?_
  refine jm_iadd d_X11_layTorn_94 ?_
  refine jm_aloadn d_X11_layTorn_95 rfl ?_
  refine jm_getF (k := 14) (ki := 14) rfl cf_X11 (Nat.le_of_ble_eq_true rfl) f_X11_13 d_X11_layTorn_96 rfl rfl is_133 fr_133_14 ?_
  refine jm_sipush (v := 862) d_X11_layTorn_99 rfl (jm_okI (by decide) (by decide)) ?_
  refine jm_iconst (v := 2) d_X11_layTorn_102 rfl (jm_okI (by decide) (by decide)) ?_
  refine jm_iload d_X11_layTorn_103 rfl ?_
  refine jm_imul d_X11_layTorn_105 ?_
  refine jm_iadd d_X11_layTorn_106 ?_
  refine jm_iconst (v := 1) d_X11_layTorn_107 rfl (jm_okI (by decide) (by decide)) ?_
  refine jm_iadd d_X11_layTorn_108 ?_
  obtain ⟨f4, h⟩ := h
  refine jm_iaload d_X11_layTorn_109 (ixl_135 f4.1 f4.2) ?_
  obtain ⟨f5, h⟩ := h
  refine jm_iastore d_X11_layTorn_110 (ixl_152 f5.1 f5.2) ?_
  have h := h _ rfl
  refine jm_aloadn d_X11_layTorn_111 rfl ?_
  refine jm_dup rfl d_X11_layTorn_112 ?_
  refine jm_getI (k := 42) (ki := 42) cf_X11 (Nat.le_of_ble_eq_true rfl) f_X11_317 d_X11_layTorn_113 rfl rfl is_133 rfl ?_
  refine jm_iconst (v := 1) d_X11_layTorn_116 rfl (jm_okI (by decide) (by decide)) ?_
  refine jm_iadd d_X11_layTorn_117 ?_
  refine jm_putI (k := 42) (ki := 42) cf_X11 (Nat.le_of_ble_eq_true rfl) f_X11_317 d_X11_layTorn_118 (fun z => absurd z (by decide)) rfl rfl rfl (fun _ => rfl) is_133 ?_
  refine jm_iinc (L' := [some (jm_R _), some (jm_I _), some (jm_I _), some (jm_I _), some (jm_I _)]) d_X11_layTorn_121 rfl rfl (Nat.le_of_ble_eq_true rfl) rfl ?_
  refine jm_goto (tgt := 7) d_X11_layTorn_124 (by decide) ?_
  exact jm_weak2 h (And.intro rfl (And.intro rfl (And.intro rfl (And.intro rfl trivial))))
/-! ('CombTableModel', 'beginFill', '()V') -/
theorem d_X11_beginFill_0 : decode m_X11_beginFill.2.1 0 = .ok (.aload_n 0, 1) := by decide +kernel
theorem d_X11_beginFill_1 : decode m_X11_beginFill.2.1 1 = .ok (.iconst 0, 1) := by decide +kernel
theorem d_X11_beginFill_2 : decode m_X11_beginFill.2.1 2 = .ok (.aload_n 0, 1) := by decide +kernel
theorem d_X11_beginFill_3 : decode m_X11_beginFill.2.1 3 = .ok (.getfield 13, 3) := by decide +kernel
theorem d_X11_beginFill_6 : decode m_X11_beginFill.2.1 6 = .ok (.iconst 0, 1) := by decide +kernel
theorem d_X11_beginFill_7 : decode m_X11_beginFill.2.1 7 = .ok (.invokevirtual 262, 3) := by decide +kernel
theorem d_X11_beginFill_10 : decode m_X11_beginFill.2.1 10 = .ok (.aload_n 0, 1) := by decide +kernel
theorem d_X11_beginFill_11 : decode m_X11_beginFill.2.1 11 = .ok (.iconst 0, 1) := by decide +kernel
theorem d_X11_beginFill_12 : decode m_X11_beginFill.2.1 12 = .ok (.putfield 320, 3) := by decide +kernel
theorem d_X11_beginFill_15 : decode m_X11_beginFill.2.1 15 = .ok (.iconst 0, 1) := by decide +kernel
theorem d_X11_beginFill_16 : decode m_X11_beginFill.2.1 16 = .ok (.istore_n 1, 1) := by decide +kernel
theorem d_X11_beginFill_17 : decode m_X11_beginFill.2.1 17 = .ok (.iload_n 1, 1) := by decide +kernel
theorem d_X11_beginFill_18 : decode m_X11_beginFill.2.1 18 = .ok (.bipush 24, 2) := by decide +kernel
theorem d_X11_beginFill_20 : decode m_X11_beginFill.2.1 20 = .ok (.if_icmp .ge 30, 3) := by decide +kernel
theorem d_X11_beginFill_23 : decode m_X11_beginFill.2.1 23 = .ok (.aload_n 0, 1) := by decide +kernel
theorem d_X11_beginFill_24 : decode m_X11_beginFill.2.1 24 = .ok (.getfield 69, 3) := by decide +kernel
theorem d_X11_beginFill_27 : decode m_X11_beginFill.2.1 27 = .ok (.iload_n 1, 1) := by decide +kernel
theorem d_X11_beginFill_28 : decode m_X11_beginFill.2.1 28 = .ok (.iconst 0, 1) := by decide +kernel
theorem d_X11_beginFill_29 : decode m_X11_beginFill.2.1 29 = .ok (.iastore, 1) := by decide +kernel
theorem d_X11_beginFill_30 : decode m_X11_beginFill.2.1 30 = .ok (.aload_n 0, 1) := by decide +kernel
theorem d_X11_beginFill_31 : decode m_X11_beginFill.2.1 31 = .ok (.getfield 72, 3) := by decide +kernel
theorem d_X11_beginFill_34 : decode m_X11_beginFill.2.1 34 = .ok (.iload_n 1, 1) := by decide +kernel
theorem d_X11_beginFill_35 : decode m_X11_beginFill.2.1 35 = .ok (.iconst 0, 1) := by decide +kernel
theorem d_X11_beginFill_36 : decode m_X11_beginFill.2.1 36 = .ok (.iastore, 1) := by decide +kernel
theorem d_X11_beginFill_37 : decode m_X11_beginFill.2.1 37 = .ok (.aload_n 0, 1) := by decide +kernel
theorem d_X11_beginFill_38 : decode m_X11_beginFill.2.1 38 = .ok (.getfield 75, 3) := by decide +kernel
theorem d_X11_beginFill_41 : decode m_X11_beginFill.2.1 41 = .ok (.iload_n 1, 1) := by decide +kernel
theorem d_X11_beginFill_42 : decode m_X11_beginFill.2.1 42 = .ok (.iconst 0, 1) := by decide +kernel
theorem d_X11_beginFill_43 : decode m_X11_beginFill.2.1 43 = .ok (.iastore, 1) := by decide +kernel
theorem d_X11_beginFill_44 : decode m_X11_beginFill.2.1 44 = .ok (.iinc 1 1, 3) := by decide +kernel
theorem d_X11_beginFill_47 : decode m_X11_beginFill.2.1 47 = .ok (.goto (-30), 3) := by decide +kernel
theorem d_X11_beginFill_50 : decode m_X11_beginFill.2.1 50 = .ok (.return_, 1) := by decide +kernel
set_option maxRecDepth 20000 in
theorem e_X11_beginFill {E : jm_E} {d : Nat} {μ : jm_M} {Q : Option jm_V → jm_M → Prop}  (h : (∀ v ∈ ([jm_R 133] : List jm_V), jm_ok v) →
  jc E m_X11_layRules d [jm_R 133, jm_I 0, jm_R 135, jm_I 0] μ (fun (o : Option jm_V) (m1 : jm_M) => o = none →
  jg E m_X11_beginFill d 17 [some (jm_R 133), some (jm_I 0)] [] (jm_up m1 133 43 0) Q)) : jc E m_X11_beginFill (d + 1) [jm_R 133] μ Q := by
  refine jm_Cl.of2 (by decide +kernel) (L0 := [some (jm_R 133), none]) rfl (Nat.le_of_ble_eq_true rfl) (fun hok => ?_)
  have h := h hok
  refine jm_aloadn d_X11_beginFill_0 rfl ?_
  refine jm_iconst (v := 0) d_X11_beginFill_1 rfl (jm_okI (by decide) (by decide)) ?_
  refine jm_aloadn d_X11_beginFill_2 rfl ?_
  refine jm_getF (k := 14) (ki := 14) rfl cf_X11 (Nat.le_of_ble_eq_true rfl) f_X11_13 d_X11_beginFill_3 rfl rfl is_133 fr_133_14 ?_
  refine jm_iconst (v := 0) d_X11_beginFill_6 rfl (jm_okI (by decide) (by decide)) ?_
  refine jm_invV (n1 := jm_N) (mc := 0) (ms := 0) (av := [jm_I _, jm_R _, jm_I _]) w_X11_layRules l_X11_262 d_X11_beginFill_7 rfl is_133 ⟨_, _, rfl⟩ ⟨Nat.le_refl _, Nat.le_refl _⟩ (Nat.le_of_ble_eq_true rfl) rfl ?_
  refine jm_Cl.mono h (fun o m1 h hr _ => ?_)
  obtain rfl := jm_rokV hr
  have h := h rfl
  refine jm_aloadn d_X11_beginFill_10 rfl ?_
  refine jm_iconst (v := 0) d_X11_beginFill_11 rfl (jm_okI (by decide) (by decide)) ?_
  refine jm_putI (k := 43) (ki := 43) cf_X11 (Nat.le_of_ble_eq_true rfl) f_X11_320 d_X11_beginFill_12 (fun z => absurd z (by decide)) rfl rfl rfl (fun _ => rfl) is_133 ?_
  refine jm_iconst (v := 0) d_X11_beginFill_15 rfl (jm_okI (by decide) (by decide)) ?_
  refine jm_istoren (L' := [some (jm_R _), some (jm_I _)]) d_X11_beginFill_16 (Nat.le_of_ble_eq_true rfl) rfl ?_
  exact h
set_option maxRecDepth 20000 in
theorem r_X11_beginFill_17 {E : jm_E} {d : Nat} {μ : jm_M} {Q : Option jm_V → jm_M → Prop} {v1 : Int} (h :
  ((24 ≤ v1 →
    Q none μ) ∧
   (¬ (24 ≤ v1) →
    (0 ≤ v1 ∧ v1 < 24) ∧
    ∀ m3 : jm_M, m3 = (jm_up μ 153 v1 0) →
    ∀ m4 : jm_M, m4 = (jm_up m3 154 v1 0) →
    ∀ m5 : jm_M, m5 = (jm_up m4 155 v1 0) →
    jg E m_X11_beginFill d 17 [some (jm_R 133), some (jm_I (jm_wr (v1 + 1)))] [] m5 Q))) : jg E m_X11_beginFill d 17 [some (jm_R 133), some (jm_I v1)] [] μ Q := by
  refine jm_iloadn d_X11_beginFill_17 rfl ?_
  refine jm_bipush (v := 24) d_X11_beginFill_18 rfl (jm_okI (by decide) (by decide)) ?_
  refine jm_icmp_ge (tgt := 50) d_X11_beginFill_20 (by decide) (fun c1 => ?_) (fun c1 => ?_)
  · have h := h.1 c1
    exact jm_ret (o := none) d_X11_beginFill_50 rfl ⟨Nat.le_refl _, Nat.le_refl _⟩ jm_r_V h rfl
  · have h := h.2 c1
    refine jm_aloadn d_X11_beginFill_23 rfl ?_
    refine jm_getF (k := 36) (ki := 36) rfl cf_X11 (Nat.le_of_ble_eq_true rfl) f_X11_69 d_X11_beginFill_24 rfl rfl is_133 fr_133_36 ?_
    refine jm_iloadn d_X11_beginFill_27 rfl ?_
    refine jm_iconst (v := 0) d_X11_beginFill_28 rfl (jm_okI (by decide) (by decide)) ?_
    obtain ⟨f2, h⟩ := h
    refine jm_iastore d_X11_beginFill_29 (ixl_153 f2.1 f2.2) ?_
    have h := h _ rfl
    refine jm_aloadn d_X11_beginFill_30 rfl ?_
    refine jm_getF (k := 37) (ki := 37) rfl cf_X11 (Nat.le_of_ble_eq_true rfl) f_X11_72 d_X11_beginFill_31 rfl rfl is_133 fr_133_37 ?_
    refine jm_iloadn d_X11_beginFill_34 rfl ?_
    refine jm_iconst (v := 0) d_X11_beginFill_35 rfl (jm_okI (by decide) (by decide)) ?_
    refine jm_iastore d_X11_beginFill_36 (ixl_154 f2.1 f2.2) ?_
    have h := h _ rfl
    refine jm_aloadn d_X11_beginFill_37 rfl ?_
    refine jm_getF (k := 38) (ki := 38) rfl cf_X11 (Nat.le_of_ble_eq_true rfl) f_X11_75 d_X11_beginFill_38 rfl rfl is_133 fr_133_38 ?_
    refine jm_iloadn d_X11_beginFill_41 rfl ?_
    refine jm_iconst (v := 0) d_X11_beginFill_42 rfl (jm_okI (by decide) (by decide)) ?_
    refine jm_iastore d_X11_beginFill_43 (ixl_155 f2.1 f2.2) ?_
    have h := h _ rfl
    refine jm_iinc (L' := [some (jm_R _), some (jm_I _)]) d_X11_beginFill_44 rfl rfl (Nat.le_of_ble_eq_true rfl) rfl ?_
    refine jm_goto (tgt := 17) d_X11_beginFill_47 (by decide) ?_
    exact h
/-! ('CombTableModel', 'wholes', '(I)I') -/
theorem d_X11_wholes_0 : decode m_X11_wholes.2.1 0 = .ok (.aload_n 0, 1) := by decide +kernel
theorem d_X11_wholes_1 : decode m_X11_wholes.2.1 1 = .ok (.iconst 0, 1) := by decide +kernel
theorem d_X11_wholes_2 : decode m_X11_wholes.2.1 2 = .ok (.putfield 106, 3) := by decide +kernel
theorem d_X11_wholes_5 : decode m_X11_wholes.2.1 5 = .ok (.iload_n 1, 1) := by decide +kernel
theorem d_X11_wholes_6 : decode m_X11_wholes.2.1 6 = .ok (.iconst 0, 1) := by decide +kernel
theorem d_X11_wholes_7 : decode m_X11_wholes.2.1 7 = .ok (.iconst 2, 1) := by decide +kernel
theorem d_X11_wholes_8 : decode m_X11_wholes.2.1 8 = .ok (.invokestatic 177, 3) := by decide +kernel
theorem d_X11_wholes_11 : decode m_X11_wholes.2.1 11 = .ok (.ifCond .ne 5, 3) := by decide +kernel
theorem d_X11_wholes_14 : decode m_X11_wholes.2.1 14 = .ok (.iconst (-1), 1) := by decide +kernel
theorem d_X11_wholes_15 : decode m_X11_wholes.2.1 15 = .ok (.ireturn, 1) := by decide +kernel
theorem d_X11_wholes_16 : decode m_X11_wholes.2.1 16 = .ok (.aload_n 0, 1) := by decide +kernel
theorem d_X11_wholes_17 : decode m_X11_wholes.2.1 17 = .ok (.iconst 1, 1) := by decide +kernel
theorem d_X11_wholes_18 : decode m_X11_wholes.2.1 18 = .ok (.sipush 20000, 3) := by decide +kernel
theorem d_X11_wholes_21 : decode m_X11_wholes.2.1 21 = .ok (.invokevirtual 329, 3) := by decide +kernel
theorem d_X11_wholes_24 : decode m_X11_wholes.2.1 24 = .ok (.sipush 20000, 3) := by decide +kernel
theorem d_X11_wholes_27 : decode m_X11_wholes.2.1 27 = .ok (.if_icmp .le 6, 3) := by decide +kernel
theorem d_X11_wholes_30 : decode m_X11_wholes.2.1 30 = .ok (.bipush (-2), 2) := by decide +kernel
theorem d_X11_wholes_32 : decode m_X11_wholes.2.1 32 = .ok (.ireturn, 1) := by decide +kernel
theorem d_X11_wholes_33 : decode m_X11_wholes.2.1 33 = .ok (.aload_n 0, 1) := by decide +kernel
theorem d_X11_wholes_34 : decode m_X11_wholes.2.1 34 = .ok (.invokevirtual 332, 3) := by decide +kernel
theorem d_X11_wholes_37 : decode m_X11_wholes.2.1 37 = .ok (.aload_n 0, 1) := by decide +kernel
theorem d_X11_wholes_38 : decode m_X11_wholes.2.1 38 = .ok (.getfield 13, 3) := by decide +kernel
theorem d_X11_wholes_41 : decode m_X11_wholes.2.1 41 = .ok (.sipush 861, 3) := by decide +kernel
theorem d_X11_wholes_44 : decode m_X11_wholes.2.1 44 = .ok (.iaload, 1) := by decide +kernel
theorem d_X11_wholes_45 : decode m_X11_wholes.2.1 45 = .ok (.istore_n 2, 1) := by decide +kernel
theorem d_X11_wholes_46 : decode m_X11_wholes.2.1 46 = .ok (.iload_n 1, 1) := by decide +kernel
theorem d_X11_wholes_47 : decode m_X11_wholes.2.1 47 = .ok (.ifCond .ne 14, 3) := by decide +kernel
theorem d_X11_wholes_50 : decode m_X11_wholes.2.1 50 = .ok (.aload_n 0, 1) := by decide +kernel
theorem d_X11_wholes_51 : decode m_X11_wholes.2.1 51 = .ok (.iconst (-1), 1) := by decide +kernel
theorem d_X11_wholes_52 : decode m_X11_wholes.2.1 52 = .ok (.iconst (-1), 1) := by decide +kernel
theorem d_X11_wholes_53 : decode m_X11_wholes.2.1 53 = .ok (.invokevirtual 335, 3) := by decide +kernel
theorem d_X11_wholes_56 : decode m_X11_wholes.2.1 56 = .ok (.aload_n 0, 1) := by decide +kernel
theorem d_X11_wholes_57 : decode m_X11_wholes.2.1 57 = .ok (.iconst 0, 1) := by decide +kernel
theorem d_X11_wholes_58 : decode m_X11_wholes.2.1 58 = .ok (.invokevirtual 323, 3) := by decide +kernel
theorem d_X11_wholes_61 : decode m_X11_wholes.2.1 61 = .ok (.iconst 0, 1) := by decide +kernel
theorem d_X11_wholes_62 : decode m_X11_wholes.2.1 62 = .ok (.istore_n 3, 1) := by decide +kernel
theorem d_X11_wholes_63 : decode m_X11_wholes.2.1 63 = .ok (.iload_n 3, 1) := by decide +kernel
theorem d_X11_wholes_64 : decode m_X11_wholes.2.1 64 = .ok (.iload_n 2, 1) := by decide +kernel
theorem d_X11_wholes_65 : decode m_X11_wholes.2.1 65 = .ok (.if_icmp .ge 57, 3) := by decide +kernel
theorem d_X11_wholes_68 : decode m_X11_wholes.2.1 68 = .ok (.iload_n 1, 1) := by decide +kernel
theorem d_X11_wholes_69 : decode m_X11_wholes.2.1 69 = .ok (.ifCond .le 53, 3) := by decide +kernel
theorem d_X11_wholes_72 : decode m_X11_wholes.2.1 72 = .ok (.iload_n 1, 1) := by decide +kernel
theorem d_X11_wholes_73 : decode m_X11_wholes.2.1 73 = .ok (.iconst 2, 1) := by decide +kernel
theorem d_X11_wholes_74 : decode m_X11_wholes.2.1 74 = .ok (.if_icmp .ne 13, 3) := by decide +kernel
theorem d_X11_wholes_77 : decode m_X11_wholes.2.1 77 = .ok (.iload_n 3, 1) := by decide +kernel
theorem d_X11_wholes_78 : decode m_X11_wholes.2.1 78 = .ok (.iload_n 2, 1) := by decide +kernel
theorem d_X11_wholes_79 : decode m_X11_wholes.2.1 79 = .ok (.iconst 1, 1) := by decide +kernel
theorem d_X11_wholes_80 : decode m_X11_wholes.2.1 80 = .ok (.isub, 1) := by decide +kernel
theorem d_X11_wholes_81 : decode m_X11_wholes.2.1 81 = .ok (.if_icmp .ne 6, 3) := by decide +kernel
theorem d_X11_wholes_84 : decode m_X11_wholes.2.1 84 = .ok (.goto 38, 3) := by decide +kernel
theorem d_X11_wholes_87 : decode m_X11_wholes.2.1 87 = .ok (.aload_n 0, 1) := by decide +kernel
theorem d_X11_wholes_88 : decode m_X11_wholes.2.1 88 = .ok (.iload_n 1, 1) := by decide +kernel
theorem d_X11_wholes_89 : decode m_X11_wholes.2.1 89 = .ok (.iconst 1, 1) := by decide +kernel
theorem d_X11_wholes_90 : decode m_X11_wholes.2.1 90 = .ok (.if_icmp .ne 7, 3) := by decide +kernel
theorem d_X11_wholes_93 : decode m_X11_wholes.2.1 93 = .ok (.iload_n 3, 1) := by decide +kernel
theorem d_X11_wholes_94 : decode m_X11_wholes.2.1 94 = .ok (.goto 4, 3) := by decide +kernel
theorem d_X11_wholes_97 : decode m_X11_wholes.2.1 97 = .ok (.iconst (-1), 1) := by decide +kernel
theorem d_X11_wholes_98 : decode m_X11_wholes.2.1 98 = .ok (.iload_n 1, 1) := by decide +kernel
theorem d_X11_wholes_99 : decode m_X11_wholes.2.1 99 = .ok (.iconst 2, 1) := by decide +kernel
theorem d_X11_wholes_100 : decode m_X11_wholes.2.1 100 = .ok (.if_icmp .ne 7, 3) := by decide +kernel
theorem d_X11_wholes_103 : decode m_X11_wholes.2.1 103 = .ok (.iload_n 3, 1) := by decide +kernel
theorem d_X11_wholes_104 : decode m_X11_wholes.2.1 104 = .ok (.goto 4, 3) := by decide +kernel
theorem d_X11_wholes_107 : decode m_X11_wholes.2.1 107 = .ok (.iconst (-1), 1) := by decide +kernel
theorem d_X11_wholes_108 : decode m_X11_wholes.2.1 108 = .ok (.invokevirtual 335, 3) := by decide +kernel
theorem d_X11_wholes_111 : decode m_X11_wholes.2.1 111 = .ok (.aload_n 0, 1) := by decide +kernel
theorem d_X11_wholes_112 : decode m_X11_wholes.2.1 112 = .ok (.iconst 0, 1) := by decide +kernel
theorem d_X11_wholes_113 : decode m_X11_wholes.2.1 113 = .ok (.invokevirtual 323, 3) := by decide +kernel
theorem d_X11_wholes_116 : decode m_X11_wholes.2.1 116 = .ok (.iinc 3 1, 3) := by decide +kernel
theorem d_X11_wholes_119 : decode m_X11_wholes.2.1 119 = .ok (.goto (-56), 3) := by decide +kernel
theorem d_X11_wholes_122 : decode m_X11_wholes.2.1 122 = .ok (.aload_n 0, 1) := by decide +kernel
theorem d_X11_wholes_123 : decode m_X11_wholes.2.1 123 = .ok (.aload_n 0, 1) := by decide +kernel
theorem d_X11_wholes_124 : decode m_X11_wholes.2.1 124 = .ok (.getfield 320, 3) := by decide +kernel
theorem d_X11_wholes_127 : decode m_X11_wholes.2.1 127 = .ok (.ifCond .ne 7, 3) := by decide +kernel
theorem d_X11_wholes_130 : decode m_X11_wholes.2.1 130 = .ok (.iconst 0, 1) := by decide +kernel
theorem d_X11_wholes_131 : decode m_X11_wholes.2.1 131 = .ok (.goto 15, 3) := by decide +kernel
theorem d_X11_wholes_134 : decode m_X11_wholes.2.1 134 = .ok (.iload_n 1, 1) := by decide +kernel
theorem d_X11_wholes_135 : decode m_X11_wholes.2.1 135 = .ok (.iconst 1, 1) := by decide +kernel
theorem d_X11_wholes_136 : decode m_X11_wholes.2.1 136 = .ok (.if_icmp .ne 9, 3) := by decide +kernel
theorem d_X11_wholes_139 : decode m_X11_wholes.2.1 139 = .ok (.iload_n 2, 1) := by decide +kernel
theorem d_X11_wholes_140 : decode m_X11_wholes.2.1 140 = .ok (.iconst 1, 1) := by decide +kernel
theorem d_X11_wholes_141 : decode m_X11_wholes.2.1 141 = .ok (.isub, 1) := by decide +kernel
theorem d_X11_wholes_142 : decode m_X11_wholes.2.1 142 = .ok (.goto 4, 3) := by decide +kernel
theorem d_X11_wholes_145 : decode m_X11_wholes.2.1 145 = .ok (.iload_n 2, 1) := by decide +kernel
theorem d_X11_wholes_146 : decode m_X11_wholes.2.1 146 = .ok (.putfield 338, 3) := by decide +kernel
theorem d_X11_wholes_149 : decode m_X11_wholes.2.1 149 = .ok (.iconst 0, 1) := by decide +kernel
theorem d_X11_wholes_150 : decode m_X11_wholes.2.1 150 = .ok (.istore_n 3, 1) := by decide +kernel
theorem d_X11_wholes_151 : decode m_X11_wholes.2.1 151 = .ok (.iload_n 3, 1) := by decide +kernel
theorem d_X11_wholes_152 : decode m_X11_wholes.2.1 152 = .ok (.aload_n 0, 1) := by decide +kernel
theorem d_X11_wholes_153 : decode m_X11_wholes.2.1 153 = .ok (.getfield 338, 3) := by decide +kernel
theorem d_X11_wholes_156 : decode m_X11_wholes.2.1 156 = .ok (.if_icmp .ge 45, 3) := by decide +kernel
theorem d_X11_wholes_159 : decode m_X11_wholes.2.1 159 = .ok (.aload_n 0, 1) := by decide +kernel
theorem d_X11_wholes_160 : decode m_X11_wholes.2.1 160 = .ok (.getfield 78, 3) := by decide +kernel
theorem d_X11_wholes_163 : decode m_X11_wholes.2.1 163 = .ok (.iload_n 3, 1) := by decide +kernel
theorem d_X11_wholes_164 : decode m_X11_wholes.2.1 164 = .ok (.aload_n 0, 1) := by decide +kernel
theorem d_X11_wholes_165 : decode m_X11_wholes.2.1 165 = .ok (.getfield 69, 3) := by decide +kernel
theorem d_X11_wholes_168 : decode m_X11_wholes.2.1 168 = .ok (.iload_n 3, 1) := by decide +kernel
theorem d_X11_wholes_169 : decode m_X11_wholes.2.1 169 = .ok (.iaload, 1) := by decide +kernel
theorem d_X11_wholes_170 : decode m_X11_wholes.2.1 170 = .ok (.iastore, 1) := by decide +kernel
theorem d_X11_wholes_171 : decode m_X11_wholes.2.1 171 = .ok (.aload_n 0, 1) := by decide +kernel
theorem d_X11_wholes_172 : decode m_X11_wholes.2.1 172 = .ok (.getfield 81, 3) := by decide +kernel
theorem d_X11_wholes_175 : decode m_X11_wholes.2.1 175 = .ok (.iload_n 3, 1) := by decide +kernel
theorem d_X11_wholes_176 : decode m_X11_wholes.2.1 176 = .ok (.aload_n 0, 1) := by decide +kernel
theorem d_X11_wholes_177 : decode m_X11_wholes.2.1 177 = .ok (.getfield 72, 3) := by decide +kernel
theorem d_X11_wholes_180 : decode m_X11_wholes.2.1 180 = .ok (.iload_n 3, 1) := by decide +kernel
theorem d_X11_wholes_181 : decode m_X11_wholes.2.1 181 = .ok (.iaload, 1) := by decide +kernel
theorem d_X11_wholes_182 : decode m_X11_wholes.2.1 182 = .ok (.iastore, 1) := by decide +kernel
theorem d_X11_wholes_183 : decode m_X11_wholes.2.1 183 = .ok (.aload_n 0, 1) := by decide +kernel
theorem d_X11_wholes_184 : decode m_X11_wholes.2.1 184 = .ok (.getfield 84, 3) := by decide +kernel
theorem d_X11_wholes_187 : decode m_X11_wholes.2.1 187 = .ok (.iload_n 3, 1) := by decide +kernel
theorem d_X11_wholes_188 : decode m_X11_wholes.2.1 188 = .ok (.aload_n 0, 1) := by decide +kernel
theorem d_X11_wholes_189 : decode m_X11_wholes.2.1 189 = .ok (.getfield 75, 3) := by decide +kernel
theorem d_X11_wholes_192 : decode m_X11_wholes.2.1 192 = .ok (.iload_n 3, 1) := by decide +kernel
theorem d_X11_wholes_193 : decode m_X11_wholes.2.1 193 = .ok (.iaload, 1) := by decide +kernel
theorem d_X11_wholes_194 : decode m_X11_wholes.2.1 194 = .ok (.iastore, 1) := by decide +kernel
theorem d_X11_wholes_195 : decode m_X11_wholes.2.1 195 = .ok (.iinc 3 1, 3) := by decide +kernel
theorem d_X11_wholes_198 : decode m_X11_wholes.2.1 198 = .ok (.goto (-47), 3) := by decide +kernel
theorem d_X11_wholes_201 : decode m_X11_wholes.2.1 201 = .ok (.aload_n 0, 1) := by decide +kernel
theorem d_X11_wholes_202 : decode m_X11_wholes.2.1 202 = .ok (.getfield 320, 3) := by decide +kernel
theorem d_X11_wholes_205 : decode m_X11_wholes.2.1 205 = .ok (.ireturn, 1) := by decide +kernel
set_option maxRecDepth 20000 in
theorem e_X11_wholes {E : jm_E} {d : Nat} {μ : jm_M} {Q : Option jm_V → jm_M → Prop} {v1 : Int} (h : (∀ v ∈ ([jm_R 133, jm_I v1] : List jm_V), jm_ok v) →
  jc E m_X11_isIn d [jm_I v1, jm_I 0, jm_I 2] (jm_up μ 133 0 0) (fun (o : Option jm_V) (m1 : jm_M) => ∀ r2 : Int, o = some (jm_I r2) → (r2 = 0 ∨ r2 = 1) →
  ((r2 ≠ 0 →
    jc E m_X11_fillings d [jm_R 133, jm_I 1, jm_I 20000] m1 (fun (o : Option jm_V) (m5 : jm_M) => ∀ r6 : Int, o = some (jm_I r6) →
    ((r6 ≤ 20000 →
      jc E m_X11_beginFill d [jm_R 133] m5 (fun (o : Option jm_V) (m8 : jm_M) => o = none →
      ∀ x9 : Int, x9 = m8 135 861 →
      ((v1 ≠ 0 →
        jg E m_X11_wholes d 63 [some (jm_R 133), some (jm_I v1), some (jm_I x9), some (jm_I 0)] [] m8 Q) ∧
       (¬ (v1 ≠ 0) →
        jc E m_X11_layTorn d [jm_R 133, jm_I ((-1)), jm_I ((-1))] m8 (fun (o : Option jm_V) (m11 : jm_M) => o = none →
        jc E m_X11_fill d [jm_R 133, jm_I 0] m11 (fun (o : Option jm_V) (m12 : jm_M) => o = none →
        jg E m_X11_wholes d 63 [some (jm_R 133), some (jm_I v1), some (jm_I x9), some (jm_I 0)] [] m12 Q)))))) ∧
     (¬ (r6 ≤ 20000) →
      Q (some (jm_I ((-2)))) m5)))) ∧
   (¬ (r2 ≠ 0) →
    Q (some (jm_I ((-1)))) m1)))) : jc E m_X11_wholes (d + 1) [jm_R 133, jm_I v1] μ Q := by
  refine jm_Cl.of2 (by decide +kernel) (L0 := [some (jm_R 133), some (jm_I v1), none, none]) rfl (Nat.le_of_ble_eq_true rfl) (fun hok => ?_)
  have h := h hok
  refine jm_aloadn d_X11_wholes_0 rfl ?_
  refine jm_iconst (v := 0) d_X11_wholes_1 rfl (jm_okI (by decide) (by decide)) ?_
  refine jm_putI (k := 0) (ki := 0) cf_X11 (Nat.le_of_ble_eq_true rfl) f_X11_106 d_X11_wholes_2 (fun z => absurd z (by decide)) rfl rfl rfl (fun _ => rfl) is_133 ?_
  refine jm_iloadn d_X11_wholes_5 rfl ?_
  refine jm_iconst (v := 0) d_X11_wholes_6 rfl (jm_okI (by decide) (by decide)) ?_
  refine jm_iconst (v := 2) d_X11_wholes_7 rfl (jm_okI (by decide) (by decide)) ?_
  refine jm_invS (n1 := jm_N) (mc := 0) (ms := 0) (av := [jm_I _, jm_I _, jm_I _]) w_X11_isIn l_X11_177 d_X11_wholes_8 rfl ⟨Nat.le_refl _, Nat.le_refl _⟩ (Nat.le_of_ble_eq_true rfl) rfl ?_
  refine jm_Cl.mono h (fun o m1 h hr _ => ?_)
  obtain ⟨r2, rfl, z3⟩ := jm_rokZ hr
  have h := h _ rfl z3
  refine jm_if_ne (tgt := 16) d_X11_wholes_11 (by decide) (fun c4 => ?_) (fun c4 => ?_)
  · have h := h.1 c4
    refine jm_aloadn d_X11_wholes_16 rfl ?_
    refine jm_iconst (v := 1) d_X11_wholes_17 rfl (jm_okI (by decide) (by decide)) ?_
    refine jm_sipush (v := 20000) d_X11_wholes_18 rfl (jm_okI (by decide) (by decide)) ?_
    refine jm_invV (n1 := jm_N) (mc := 0) (ms := 0) (av := [jm_I _, jm_I _]) w_X11_fillings l_X11_329 d_X11_wholes_21 rfl is_133 ⟨_, _, rfl⟩ ⟨Nat.le_refl _, Nat.le_refl _⟩ (Nat.le_of_ble_eq_true rfl) rfl ?_
    refine jm_Cl.mono h (fun o m5 h hr _ => ?_)
    obtain ⟨r6, rfl⟩ := jm_rokI hr
    have h := h _ rfl
    refine jm_sipush (v := 20000) d_X11_wholes_24 rfl (jm_okI (by decide) (by decide)) ?_
    refine jm_icmp_le (tgt := 33) d_X11_wholes_27 (by decide) (fun c7 => ?_) (fun c7 => ?_)
    · have h := h.1 c7
      refine jm_aloadn d_X11_wholes_33 rfl ?_
      refine jm_invV (n1 := jm_N) (mc := 0) (ms := 0) (av := []) w_X11_beginFill l_X11_332 d_X11_wholes_34 rfl is_133 ⟨_, _, rfl⟩ ⟨Nat.le_refl _, Nat.le_refl _⟩ (Nat.le_of_ble_eq_true rfl) rfl ?_
      refine jm_Cl.mono h (fun o m8 h hr _ => ?_)
      obtain rfl := jm_rokV hr
      have h := h rfl
      refine jm_aloadn d_X11_wholes_37 rfl ?_
      refine jm_getF (k := 14) (ki := 14) rfl cf_X11 (Nat.le_of_ble_eq_true rfl) f_X11_13 d_X11_wholes_38 rfl rfl is_133 fr_133_14 ?_
      refine jm_sipush (v := 861) d_X11_wholes_41 rfl (jm_okI (by decide) (by decide)) ?_
      refine jm_iaload d_X11_wholes_44 (ixl_135 (by decide) (by decide)) ?_
      have h := h _ rfl
      refine jm_istoren (L' := [some (jm_R _), some (jm_I _), some (jm_I _), none]) d_X11_wholes_45 (Nat.le_of_ble_eq_true rfl) rfl ?_
      refine jm_iloadn d_X11_wholes_46 rfl ?_
      refine jm_if_ne (tgt := 61) d_X11_wholes_47 (by decide) (fun c10 => ?_) (fun c10 => ?_)
      · have h := h.1 c10
        refine jm_iconst (v := 0) d_X11_wholes_61 rfl (jm_okI (by decide) (by decide)) ?_
        refine jm_istoren (L' := [some (jm_R _), some (jm_I _), some (jm_I _), some (jm_I _)]) d_X11_wholes_62 (Nat.le_of_ble_eq_true rfl) rfl ?_
        exact h
      · have h := h.2 c10
        refine jm_aloadn d_X11_wholes_50 rfl ?_
        refine jm_iconst (v := (-1)) d_X11_wholes_51 rfl (jm_okI (by decide) (by decide)) ?_
        refine jm_iconst (v := (-1)) d_X11_wholes_52 rfl (jm_okI (by decide) (by decide)) ?_
        refine jm_invV (n1 := jm_N) (mc := 0) (ms := 0) (av := [jm_I _, jm_I _]) w_X11_layTorn l_X11_335 d_X11_wholes_53 rfl is_133 ⟨_, _, rfl⟩ ⟨Nat.le_refl _, Nat.le_refl _⟩ (Nat.le_of_ble_eq_true rfl) rfl ?_
        refine jm_Cl.mono h (fun o m11 h hr _ => ?_)
        obtain rfl := jm_rokV hr
        have h := h rfl
        refine jm_aloadn d_X11_wholes_56 rfl ?_
        refine jm_iconst (v := 0) d_X11_wholes_57 rfl (jm_okI (by decide) (by decide)) ?_
        refine jm_invV (n1 := jm_N) (mc := 0) (ms := 0) (av := [jm_I _]) w_X11_fill l_X11_323 d_X11_wholes_58 rfl is_133 ⟨_, _, rfl⟩ ⟨Nat.le_refl _, Nat.le_refl _⟩ (Nat.le_of_ble_eq_true rfl) rfl ?_
        refine jm_Cl.mono h (fun o m12 h hr _ => ?_)
        obtain rfl := jm_rokV hr
        have h := h rfl
        refine jm_iconst (v := 0) d_X11_wholes_61 rfl (jm_okI (by decide) (by decide)) ?_
        refine jm_istoren (L' := [some (jm_R _), some (jm_I _), some (jm_I _), some (jm_I _)]) d_X11_wholes_62 (Nat.le_of_ble_eq_true rfl) rfl ?_
        exact h
    · have h := h.2 c7
      refine jm_bipush (v := (-2)) d_X11_wholes_30 rfl (jm_okI (by decide) (by decide)) ?_
      exact jm_ret (o := some (jm_I _)) d_X11_wholes_32 rfl ⟨Nat.le_refl _, Nat.le_refl _⟩ jm_r_I h rfl
  · have h := h.2 c4
    refine jm_iconst (v := (-1)) d_X11_wholes_14 rfl (jm_okI (by decide) (by decide)) ?_
    exact jm_ret (o := some (jm_I _)) d_X11_wholes_15 rfl ⟨Nat.le_refl _, Nat.le_refl _⟩ jm_r_I h rfl
set_option maxRecDepth 20000 in
theorem r_X11_wholes_63 {E : jm_E} {d : Nat} {μ : jm_M} {Q : Option jm_V → jm_M → Prop} {v1 v2 v3 : Int} (h :
  ((v2 ≤ v3 →
    jg E m_X11_wholes d 122 [some (jm_R 133), some (jm_I v1), some (jm_I v2), none] [] μ Q) ∧
   (¬ (v2 ≤ v3) →
    ((v1 ≤ 0 →
      jg E m_X11_wholes d 122 [some (jm_R 133), some (jm_I v1), some (jm_I v2), none] [] μ Q) ∧
     (¬ (v1 ≤ 0) →
      ((v1 ≠ 2 →
        jg E m_X11_wholes d 87 [some (jm_R 133), some (jm_I v1), some (jm_I v2), some (jm_I v3)] [] μ Q) ∧
       (¬ (v1 ≠ 2) →
        ((v3 ≠ (jm_wr (v2 - 1)) →
          jg E m_X11_wholes d 87 [some (jm_R 133), some (jm_I v1), some (jm_I v2), some (jm_I v3)] [] μ Q) ∧
         (¬ (v3 ≠ (jm_wr (v2 - 1))) →
          jg E m_X11_wholes d 122 [some (jm_R 133), some (jm_I v1), some (jm_I v2), none] [] μ Q))))))))) : jg E m_X11_wholes d 63 [some (jm_R 133), some (jm_I v1), some (jm_I v2), some (jm_I v3)] [] μ Q := by
  refine jm_iloadn d_X11_wholes_63 rfl ?_
  refine jm_iloadn d_X11_wholes_64 rfl ?_
  refine jm_icmp_ge (tgt := 122) d_X11_wholes_65 (by decide) (fun c1 => ?_) (fun c1 => ?_)
  · have h := h.1 c1
    exact jm_weak2 h (And.intro rfl (And.intro rfl (And.intro rfl trivial)))
  · have h := h.2 c1
    refine jm_iloadn d_X11_wholes_68 rfl ?_
    refine jm_if_le (tgt := 122) d_X11_wholes_69 (by decide) (fun c2 => ?_) (fun c2 => ?_)
    · have h := h.1 c2
      exact jm_weak2 h (And.intro rfl (And.intro rfl (And.intro rfl trivial)))
    · have h := h.2 c2
      refine jm_iloadn d_X11_wholes_72 rfl ?_
      refine jm_iconst (v := 2) d_X11_wholes_73 rfl (jm_okI (by decide) (by decide)) ?_
      refine jm_icmp_ne (tgt := 87) d_X11_wholes_74 (by decide) (fun c3 => ?_) (fun c3 => ?_)
      · have h := h.1 c3
        exact h
      · have h := h.2 c3
        refine jm_iloadn d_X11_wholes_77 rfl ?_
        refine jm_iloadn d_X11_wholes_78 rfl ?_
        refine jm_iconst (v := 1) d_X11_wholes_79 rfl (jm_okI (by decide) (by decide)) ?_
        refine jm_isub d_X11_wholes_80 ?_
        refine jm_icmp_ne (tgt := 87) d_X11_wholes_81 (by decide) (fun c4 => ?_) (fun c4 => ?_)
        · have h := h.1 c4
          exact h
        · have h := h.2 c4
          refine jm_goto (tgt := 122) d_X11_wholes_84 (by decide) ?_
          exact jm_weak2 h (And.intro rfl (And.intro rfl (And.intro rfl trivial)))
set_option maxRecDepth 20000 in
theorem r_X11_wholes_87 {E : jm_E} {d : Nat} {μ : jm_M} {Q : Option jm_V → jm_M → Prop} {v1 v2 v3 : Int} (h :
  ((v1 ≠ 1 →
    ((v1 ≠ 2 →
      jc E m_X11_layTorn d [jm_R 133, jm_I ((-1)), jm_I ((-1))] μ (fun (o : Option jm_V) (m3 : jm_M) => o = none →
      jc E m_X11_fill d [jm_R 133, jm_I 0] m3 (fun (o : Option jm_V) (m4 : jm_M) => o = none →
      jg E m_X11_wholes d 63 [some (jm_R 133), some (jm_I v1), some (jm_I v2), some (jm_I (jm_wr (v3 + 1)))] [] m4 Q))) ∧
     (¬ (v1 ≠ 2) →
      jc E m_X11_layTorn d [jm_R 133, jm_I ((-1)), jm_I v3] μ (fun (o : Option jm_V) (m5 : jm_M) => o = none →
      jc E m_X11_fill d [jm_R 133, jm_I 0] m5 (fun (o : Option jm_V) (m6 : jm_M) => o = none →
      jg E m_X11_wholes d 63 [some (jm_R 133), some (jm_I v1), some (jm_I v2), some (jm_I (jm_wr (v3 + 1)))] [] m6 Q))))) ∧
   (¬ (v1 ≠ 1) →
    ((v1 ≠ 2 →
      jc E m_X11_layTorn d [jm_R 133, jm_I v3, jm_I ((-1))] μ (fun (o : Option jm_V) (m8 : jm_M) => o = none →
      jc E m_X11_fill d [jm_R 133, jm_I 0] m8 (fun (o : Option jm_V) (m9 : jm_M) => o = none →
      jg E m_X11_wholes d 63 [some (jm_R 133), some (jm_I v1), some (jm_I v2), some (jm_I (jm_wr (v3 + 1)))] [] m9 Q))) ∧
     (¬ (v1 ≠ 2) →
      jc E m_X11_layTorn d [jm_R 133, jm_I v3, jm_I v3] μ (fun (o : Option jm_V) (m10 : jm_M) => o = none →
      jc E m_X11_fill d [jm_R 133, jm_I 0] m10 (fun (o : Option jm_V) (m11 : jm_M) => o = none →
      jg E m_X11_wholes d 63 [some (jm_R 133), some (jm_I v1), some (jm_I v2), some (jm_I (jm_wr (v3 + 1)))] [] m11 Q))))))) : jg E m_X11_wholes d 87 [some (jm_R 133), some (jm_I v1), some (jm_I v2), some (jm_I v3)] [] μ Q := by
  refine jm_aloadn d_X11_wholes_87 rfl ?_
  refine jm_iloadn d_X11_wholes_88 rfl ?_
  refine jm_iconst (v := 1) d_X11_wholes_89 rfl (jm_okI (by decide) (by decide)) ?_
  refine jm_icmp_ne (tgt := 97) d_X11_wholes_90 (by decide) (fun c1 => ?_) (fun c1 => ?_)
  · have h := h.1 c1
    refine jm_iconst (v := (-1)) d_X11_wholes_97 rfl (jm_okI (by decide) (by decide)) ?_
    refine jm_iloadn d_X11_wholes_98 rfl ?_
    refine jm_iconst (v := 2) d_X11_wholes_99 rfl (jm_okI (by decide) (by decide)) ?_
    refine jm_icmp_ne (tgt := 107) d_X11_wholes_100 (by decide) (fun c2 => ?_) (fun c2 => ?_)
    · have h := h.1 c2
      refine jm_iconst (v := (-1)) d_X11_wholes_107 rfl (jm_okI (by decide) (by decide)) ?_
      refine jm_invV (n1 := jm_N) (mc := 0) (ms := 0) (av := [jm_I _, jm_I _]) w_X11_layTorn l_X11_335 d_X11_wholes_108 rfl is_133 ⟨_, _, rfl⟩ ⟨Nat.le_refl _, Nat.le_refl _⟩ (Nat.le_of_ble_eq_true rfl) rfl ?_
      refine jm_Cl.mono h (fun o m3 h hr _ => ?_)
      obtain rfl := jm_rokV hr
      have h := h rfl
      refine jm_aloadn d_X11_wholes_111 rfl ?_
      refine jm_iconst (v := 0) d_X11_wholes_112 rfl (jm_okI (by decide) (by decide)) ?_
      refine jm_invV (n1 := jm_N) (mc := 0) (ms := 0) (av := [jm_I _]) w_X11_fill l_X11_323 d_X11_wholes_113 rfl is_133 ⟨_, _, rfl⟩ ⟨Nat.le_refl _, Nat.le_refl _⟩ (Nat.le_of_ble_eq_true rfl) rfl ?_
      refine jm_Cl.mono h (fun o m4 h hr _ => ?_)
      obtain rfl := jm_rokV hr
      have h := h rfl
      refine jm_iinc (L' := [some (jm_R _), some (jm_I _), some (jm_I _), some (jm_I _)]) d_X11_wholes_116 rfl rfl (Nat.le_of_ble_eq_true rfl) rfl ?_
      refine jm_goto (tgt := 63) d_X11_wholes_119 (by decide) ?_
      exact h
    · have h := h.2 c2
      refine jm_iloadn d_X11_wholes_103 rfl ?_
      refine jm_goto (tgt := 108) d_X11_wholes_104 (by decide) ?_
      refine jm_invV (n1 := jm_N) (mc := 0) (ms := 0) (av := [jm_I _, jm_I _]) w_X11_layTorn l_X11_335 d_X11_wholes_108 rfl is_133 ⟨_, _, rfl⟩ ⟨Nat.le_refl _, Nat.le_refl _⟩ (Nat.le_of_ble_eq_true rfl) rfl ?_
      refine jm_Cl.mono h (fun o m5 h hr _ => ?_)
      obtain rfl := jm_rokV hr
      have h := h rfl
      refine jm_aloadn d_X11_wholes_111 rfl ?_
      refine jm_iconst (v := 0) d_X11_wholes_112 rfl (jm_okI (by decide) (by decide)) ?_
      refine jm_invV (n1 := jm_N) (mc := 0) (ms := 0) (av := [jm_I _]) w_X11_fill l_X11_323 d_X11_wholes_113 rfl is_133 ⟨_, _, rfl⟩ ⟨Nat.le_refl _, Nat.le_refl _⟩ (Nat.le_of_ble_eq_true rfl) rfl ?_
      refine jm_Cl.mono h (fun o m6 h hr _ => ?_)
      obtain rfl := jm_rokV hr
      have h := h rfl
      refine jm_iinc (L' := [some (jm_R _), some (jm_I _), some (jm_I _), some (jm_I _)]) d_X11_wholes_116 rfl rfl (Nat.le_of_ble_eq_true rfl) rfl ?_
      refine jm_goto (tgt := 63) d_X11_wholes_119 (by decide) ?_
      exact h
  · have h := h.2 c1
    refine jm_iloadn d_X11_wholes_93 rfl ?_
    refine jm_goto (tgt := 98) d_X11_wholes_94 (by decide) ?_
    refine jm_iloadn d_X11_wholes_98 rfl ?_
    refine jm_iconst (v := 2) d_X11_wholes_99 rfl (jm_okI (by decide) (by decide)) ?_
    refine jm_icmp_ne (tgt := 107) d_X11_wholes_100 (by decide) (fun c7 => ?_) (fun c7 => ?_)
    · have h := h.1 c7
      refine jm_iconst (v := (-1)) d_X11_wholes_107 rfl (jm_okI (by decide) (by decide)) ?_
      refine jm_invV (n1 := jm_N) (mc := 0) (ms := 0) (av := [jm_I _, jm_I _]) w_X11_layTorn l_X11_335 d_X11_wholes_108 rfl is_133 ⟨_, _, rfl⟩ ⟨Nat.le_refl _, Nat.le_refl _⟩ (Nat.le_of_ble_eq_true rfl) rfl ?_
      refine jm_Cl.mono h (fun o m8 h hr _ => ?_)
      obtain rfl := jm_rokV hr
      have h := h rfl
      refine jm_aloadn d_X11_wholes_111 rfl ?_
      refine jm_iconst (v := 0) d_X11_wholes_112 rfl (jm_okI (by decide) (by decide)) ?_
      refine jm_invV (n1 := jm_N) (mc := 0) (ms := 0) (av := [jm_I _]) w_X11_fill l_X11_323 d_X11_wholes_113 rfl is_133 ⟨_, _, rfl⟩ ⟨Nat.le_refl _, Nat.le_refl _⟩ (Nat.le_of_ble_eq_true rfl) rfl ?_
      refine jm_Cl.mono h (fun o m9 h hr _ => ?_)
      obtain rfl := jm_rokV hr
      have h := h rfl
      refine jm_iinc (L' := [some (jm_R _), some (jm_I _), some (jm_I _), some (jm_I _)]) d_X11_wholes_116 rfl rfl (Nat.le_of_ble_eq_true rfl) rfl ?_
      refine jm_goto (tgt := 63) d_X11_wholes_119 (by decide) ?_
      exact h
    · have h := h.2 c7
      refine jm_iloadn d_X11_wholes_103 rfl ?_
      refine jm_goto (tgt := 108) d_X11_wholes_104 (by decide) ?_
      refine jm_invV (n1 := jm_N) (mc := 0) (ms := 0) (av := [jm_I _, jm_I _]) w_X11_layTorn l_X11_335 d_X11_wholes_108 rfl is_133 ⟨_, _, rfl⟩ ⟨Nat.le_refl _, Nat.le_refl _⟩ (Nat.le_of_ble_eq_true rfl) rfl ?_
      refine jm_Cl.mono h (fun o m10 h hr _ => ?_)
      obtain rfl := jm_rokV hr
      have h := h rfl
      refine jm_aloadn d_X11_wholes_111 rfl ?_
      refine jm_iconst (v := 0) d_X11_wholes_112 rfl (jm_okI (by decide) (by decide)) ?_
      refine jm_invV (n1 := jm_N) (mc := 0) (ms := 0) (av := [jm_I _]) w_X11_fill l_X11_323 d_X11_wholes_113 rfl is_133 ⟨_, _, rfl⟩ ⟨Nat.le_refl _, Nat.le_refl _⟩ (Nat.le_of_ble_eq_true rfl) rfl ?_
      refine jm_Cl.mono h (fun o m11 h hr _ => ?_)
      obtain rfl := jm_rokV hr
      have h := h rfl
      refine jm_iinc (L' := [some (jm_R _), some (jm_I _), some (jm_I _), some (jm_I _)]) d_X11_wholes_116 rfl rfl (Nat.le_of_ble_eq_true rfl) rfl ?_
      refine jm_goto (tgt := 63) d_X11_wholes_119 (by decide) ?_
      exact h
set_option maxRecDepth 20000 in
theorem r_X11_wholes_122 {E : jm_E} {d : Nat} {μ : jm_M} {Q : Option jm_V → jm_M → Prop} {v1 v2 : Int} (h :
  ((μ 133 43 ≠ 0 →
    ((v1 ≠ 1 →
      jg E m_X11_wholes d 151 [some (jm_R 133), none, none, some (jm_I 0)] [] (jm_up μ 133 44 v2) Q) ∧
     (¬ (v1 ≠ 1) →
      jg E m_X11_wholes d 151 [some (jm_R 133), none, none, some (jm_I 0)] [] (jm_up μ 133 44 (jm_wr (v2 - 1))) Q))) ∧
   (¬ (μ 133 43 ≠ 0) →
    jg E m_X11_wholes d 151 [some (jm_R 133), none, none, some (jm_I 0)] [] (jm_up μ 133 44 0) Q))) : jg E m_X11_wholes d 122 [some (jm_R 133), some (jm_I v1), some (jm_I v2), none] [] μ Q := by
  refine jm_aloadn d_X11_wholes_122 rfl ?_
  refine jm_aloadn d_X11_wholes_123 rfl ?_
  refine jm_getI (k := 43) (ki := 43) cf_X11 (Nat.le_of_ble_eq_true rfl) f_X11_320 d_X11_wholes_124 rfl rfl is_133 rfl ?_
  refine jm_if_ne (tgt := 134) d_X11_wholes_127 (by decide) (fun c1 => ?_) (fun c1 => ?_)
  · have h := h.1 c1
    refine jm_iloadn d_X11_wholes_134 rfl ?_
    refine jm_iconst (v := 1) d_X11_wholes_135 rfl (jm_okI (by decide) (by decide)) ?_
    refine jm_icmp_ne (tgt := 145) d_X11_wholes_136 (by decide) (fun c2 => ?_) (fun c2 => ?_)
    · have h := h.1 c2
      refine jm_iloadn d_X11_wholes_145 rfl ?_
      refine jm_putI (k := 44) (ki := 44) cf_X11 (Nat.le_of_ble_eq_true rfl) f_X11_338 d_X11_wholes_146 (fun z => absurd z (by decide)) rfl rfl rfl (fun _ => rfl) is_133 ?_
      refine jm_iconst (v := 0) d_X11_wholes_149 rfl (jm_okI (by decide) (by decide)) ?_
      refine jm_istoren (L' := [some (jm_R _), some (jm_I _), some (jm_I _), some (jm_I _)]) d_X11_wholes_150 (Nat.le_of_ble_eq_true rfl) rfl ?_
      exact jm_weak2 h (And.intro rfl (And.intro rfl trivial))
    · have h := h.2 c2
      refine jm_iloadn d_X11_wholes_139 rfl ?_
      refine jm_iconst (v := 1) d_X11_wholes_140 rfl (jm_okI (by decide) (by decide)) ?_
      refine jm_isub d_X11_wholes_141 ?_
      refine jm_goto (tgt := 146) d_X11_wholes_142 (by decide) ?_
      refine jm_putI (k := 44) (ki := 44) cf_X11 (Nat.le_of_ble_eq_true rfl) f_X11_338 d_X11_wholes_146 (fun z => absurd z (by decide)) rfl rfl rfl (fun _ => rfl) is_133 ?_
      refine jm_iconst (v := 0) d_X11_wholes_149 rfl (jm_okI (by decide) (by decide)) ?_
      refine jm_istoren (L' := [some (jm_R _), some (jm_I _), some (jm_I _), some (jm_I _)]) d_X11_wholes_150 (Nat.le_of_ble_eq_true rfl) rfl ?_
      exact jm_weak2 h (And.intro rfl (And.intro rfl trivial))
  · have h := h.2 c1
    refine jm_iconst (v := 0) d_X11_wholes_130 rfl (jm_okI (by decide) (by decide)) ?_
    refine jm_goto (tgt := 146) d_X11_wholes_131 (by decide) ?_
    refine jm_putI (k := 44) (ki := 44) cf_X11 (Nat.le_of_ble_eq_true rfl) f_X11_338 d_X11_wholes_146 (fun z => absurd z (by decide)) rfl rfl rfl (fun _ => rfl) is_133 ?_
    refine jm_iconst (v := 0) d_X11_wholes_149 rfl (jm_okI (by decide) (by decide)) ?_
    refine jm_istoren (L' := [some (jm_R _), some (jm_I _), some (jm_I _), some (jm_I _)]) d_X11_wholes_150 (Nat.le_of_ble_eq_true rfl) rfl ?_
    exact jm_weak2 h (And.intro rfl (And.intro rfl trivial))
set_option maxRecDepth 20000 in
theorem r_X11_wholes_151 {E : jm_E} {d : Nat} {μ : jm_M} {Q : Option jm_V → jm_M → Prop} {v3 : Int} (h :
  ((μ 133 44 ≤ v3 →
    Q (some (jm_I (μ 133 43))) μ) ∧
   (¬ (μ 133 44 ≤ v3) →
    (0 ≤ v3 ∧ v3 < 24) ∧
    ∀ m3 : jm_M, m3 = (jm_up μ 156 v3 (μ 153 v3)) →
    ∀ m4 : jm_M, m4 = (jm_up m3 157 v3 (m3 154 v3)) →
    ∀ m5 : jm_M, m5 = (jm_up m4 158 v3 (m4 155 v3)) →
    jg E m_X11_wholes d 151 [some (jm_R 133), none, none, some (jm_I (jm_wr (v3 + 1)))] [] m5 Q))) : jg E m_X11_wholes d 151 [some (jm_R 133), none, none, some (jm_I v3)] [] μ Q := by
  refine jm_iloadn d_X11_wholes_151 rfl ?_
  refine jm_aloadn d_X11_wholes_152 rfl ?_
  refine jm_getI (k := 44) (ki := 44) cf_X11 (Nat.le_of_ble_eq_true rfl) f_X11_338 d_X11_wholes_153 rfl rfl is_133 rfl ?_
  refine jm_icmp_ge (tgt := 201) d_X11_wholes_156 (by decide) (fun c1 => ?_) (fun c1 => ?_)
  · have h := h.1 c1
    refine jm_aloadn d_X11_wholes_201 rfl ?_
    refine jm_getI (k := 43) (ki := 43) cf_X11 (Nat.le_of_ble_eq_true rfl) f_X11_320 d_X11_wholes_202 rfl rfl is_133 rfl ?_
    exact jm_ret (o := some (jm_I _)) d_X11_wholes_205 rfl ⟨Nat.le_refl _, Nat.le_refl _⟩ jm_r_I h rfl
  · have h := h.2 c1
    refine jm_aloadn d_X11_wholes_159 rfl ?_
    refine jm_getF (k := 39) (ki := 39) rfl cf_X11 (Nat.le_of_ble_eq_true rfl) f_X11_78 d_X11_wholes_160 rfl rfl is_133 fr_133_39 ?_
    refine jm_iloadn d_X11_wholes_163 rfl ?_
    refine jm_aloadn d_X11_wholes_164 rfl ?_
    refine jm_getF (k := 36) (ki := 36) rfl cf_X11 (Nat.le_of_ble_eq_true rfl) f_X11_69 d_X11_wholes_165 rfl rfl is_133 fr_133_36 ?_
    refine jm_iloadn d_X11_wholes_168 rfl ?_
    obtain ⟨f2, h⟩ := h
    refine jm_iaload d_X11_wholes_169 (ixl_153 f2.1 f2.2) ?_
    refine jm_iastore d_X11_wholes_170 (ixl_156 f2.1 f2.2) ?_
    have h := h _ rfl
    refine jm_aloadn d_X11_wholes_171 rfl ?_
    refine jm_getF (k := 40) (ki := 40) rfl cf_X11 (Nat.le_of_ble_eq_true rfl) f_X11_81 d_X11_wholes_172 rfl rfl is_133 fr_133_40 ?_
    refine jm_iloadn d_X11_wholes_175 rfl ?_
    refine jm_aloadn d_X11_wholes_176 rfl ?_
    refine jm_getF (k := 37) (ki := 37) rfl cf_X11 (Nat.le_of_ble_eq_true rfl) f_X11_72 d_X11_wholes_177 rfl rfl is_133 fr_133_37 ?_
    refine jm_iloadn d_X11_wholes_180 rfl ?_
    refine jm_iaload d_X11_wholes_181 (ixl_154 f2.1 f2.2) ?_
    refine jm_iastore d_X11_wholes_182 (ixl_157 f2.1 f2.2) ?_
    have h := h _ rfl
    refine jm_aloadn d_X11_wholes_183 rfl ?_
    refine jm_getF (k := 41) (ki := 41) rfl cf_X11 (Nat.le_of_ble_eq_true rfl) f_X11_84 d_X11_wholes_184 rfl rfl is_133 fr_133_41 ?_
    refine jm_iloadn d_X11_wholes_187 rfl ?_
    refine jm_aloadn d_X11_wholes_188 rfl ?_
    refine jm_getF (k := 38) (ki := 38) rfl cf_X11 (Nat.le_of_ble_eq_true rfl) f_X11_75 d_X11_wholes_189 rfl rfl is_133 fr_133_38 ?_
    refine jm_iloadn d_X11_wholes_192 rfl ?_
    refine jm_iaload d_X11_wholes_193 (ixl_155 f2.1 f2.2) ?_
    refine jm_iastore d_X11_wholes_194 (ixl_158 f2.1 f2.2) ?_
    have h := h _ rfl
    refine jm_iinc (L' := [some (jm_R _), none, none, some (jm_I _)]) d_X11_wholes_195 rfl rfl (Nat.le_of_ble_eq_true rfl) rfl ?_
    refine jm_goto (tgt := 151) d_X11_wholes_198 (by decide) ?_
    exact h
/-! ('CombTableModel', 'sure', '(II)I') -/
theorem d_X11_sure_0 : decode m_X11_sure.2.1 0 = .ok (.aload_n 0, 1) := by decide +kernel
theorem d_X11_sure_1 : decode m_X11_sure.2.1 1 = .ok (.iconst 0, 1) := by decide +kernel
theorem d_X11_sure_2 : decode m_X11_sure.2.1 2 = .ok (.putfield 106, 3) := by decide +kernel
theorem d_X11_sure_5 : decode m_X11_sure.2.1 5 = .ok (.iload_n 1, 1) := by decide +kernel
theorem d_X11_sure_6 : decode m_X11_sure.2.1 6 = .ok (.ifCond .lt 20, 3) := by decide +kernel
theorem d_X11_sure_9 : decode m_X11_sure.2.1 9 = .ok (.iload_n 1, 1) := by decide +kernel
theorem d_X11_sure_10 : decode m_X11_sure.2.1 10 = .ok (.aload_n 0, 1) := by decide +kernel
theorem d_X11_sure_11 : decode m_X11_sure.2.1 11 = .ok (.getfield 338, 3) := by decide +kernel
theorem d_X11_sure_14 : decode m_X11_sure.2.1 14 = .ok (.if_icmp .ge 12, 3) := by decide +kernel
theorem d_X11_sure_17 : decode m_X11_sure.2.1 17 = .ok (.iload_n 2, 1) := by decide +kernel
theorem d_X11_sure_18 : decode m_X11_sure.2.1 18 = .ok (.iconst 0, 1) := by decide +kernel
theorem d_X11_sure_19 : decode m_X11_sure.2.1 19 = .ok (.iconst 2, 1) := by decide +kernel
theorem d_X11_sure_20 : decode m_X11_sure.2.1 20 = .ok (.invokestatic 177, 3) := by decide +kernel
theorem d_X11_sure_23 : decode m_X11_sure.2.1 23 = .ok (.ifCond .ne 5, 3) := by decide +kernel
theorem d_X11_sure_26 : decode m_X11_sure.2.1 26 = .ok (.iconst (-1), 1) := by decide +kernel
theorem d_X11_sure_27 : decode m_X11_sure.2.1 27 = .ok (.ireturn, 1) := by decide +kernel
theorem d_X11_sure_28 : decode m_X11_sure.2.1 28 = .ok (.iload_n 2, 1) := by decide +kernel
theorem d_X11_sure_29 : decode m_X11_sure.2.1 29 = .ok (.ifCond .ne 12, 3) := by decide +kernel
theorem d_X11_sure_32 : decode m_X11_sure.2.1 32 = .ok (.aload_n 0, 1) := by decide +kernel
theorem d_X11_sure_33 : decode m_X11_sure.2.1 33 = .ok (.getfield 78, 3) := by decide +kernel
theorem d_X11_sure_36 : decode m_X11_sure.2.1 36 = .ok (.iload_n 1, 1) := by decide +kernel
theorem d_X11_sure_37 : decode m_X11_sure.2.1 37 = .ok (.iaload, 1) := by decide +kernel
theorem d_X11_sure_38 : decode m_X11_sure.2.1 38 = .ok (.goto 23, 3) := by decide +kernel
theorem d_X11_sure_41 : decode m_X11_sure.2.1 41 = .ok (.iload_n 2, 1) := by decide +kernel
theorem d_X11_sure_42 : decode m_X11_sure.2.1 42 = .ok (.iconst 1, 1) := by decide +kernel
theorem d_X11_sure_43 : decode m_X11_sure.2.1 43 = .ok (.if_icmp .ne 12, 3) := by decide +kernel
theorem d_X11_sure_46 : decode m_X11_sure.2.1 46 = .ok (.aload_n 0, 1) := by decide +kernel
theorem d_X11_sure_47 : decode m_X11_sure.2.1 47 = .ok (.getfield 81, 3) := by decide +kernel
theorem d_X11_sure_50 : decode m_X11_sure.2.1 50 = .ok (.iload_n 1, 1) := by decide +kernel
theorem d_X11_sure_51 : decode m_X11_sure.2.1 51 = .ok (.iaload, 1) := by decide +kernel
theorem d_X11_sure_52 : decode m_X11_sure.2.1 52 = .ok (.goto 9, 3) := by decide +kernel
theorem d_X11_sure_55 : decode m_X11_sure.2.1 55 = .ok (.aload_n 0, 1) := by decide +kernel
theorem d_X11_sure_56 : decode m_X11_sure.2.1 56 = .ok (.getfield 84, 3) := by decide +kernel
theorem d_X11_sure_59 : decode m_X11_sure.2.1 59 = .ok (.iload_n 1, 1) := by decide +kernel
theorem d_X11_sure_60 : decode m_X11_sure.2.1 60 = .ok (.iaload, 1) := by decide +kernel
theorem d_X11_sure_61 : decode m_X11_sure.2.1 61 = .ok (.ireturn, 1) := by decide +kernel
set_option maxRecDepth 20000 in
theorem e_X11_sure {E : jm_E} {d : Nat} {μ : jm_M} {Q : Option jm_V → jm_M → Prop} {v1 v2 : Int} (h : (∀ v ∈ ([jm_R 133, jm_I v1, jm_I v2] : List jm_V), jm_ok v) →
  ((v1 < 0 →
    Q (some (jm_I ((-1)))) (jm_up μ 133 0 0)) ∧
   (¬ (v1 < 0) →
    ((μ 133 44 ≤ v1 →
      Q (some (jm_I ((-1)))) (jm_up μ 133 0 0)) ∧
     (¬ (μ 133 44 ≤ v1) →
      jc E m_X11_isIn d [jm_I v2, jm_I 0, jm_I 2] (jm_up μ 133 0 0) (fun (o : Option jm_V) (m3 : jm_M) => ∀ r4 : Int, o = some (jm_I r4) → (r4 = 0 ∨ r4 = 1) →
      ((r4 ≠ 0 →
        ((v2 ≠ 0 →
          ((v2 ≠ 1 →
            (0 ≤ v1 ∧ v1 < 24) ∧
            Q (some (jm_I (m3 158 v1))) m3) ∧
           (¬ (v2 ≠ 1) →
            (0 ≤ v1 ∧ v1 < 24) ∧
            Q (some (jm_I (m3 157 v1))) m3))) ∧
         (¬ (v2 ≠ 0) →
          (0 ≤ v1 ∧ v1 < 24) ∧
          Q (some (jm_I (m3 156 v1))) m3))) ∧
       (¬ (r4 ≠ 0) →
        Q (some (jm_I ((-1)))) m3)))))))) : jc E m_X11_sure (d + 1) [jm_R 133, jm_I v1, jm_I v2] μ Q := by
  refine jm_Cl.of2 (by decide +kernel) (L0 := [some (jm_R 133), some (jm_I v1), some (jm_I v2)]) rfl (Nat.le_of_ble_eq_true rfl) (fun hok => ?_)
  have h := h hok
  refine jm_aloadn d_X11_sure_0 rfl ?_
  refine jm_iconst (v := 0) d_X11_sure_1 rfl (jm_okI (by decide) (by decide)) ?_
  refine jm_putI (k := 0) (ki := 0) cf_X11 (Nat.le_of_ble_eq_true rfl) f_X11_106 d_X11_sure_2 (fun z => absurd z (by decide)) rfl rfl rfl (fun _ => rfl) is_133 ?_
  refine jm_iloadn d_X11_sure_5 rfl ?_
  refine jm_if_lt (tgt := 26) d_X11_sure_6 (by decide) (fun c1 => ?_) (fun c1 => ?_)
  · have h := h.1 c1
    refine jm_iconst (v := (-1)) d_X11_sure_26 rfl (jm_okI (by decide) (by decide)) ?_
    exact jm_ret (o := some (jm_I _)) d_X11_sure_27 rfl ⟨Nat.le_refl _, Nat.le_refl _⟩ jm_r_I h rfl
  · have h := h.2 c1
    refine jm_iloadn d_X11_sure_9 rfl ?_
    refine jm_aloadn d_X11_sure_10 rfl ?_
    refine jm_getI (k := 44) (ki := 44) cf_X11 (Nat.le_of_ble_eq_true rfl) f_X11_338 d_X11_sure_11 rfl rfl is_133 ((jm_up_i (by decide)).trans rfl) ?_
    refine jm_icmp_ge (tgt := 26) d_X11_sure_14 (by decide) (fun c2 => ?_) (fun c2 => ?_)
    · have h := h.1 c2
      refine jm_iconst (v := (-1)) d_X11_sure_26 rfl (jm_okI (by decide) (by decide)) ?_
      exact jm_ret (o := some (jm_I _)) d_X11_sure_27 rfl ⟨Nat.le_refl _, Nat.le_refl _⟩ jm_r_I h rfl
    · have h := h.2 c2
      refine jm_iloadn d_X11_sure_17 rfl ?_
      refine jm_iconst (v := 0) d_X11_sure_18 rfl (jm_okI (by decide) (by decide)) ?_
      refine jm_iconst (v := 2) d_X11_sure_19 rfl (jm_okI (by decide) (by decide)) ?_
      refine jm_invS (n1 := jm_N) (mc := 0) (ms := 0) (av := [jm_I _, jm_I _, jm_I _]) w_X11_isIn l_X11_177 d_X11_sure_20 rfl ⟨Nat.le_refl _, Nat.le_refl _⟩ (Nat.le_of_ble_eq_true rfl) rfl ?_
      refine jm_Cl.mono h (fun o m3 h hr _ => ?_)
      obtain ⟨r4, rfl, z5⟩ := jm_rokZ hr
      have h := h _ rfl z5
      refine jm_if_ne (tgt := 28) d_X11_sure_23 (by decide) (fun c6 => ?_) (fun c6 => ?_)
      · have h := h.1 c6
        refine jm_iloadn d_X11_sure_28 rfl ?_
        refine jm_if_ne (tgt := 41) d_X11_sure_29 (by decide) (fun c7 => ?_) (fun c7 => ?_)
        · have h := h.1 c7
          refine jm_iloadn d_X11_sure_41 rfl ?_
          refine jm_iconst (v := 1) d_X11_sure_42 rfl (jm_okI (by decide) (by decide)) ?_
          refine jm_icmp_ne (tgt := 55) d_X11_sure_43 (by decide) (fun c8 => ?_) (fun c8 => ?_)
          · have h := h.1 c8
            refine jm_aloadn d_X11_sure_55 rfl ?_
            refine jm_getF (k := 41) (ki := 41) rfl cf_X11 (Nat.le_of_ble_eq_true rfl) f_X11_84 d_X11_sure_56 rfl rfl is_133 fr_133_41 ?_
            refine jm_iloadn d_X11_sure_59 rfl ?_
            obtain ⟨f9, h⟩ := h
            refine jm_iaload d_X11_sure_60 (ixl_158 f9.1 f9.2) ?_
            exact jm_ret (o := some (jm_I _)) d_X11_sure_61 rfl ⟨Nat.le_refl _, Nat.le_refl _⟩ jm_r_I h rfl
          · have h := h.2 c8
            refine jm_aloadn d_X11_sure_46 rfl ?_
            refine jm_getF (k := 40) (ki := 40) rfl cf_X11 (Nat.le_of_ble_eq_true rfl) f_X11_81 d_X11_sure_47 rfl rfl is_133 fr_133_40 ?_
            refine jm_iloadn d_X11_sure_50 rfl ?_
            obtain ⟨f10, h⟩ := h
            refine jm_iaload d_X11_sure_51 (ixl_157 f10.1 f10.2) ?_
            refine jm_goto (tgt := 61) d_X11_sure_52 (by decide) ?_
            exact jm_ret (o := some (jm_I _)) d_X11_sure_61 rfl ⟨Nat.le_refl _, Nat.le_refl _⟩ jm_r_I h rfl
        · have h := h.2 c7
          refine jm_aloadn d_X11_sure_32 rfl ?_
          refine jm_getF (k := 39) (ki := 39) rfl cf_X11 (Nat.le_of_ble_eq_true rfl) f_X11_78 d_X11_sure_33 rfl rfl is_133 fr_133_39 ?_
          refine jm_iloadn d_X11_sure_36 rfl ?_
          obtain ⟨f11, h⟩ := h
          refine jm_iaload d_X11_sure_37 (ixl_156 f11.1 f11.2) ?_
          refine jm_goto (tgt := 61) d_X11_sure_38 (by decide) ?_
          exact jm_ret (o := some (jm_I _)) d_X11_sure_61 rfl ⟨Nat.le_refl _, Nat.le_refl _⟩ jm_r_I h rfl
      · have h := h.2 c6
        refine jm_iconst (v := (-1)) d_X11_sure_26 rfl (jm_okI (by decide) (by decide)) ?_
        exact jm_ret (o := some (jm_I _)) d_X11_sure_27 rfl ⟨Nat.le_refl _, Nat.le_refl _⟩ jm_r_I h rfl
/-! ('CombTableModel', 'hangs', '()I') -/
theorem d_X11_hangs_0 : decode m_X11_hangs.2.1 0 = .ok (.aload_n 0, 1) := by decide +kernel
theorem d_X11_hangs_1 : decode m_X11_hangs.2.1 1 = .ok (.iconst 0, 1) := by decide +kernel
theorem d_X11_hangs_2 : decode m_X11_hangs.2.1 2 = .ok (.putfield 106, 3) := by decide +kernel
theorem d_X11_hangs_5 : decode m_X11_hangs.2.1 5 = .ok (.aload_n 0, 1) := by decide +kernel
theorem d_X11_hangs_6 : decode m_X11_hangs.2.1 6 = .ok (.aload_n 0, 1) := by decide +kernel
theorem d_X11_hangs_7 : decode m_X11_hangs.2.1 7 = .ok (.getfield 13, 3) := by decide +kernel
theorem d_X11_hangs_10 : decode m_X11_hangs.2.1 10 = .ok (.iconst 0, 1) := by decide +kernel
theorem d_X11_hangs_11 : decode m_X11_hangs.2.1 11 = .ok (.iaload, 1) := by decide +kernel
theorem d_X11_hangs_12 : decode m_X11_hangs.2.1 12 = .ok (.aload_n 0, 1) := by decide +kernel
theorem d_X11_hangs_13 : decode m_X11_hangs.2.1 13 = .ok (.getfield 13, 3) := by decide +kernel
theorem d_X11_hangs_16 : decode m_X11_hangs.2.1 16 = .ok (.iconst 1, 1) := by decide +kernel
theorem d_X11_hangs_17 : decode m_X11_hangs.2.1 17 = .ok (.iaload, 1) := by decide +kernel
theorem d_X11_hangs_18 : decode m_X11_hangs.2.1 18 = .ok (.imul, 1) := by decide +kernel
theorem d_X11_hangs_19 : decode m_X11_hangs.2.1 19 = .ok (.ldc_w 341, 3) := by decide +kernel
theorem d_X11_hangs_22 : decode m_X11_hangs.2.1 22 = .ok (.invokevirtual 329, 3) := by decide +kernel
theorem d_X11_hangs_25 : decode m_X11_hangs.2.1 25 = .ok (.ldc_w 341, 3) := by decide +kernel
theorem d_X11_hangs_28 : decode m_X11_hangs.2.1 28 = .ok (.if_icmp .le 6, 3) := by decide +kernel
theorem d_X11_hangs_31 : decode m_X11_hangs.2.1 31 = .ok (.bipush (-2), 2) := by decide +kernel
theorem d_X11_hangs_33 : decode m_X11_hangs.2.1 33 = .ok (.ireturn, 1) := by decide +kernel
theorem d_X11_hangs_34 : decode m_X11_hangs.2.1 34 = .ok (.aload_n 0, 1) := by decide +kernel
theorem d_X11_hangs_35 : decode m_X11_hangs.2.1 35 = .ok (.invokevirtual 332, 3) := by decide +kernel
theorem d_X11_hangs_38 : decode m_X11_hangs.2.1 38 = .ok (.aload_n 0, 1) := by decide +kernel
theorem d_X11_hangs_39 : decode m_X11_hangs.2.1 39 = .ok (.iconst (-1), 1) := by decide +kernel
theorem d_X11_hangs_40 : decode m_X11_hangs.2.1 40 = .ok (.iconst (-1), 1) := by decide +kernel
theorem d_X11_hangs_41 : decode m_X11_hangs.2.1 41 = .ok (.invokevirtual 335, 3) := by decide +kernel
theorem d_X11_hangs_44 : decode m_X11_hangs.2.1 44 = .ok (.aload_n 0, 1) := by decide +kernel
theorem d_X11_hangs_45 : decode m_X11_hangs.2.1 45 = .ok (.iconst 0, 1) := by decide +kernel
theorem d_X11_hangs_46 : decode m_X11_hangs.2.1 46 = .ok (.invokevirtual 323, 3) := by decide +kernel
theorem d_X11_hangs_49 : decode m_X11_hangs.2.1 49 = .ok (.aload_n 0, 1) := by decide +kernel
theorem d_X11_hangs_50 : decode m_X11_hangs.2.1 50 = .ok (.getfield 320, 3) := by decide +kernel
theorem d_X11_hangs_53 : decode m_X11_hangs.2.1 53 = .ok (.istore_n 1, 1) := by decide +kernel
theorem d_X11_hangs_54 : decode m_X11_hangs.2.1 54 = .ok (.iload_n 1, 1) := by decide +kernel
theorem d_X11_hangs_55 : decode m_X11_hangs.2.1 55 = .ok (.ifCond .ne 5, 3) := by decide +kernel
theorem d_X11_hangs_58 : decode m_X11_hangs.2.1 58 = .ok (.iconst (-1), 1) := by decide +kernel
theorem d_X11_hangs_59 : decode m_X11_hangs.2.1 59 = .ok (.ireturn, 1) := by decide +kernel
theorem d_X11_hangs_60 : decode m_X11_hangs.2.1 60 = .ok (.iconst 0, 1) := by decide +kernel
theorem d_X11_hangs_61 : decode m_X11_hangs.2.1 61 = .ok (.istore_n 2, 1) := by decide +kernel
theorem d_X11_hangs_62 : decode m_X11_hangs.2.1 62 = .ok (.iconst 0, 1) := by decide +kernel
theorem d_X11_hangs_63 : decode m_X11_hangs.2.1 63 = .ok (.istore_n 3, 1) := by decide +kernel
theorem d_X11_hangs_64 : decode m_X11_hangs.2.1 64 = .ok (.iload_n 3, 1) := by decide +kernel
theorem d_X11_hangs_65 : decode m_X11_hangs.2.1 65 = .ok (.aload_n 0, 1) := by decide +kernel
theorem d_X11_hangs_66 : decode m_X11_hangs.2.1 66 = .ok (.getfield 13, 3) := by decide +kernel
theorem d_X11_hangs_69 : decode m_X11_hangs.2.1 69 = .ok (.sipush 861, 3) := by decide +kernel
theorem d_X11_hangs_72 : decode m_X11_hangs.2.1 72 = .ok (.iaload, 1) := by decide +kernel
theorem d_X11_hangs_73 : decode m_X11_hangs.2.1 73 = .ok (.if_icmp .ge 95, 3) := by decide +kernel
theorem d_X11_hangs_76 : decode m_X11_hangs.2.1 76 = .ok (.aload_n 0, 1) := by decide +kernel
theorem d_X11_hangs_77 : decode m_X11_hangs.2.1 77 = .ok (.getfield 13, 3) := by decide +kernel
theorem d_X11_hangs_80 : decode m_X11_hangs.2.1 80 = .ok (.sipush 862, 3) := by decide +kernel
theorem d_X11_hangs_83 : decode m_X11_hangs.2.1 83 = .ok (.iconst 2, 1) := by decide +kernel
theorem d_X11_hangs_84 : decode m_X11_hangs.2.1 84 = .ok (.iload_n 3, 1) := by decide +kernel
theorem d_X11_hangs_85 : decode m_X11_hangs.2.1 85 = .ok (.imul, 1) := by decide +kernel
theorem d_X11_hangs_86 : decode m_X11_hangs.2.1 86 = .ok (.iadd, 1) := by decide +kernel
theorem d_X11_hangs_87 : decode m_X11_hangs.2.1 87 = .ok (.iaload, 1) := by decide +kernel
theorem d_X11_hangs_88 : decode m_X11_hangs.2.1 88 = .ok (.iconst (-1), 1) := by decide +kernel
theorem d_X11_hangs_89 : decode m_X11_hangs.2.1 89 = .ok (.if_icmp .eq 73, 3) := by decide +kernel
theorem d_X11_hangs_92 : decode m_X11_hangs.2.1 92 = .ok (.aload_n 0, 1) := by decide +kernel
theorem d_X11_hangs_93 : decode m_X11_hangs.2.1 93 = .ok (.getfield 13, 3) := by decide +kernel
theorem d_X11_hangs_96 : decode m_X11_hangs.2.1 96 = .ok (.sipush 862, 3) := by decide +kernel
theorem d_X11_hangs_99 : decode m_X11_hangs.2.1 99 = .ok (.iconst 2, 1) := by decide +kernel
theorem d_X11_hangs_100 : decode m_X11_hangs.2.1 100 = .ok (.iload_n 3, 1) := by decide +kernel
theorem d_X11_hangs_101 : decode m_X11_hangs.2.1 101 = .ok (.imul, 1) := by decide +kernel
theorem d_X11_hangs_102 : decode m_X11_hangs.2.1 102 = .ok (.iadd, 1) := by decide +kernel
theorem d_X11_hangs_103 : decode m_X11_hangs.2.1 103 = .ok (.iconst 1, 1) := by decide +kernel
theorem d_X11_hangs_104 : decode m_X11_hangs.2.1 104 = .ok (.iadd, 1) := by decide +kernel
theorem d_X11_hangs_105 : decode m_X11_hangs.2.1 105 = .ok (.iaload, 1) := by decide +kernel
theorem d_X11_hangs_106 : decode m_X11_hangs.2.1 106 = .ok (.iconst (-1), 1) := by decide +kernel
theorem d_X11_hangs_107 : decode m_X11_hangs.2.1 107 = .ok (.if_icmp .ne 6, 3) := by decide +kernel
theorem d_X11_hangs_110 : decode m_X11_hangs.2.1 110 = .ok (.goto 52, 3) := by decide +kernel
theorem d_X11_hangs_113 : decode m_X11_hangs.2.1 113 = .ok (.aload_n 0, 1) := by decide +kernel
theorem d_X11_hangs_114 : decode m_X11_hangs.2.1 114 = .ok (.invokevirtual 332, 3) := by decide +kernel
theorem d_X11_hangs_117 : decode m_X11_hangs.2.1 117 = .ok (.aload_n 0, 1) := by decide +kernel
theorem d_X11_hangs_118 : decode m_X11_hangs.2.1 118 = .ok (.iconst (-1), 1) := by decide +kernel
theorem d_X11_hangs_119 : decode m_X11_hangs.2.1 119 = .ok (.iconst (-1), 1) := by decide +kernel
theorem d_X11_hangs_120 : decode m_X11_hangs.2.1 120 = .ok (.invokevirtual 335, 3) := by decide +kernel
theorem d_X11_hangs_123 : decode m_X11_hangs.2.1 123 = .ok (.aload_n 0, 1) := by decide +kernel
theorem d_X11_hangs_124 : decode m_X11_hangs.2.1 124 = .ok (.getfield 66, 3) := by decide +kernel
theorem d_X11_hangs_127 : decode m_X11_hangs.2.1 127 = .ok (.iconst 2, 1) := by decide +kernel
theorem d_X11_hangs_128 : decode m_X11_hangs.2.1 128 = .ok (.iload_n 3, 1) := by decide +kernel
theorem d_X11_hangs_129 : decode m_X11_hangs.2.1 129 = .ok (.imul, 1) := by decide +kernel
theorem d_X11_hangs_130 : decode m_X11_hangs.2.1 130 = .ok (.iconst (-1), 1) := by decide +kernel
theorem d_X11_hangs_131 : decode m_X11_hangs.2.1 131 = .ok (.iastore, 1) := by decide +kernel
theorem d_X11_hangs_132 : decode m_X11_hangs.2.1 132 = .ok (.aload_n 0, 1) := by decide +kernel
theorem d_X11_hangs_133 : decode m_X11_hangs.2.1 133 = .ok (.getfield 66, 3) := by decide +kernel
theorem d_X11_hangs_136 : decode m_X11_hangs.2.1 136 = .ok (.iconst 2, 1) := by decide +kernel
theorem d_X11_hangs_137 : decode m_X11_hangs.2.1 137 = .ok (.iload_n 3, 1) := by decide +kernel
theorem d_X11_hangs_138 : decode m_X11_hangs.2.1 138 = .ok (.imul, 1) := by decide +kernel
theorem d_X11_hangs_139 : decode m_X11_hangs.2.1 139 = .ok (.iconst 1, 1) := by decide +kernel
theorem d_X11_hangs_140 : decode m_X11_hangs.2.1 140 = .ok (.iadd, 1) := by decide +kernel
theorem d_X11_hangs_141 : decode m_X11_hangs.2.1 141 = .ok (.iconst (-1), 1) := by decide +kernel
theorem d_X11_hangs_142 : decode m_X11_hangs.2.1 142 = .ok (.iastore, 1) := by decide +kernel
theorem d_X11_hangs_143 : decode m_X11_hangs.2.1 143 = .ok (.aload_n 0, 1) := by decide +kernel
theorem d_X11_hangs_144 : decode m_X11_hangs.2.1 144 = .ok (.iconst 0, 1) := by decide +kernel
theorem d_X11_hangs_145 : decode m_X11_hangs.2.1 145 = .ok (.invokevirtual 323, 3) := by decide +kernel
theorem d_X11_hangs_148 : decode m_X11_hangs.2.1 148 = .ok (.aload_n 0, 1) := by decide +kernel
theorem d_X11_hangs_149 : decode m_X11_hangs.2.1 149 = .ok (.getfield 320, 3) := by decide +kernel
theorem d_X11_hangs_152 : decode m_X11_hangs.2.1 152 = .ok (.iload_n 1, 1) := by decide +kernel
theorem d_X11_hangs_153 : decode m_X11_hangs.2.1 153 = .ok (.if_icmp .le 9, 3) := by decide +kernel
theorem d_X11_hangs_156 : decode m_X11_hangs.2.1 156 = .ok (.iload_n 2, 1) := by decide +kernel
theorem d_X11_hangs_157 : decode m_X11_hangs.2.1 157 = .ok (.iconst 1, 1) := by decide +kernel
theorem d_X11_hangs_158 : decode m_X11_hangs.2.1 158 = .ok (.iload_n 3, 1) := by decide +kernel
theorem d_X11_hangs_159 : decode m_X11_hangs.2.1 159 = .ok (.ishl, 1) := by decide +kernel
theorem d_X11_hangs_160 : decode m_X11_hangs.2.1 160 = .ok (.ior, 1) := by decide +kernel
theorem d_X11_hangs_161 : decode m_X11_hangs.2.1 161 = .ok (.istore_n 2, 1) := by decide +kernel
theorem d_X11_hangs_162 : decode m_X11_hangs.2.1 162 = .ok (.iinc 3 1, 3) := by decide +kernel
theorem d_X11_hangs_165 : decode m_X11_hangs.2.1 165 = .ok (.goto (-101), 3) := by decide +kernel
theorem d_X11_hangs_168 : decode m_X11_hangs.2.1 168 = .ok (.iload_n 2, 1) := by decide +kernel
theorem d_X11_hangs_169 : decode m_X11_hangs.2.1 169 = .ok (.ireturn, 1) := by decide +kernel
set_option maxRecDepth 20000 in
theorem e_X11_hangs {E : jm_E} {d : Nat} {μ : jm_M} {Q : Option jm_V → jm_M → Prop}  (h : (∀ v ∈ ([jm_R 133] : List jm_V), jm_ok v) →
  jc E m_X11_fillings d [jm_R 133, jm_I (jm_wr ((μ 135 0) * (μ 135 1))), jm_I 100000] (jm_up μ 133 0 0) (fun (o : Option jm_V) (m1 : jm_M) => ∀ r2 : Int, o = some (jm_I r2) →
  ((r2 ≤ 100000 →
    jc E m_X11_beginFill d [jm_R 133] m1 (fun (o : Option jm_V) (m4 : jm_M) => o = none →
    jc E m_X11_layTorn d [jm_R 133, jm_I ((-1)), jm_I ((-1))] m4 (fun (o : Option jm_V) (m5 : jm_M) => o = none →
    jc E m_X11_fill d [jm_R 133, jm_I 0] m5 (fun (o : Option jm_V) (m6 : jm_M) => o = none →
    ((m6 133 43 ≠ 0 →
      jg E m_X11_hangs d 64 [some (jm_R 133), some (jm_I (m6 133 43)), some (jm_I 0), some (jm_I 0)] [] m6 Q) ∧
     (¬ (m6 133 43 ≠ 0) →
      Q (some (jm_I ((-1)))) m6)))))) ∧
   (¬ (r2 ≤ 100000) →
    Q (some (jm_I ((-2)))) m1)))) : jc E m_X11_hangs (d + 1) [jm_R 133] μ Q := by
  refine jm_Cl.of2 (by decide +kernel) (L0 := [some (jm_R 133), none, none, none]) rfl (Nat.le_of_ble_eq_true rfl) (fun hok => ?_)
  have h := h hok
  refine jm_aloadn d_X11_hangs_0 rfl ?_
  refine jm_iconst (v := 0) d_X11_hangs_1 rfl (jm_okI (by decide) (by decide)) ?_
  refine jm_putI (k := 0) (ki := 0) cf_X11 (Nat.le_of_ble_eq_true rfl) f_X11_106 d_X11_hangs_2 (fun z => absurd z (by decide)) rfl rfl rfl (fun _ => rfl) is_133 ?_
  refine jm_aloadn d_X11_hangs_5 rfl ?_
  refine jm_aloadn d_X11_hangs_6 rfl ?_
  refine jm_getF (k := 14) (ki := 14) rfl cf_X11 (Nat.le_of_ble_eq_true rfl) f_X11_13 d_X11_hangs_7 rfl rfl is_133 fr_133_14 ?_
  refine jm_iconst (v := 0) d_X11_hangs_10 rfl (jm_okI (by decide) (by decide)) ?_
  refine jm_ialoadv d_X11_hangs_11 (ixl_135 (by decide) (by decide)) ((jm_up_lj (by decide)).trans rfl) ?_
  refine jm_aloadn d_X11_hangs_12 rfl ?_
  refine jm_getF (k := 14) (ki := 14) rfl cf_X11 (Nat.le_of_ble_eq_true rfl) f_X11_13 d_X11_hangs_13 rfl rfl is_133 fr_133_14 ?_
  refine jm_iconst (v := 1) d_X11_hangs_16 rfl (jm_okI (by decide) (by decide)) ?_
  refine jm_ialoadv d_X11_hangs_17 (ixl_135 (by decide) (by decide)) ((jm_up_i (by decide)).trans rfl) ?_
  refine jm_imul d_X11_hangs_18 ?_
  refine jm_ldcw (v := 100000) d_X11_hangs_19 k_X11_341 (jm_okI (by decide) (by decide)) ?_
  refine jm_invV (n1 := jm_N) (mc := 0) (ms := 0) (av := [jm_I _, jm_I _]) w_X11_fillings l_X11_329 d_X11_hangs_22 rfl is_133 ⟨_, _, rfl⟩ ⟨Nat.le_refl _, Nat.le_refl _⟩ (Nat.le_of_ble_eq_true rfl) rfl ?_
  refine jm_Cl.mono h (fun o m1 h hr _ => ?_)
  obtain ⟨r2, rfl⟩ := jm_rokI hr
  have h := h _ rfl
  refine jm_ldcw (v := 100000) d_X11_hangs_25 k_X11_341 (jm_okI (by decide) (by decide)) ?_
  refine jm_icmp_le (tgt := 34) d_X11_hangs_28 (by decide) (fun c3 => ?_) (fun c3 => ?_)
  · have h := h.1 c3
    refine jm_aloadn d_X11_hangs_34 rfl ?_
    refine jm_invV (n1 := jm_N) (mc := 0) (ms := 0) (av := []) w_X11_beginFill l_X11_332 d_X11_hangs_35 rfl is_133 ⟨_, _, rfl⟩ ⟨Nat.le_refl _, Nat.le_refl _⟩ (Nat.le_of_ble_eq_true rfl) rfl ?_
    refine jm_Cl.mono h (fun o m4 h hr _ => ?_)
    obtain rfl := jm_rokV hr
    have h := h rfl
    refine jm_aloadn d_X11_hangs_38 rfl ?_
    refine jm_iconst (v := (-1)) d_X11_hangs_39 rfl (jm_okI (by decide) (by decide)) ?_
    refine jm_iconst (v := (-1)) d_X11_hangs_40 rfl (jm_okI (by decide) (by decide)) ?_
    refine jm_invV (n1 := jm_N) (mc := 0) (ms := 0) (av := [jm_I _, jm_I _]) w_X11_layTorn l_X11_335 d_X11_hangs_41 rfl is_133 ⟨_, _, rfl⟩ ⟨Nat.le_refl _, Nat.le_refl _⟩ (Nat.le_of_ble_eq_true rfl) rfl ?_
    refine jm_Cl.mono h (fun o m5 h hr _ => ?_)
    obtain rfl := jm_rokV hr
    have h := h rfl
    refine jm_aloadn d_X11_hangs_44 rfl ?_
    refine jm_iconst (v := 0) d_X11_hangs_45 rfl (jm_okI (by decide) (by decide)) ?_
    refine jm_invV (n1 := jm_N) (mc := 0) (ms := 0) (av := [jm_I _]) w_X11_fill l_X11_323 d_X11_hangs_46 rfl is_133 ⟨_, _, rfl⟩ ⟨Nat.le_refl _, Nat.le_refl _⟩ (Nat.le_of_ble_eq_true rfl) rfl ?_
    refine jm_Cl.mono h (fun o m6 h hr _ => ?_)
    obtain rfl := jm_rokV hr
    have h := h rfl
    refine jm_aloadn d_X11_hangs_49 rfl ?_
    refine jm_getI (k := 43) (ki := 43) cf_X11 (Nat.le_of_ble_eq_true rfl) f_X11_320 d_X11_hangs_50 rfl rfl is_133 rfl ?_
    refine jm_istoren (L' := [some (jm_R _), some (jm_I _), none, none]) d_X11_hangs_53 (Nat.le_of_ble_eq_true rfl) rfl ?_
    refine jm_iloadn d_X11_hangs_54 rfl ?_
    refine jm_if_ne (tgt := 60) d_X11_hangs_55 (by decide) (fun c7 => ?_) (fun c7 => ?_)
    · have h := h.1 c7
      refine jm_iconst (v := 0) d_X11_hangs_60 rfl (jm_okI (by decide) (by decide)) ?_
      refine jm_istoren (L' := [some (jm_R _), some (jm_I _), some (jm_I _), none]) d_X11_hangs_61 (Nat.le_of_ble_eq_true rfl) rfl ?_
      refine jm_iconst (v := 0) d_X11_hangs_62 rfl (jm_okI (by decide) (by decide)) ?_
      refine jm_istoren (L' := [some (jm_R _), some (jm_I _), some (jm_I _), some (jm_I _)]) d_X11_hangs_63 (Nat.le_of_ble_eq_true rfl) rfl ?_
      exact h
    · have h := h.2 c7
      refine jm_iconst (v := (-1)) d_X11_hangs_58 rfl (jm_okI (by decide) (by decide)) ?_
      exact jm_ret (o := some (jm_I _)) d_X11_hangs_59 rfl ⟨Nat.le_refl _, Nat.le_refl _⟩ jm_r_I h rfl
  · have h := h.2 c3
    refine jm_bipush (v := (-2)) d_X11_hangs_31 rfl (jm_okI (by decide) (by decide)) ?_
    exact jm_ret (o := some (jm_I _)) d_X11_hangs_33 rfl ⟨Nat.le_refl _, Nat.le_refl _⟩ jm_r_I h rfl
set_option maxRecDepth 20000 in
theorem r_X11_hangs_64 {E : jm_E} {d : Nat} {μ : jm_M} {Q : Option jm_V → jm_M → Prop} {v1 v2 v3 : Int} (h :
  ((μ 135 861 ≤ v3 →
    Q (some (jm_I v2)) μ) ∧
   (¬ (μ 135 861 ≤ v3) →
    (0 ≤ jm_wr (862 + (jm_wr (2 * v3))) ∧ jm_wr (862 + (jm_wr (2 * v3))) < 1152) ∧
    (((μ 135 (jm_wr (862 + (jm_wr (2 * v3))))) = ((-1)) →
      jg E m_X11_hangs d 64 [some (jm_R 133), some (jm_I v1), some (jm_I v2), some (jm_I (jm_wr (v3 + 1)))] [] μ Q) ∧
     (¬ ((μ 135 (jm_wr (862 + (jm_wr (2 * v3))))) = ((-1))) →
      (0 ≤ jm_wr ((jm_wr (862 + (jm_wr (2 * v3)))) + 1) ∧ jm_wr ((jm_wr (862 + (jm_wr (2 * v3)))) + 1) < 1152) ∧
      (((μ 135 (jm_wr ((jm_wr (862 + (jm_wr (2 * v3)))) + 1))) ≠ ((-1)) →
        jc E m_X11_beginFill d [jm_R 133] μ (fun (o : Option jm_V) (m6 : jm_M) => o = none →
        jc E m_X11_layTorn d [jm_R 133, jm_I ((-1)), jm_I ((-1))] m6 (fun (o : Option jm_V) (m7 : jm_M) => o = none →
        (0 ≤ jm_wr (2 * v3) ∧ jm_wr (2 * v3) < 48) ∧
        ∀ m9 : jm_M, m9 = (jm_up m7 152 (jm_wr (2 * v3)) ((-1))) →
        (0 ≤ jm_wr ((jm_wr (2 * v3)) + 1) ∧ jm_wr ((jm_wr (2 * v3)) + 1) < 48) ∧
        ∀ m11 : jm_M, m11 = (jm_up m9 152 (jm_wr ((jm_wr (2 * v3)) + 1)) ((-1))) →
        jc E m_X11_fill d [jm_R 133, jm_I 0] m11 (fun (o : Option jm_V) (m12 : jm_M) => o = none →
        ((m12 133 43 ≤ v1 →
          jg E m_X11_hangs d 64 [some (jm_R 133), some (jm_I v1), some (jm_I v2), some (jm_I (jm_wr (v3 + 1)))] [] m12 Q) ∧
         (¬ (m12 133 43 ≤ v1) →
          ∀ x14 : Int, x14 = jm_or v2 (jm_shl 1 v3) →
          jg E m_X11_hangs d 64 [some (jm_R 133), some (jm_I v1), some (jm_I x14), some (jm_I (jm_wr (v3 + 1)))] [] m12 Q)))))) ∧
       (¬ ((μ 135 (jm_wr ((jm_wr (862 + (jm_wr (2 * v3)))) + 1))) ≠ ((-1))) →
        jg E m_X11_hangs d 64 [some (jm_R 133), some (jm_I v1), some (jm_I v2), some (jm_I (jm_wr (v3 + 1)))] [] μ Q))))))) : jg E m_X11_hangs d 64 [some (jm_R 133), some (jm_I v1), some (jm_I v2), some (jm_I v3)] [] μ Q := by
  refine jm_iloadn d_X11_hangs_64 rfl ?_
  refine jm_aloadn d_X11_hangs_65 rfl ?_
  refine jm_getF (k := 14) (ki := 14) rfl cf_X11 (Nat.le_of_ble_eq_true rfl) f_X11_13 d_X11_hangs_66 rfl rfl is_133 fr_133_14 ?_
  refine jm_sipush (v := 861) d_X11_hangs_69 rfl (jm_okI (by decide) (by decide)) ?_
  refine jm_iaload d_X11_hangs_72 (ixl_135 (by decide) (by decide)) ?_
  refine jm_icmp_ge (tgt := 168) d_X11_hangs_73 (by decide) (fun c1 => ?_) (fun c1 => ?_)
  · have h := h.1 c1
    refine jm_iloadn d_X11_hangs_168 rfl ?_
    exact jm_ret (o := some (jm_I _)) d_X11_hangs_169 rfl ⟨Nat.le_refl _, Nat.le_refl _⟩ jm_r_I h rfl
  · have h := h.2 c1
    refine jm_aloadn d_X11_hangs_76 rfl ?_
    refine jm_getF (k := 14) (ki := 14) rfl cf_X11 (Nat.le_of_ble_eq_true rfl) f_X11_13 d_X11_hangs_77 rfl rfl is_133 fr_133_14 ?_
    refine jm_sipush (v := 862) d_X11_hangs_80 rfl (jm_okI (by decide) (by decide)) ?_
    refine jm_iconst (v := 2) d_X11_hangs_83 rfl (jm_okI (by decide) (by decide)) ?_
    refine jm_iloadn d_X11_hangs_84 rfl ?_
    refine jm_imul d_X11_hangs_85 ?_
    refine jm_iadd d_X11_hangs_86 ?_
    obtain ⟨f2, h⟩ := h
    refine jm_iaload d_X11_hangs_87 (ixl_135 f2.1 f2.2) ?_
    refine jm_iconst (v := (-1)) d_X11_hangs_88 rfl (jm_okI (by decide) (by decide)) ?_
    refine jm_icmp_eq (tgt := 162) d_X11_hangs_89 (by decide) (fun c3 => ?_) (fun c3 => ?_)
    · have h := h.1 c3
      refine jm_iinc (L' := [some (jm_R _), some (jm_I _), some (jm_I _), some (jm_I _)]) d_X11_hangs_162 rfl rfl (Nat.le_of_ble_eq_true rfl) rfl ?_
      refine jm_goto (tgt := 64) d_X11_hangs_165 (by decide) ?_
      exact h
    · have h := h.2 c3
      refine jm_aloadn d_X11_hangs_92 rfl ?_
      refine jm_getF (k := 14) (ki := 14) rfl cf_X11 (Nat.le_of_ble_eq_true rfl) f_X11_13 d_X11_hangs_93 rfl rfl is_133 fr_133_14 ?_
      refine jm_sipush (v := 862) d_X11_hangs_96 rfl (jm_okI (by decide) (by decide)) ?_
      refine jm_iconst (v := 2) d_X11_hangs_99 rfl (jm_okI (by decide) (by decide)) ?_
      refine jm_iloadn d_X11_hangs_100 rfl ?_
      refine jm_imul d_X11_hangs_101 ?_
      refine jm_iadd d_X11_hangs_102 ?_
      refine jm_iconst (v := 1) d_X11_hangs_103 rfl (jm_okI (by decide) (by decide)) ?_
      refine jm_iadd d_X11_hangs_104 ?_
      obtain ⟨f4, h⟩ := h
      refine jm_iaload d_X11_hangs_105 (ixl_135 f4.1 f4.2) ?_
      refine jm_iconst (v := (-1)) d_X11_hangs_106 rfl (jm_okI (by decide) (by decide)) ?_
      refine jm_icmp_ne (tgt := 113) d_X11_hangs_107 (by decide) (fun c5 => ?_) (fun c5 => ?_)
      · have h := h.1 c5
        refine jm_aloadn d_X11_hangs_113 rfl ?_
        refine jm_invV (n1 := jm_N) (mc := 0) (ms := 0) (av := []) w_X11_beginFill l_X11_332 d_X11_hangs_114 rfl is_133 ⟨_, _, rfl⟩ ⟨Nat.le_refl _, Nat.le_refl _⟩ (Nat.le_of_ble_eq_true rfl) rfl ?_
        refine jm_Cl.mono h (fun o m6 h hr _ => ?_)
        obtain rfl := jm_rokV hr
        have h := h rfl
        refine jm_aloadn d_X11_hangs_117 rfl ?_
        refine jm_iconst (v := (-1)) d_X11_hangs_118 rfl (jm_okI (by decide) (by decide)) ?_
        refine jm_iconst (v := (-1)) d_X11_hangs_119 rfl (jm_okI (by decide) (by decide)) ?_
        refine jm_invV (n1 := jm_N) (mc := 0) (ms := 0) (av := [jm_I _, jm_I _]) w_X11_layTorn l_X11_335 d_X11_hangs_120 rfl is_133 ⟨_, _, rfl⟩ ⟨Nat.le_refl _, Nat.le_refl _⟩ (Nat.le_of_ble_eq_true rfl) rfl ?_
        refine jm_Cl.mono h (fun o m7 h hr _ => ?_)
        obtain rfl := jm_rokV hr
        have h := h rfl
        refine jm_aloadn d_X11_hangs_123 rfl ?_
        refine jm_getF (k := 35) (ki := 35) rfl cf_X11 (Nat.le_of_ble_eq_true rfl) f_X11_66 d_X11_hangs_124 rfl rfl is_133 fr_133_35 ?_
        refine jm_iconst (v := 2) d_X11_hangs_127 rfl (jm_okI (by decide) (by decide)) ?_
        refine jm_iloadn d_X11_hangs_128 rfl ?_
        refine jm_imul d_X11_hangs_129 ?_
        refine jm_iconst (v := (-1)) d_X11_hangs_130 rfl (jm_okI (by decide) (by decide)) ?_
        obtain ⟨f8, h⟩ := h
        refine jm_iastore d_X11_hangs_131 (ixl_152 f8.1 f8.2) ?_
        have h := h _ rfl
        refine jm_aloadn d_X11_hangs_132 rfl ?_
        refine jm_getF (k := 35) (ki := 35) rfl cf_X11 (Nat.le_of_ble_eq_true rfl) f_X11_66 d_X11_hangs_133 rfl rfl is_133 fr_133_35 ?_
        refine jm_iconst (v := 2) d_X11_hangs_136 rfl (jm_okI (by decide) (by decide)) ?_
        refine jm_iloadn d_X11_hangs_137 rfl ?_
        refine jm_imul d_X11_hangs_138 ?_
        refine jm_iconst (v := 1) d_X11_hangs_139 rfl (jm_okI (by decide) (by decide)) ?_
        refine jm_iadd d_X11_hangs_140 ?_
        refine jm_iconst (v := (-1)) d_X11_hangs_141 rfl (jm_okI (by decide) (by decide)) ?_
        obtain ⟨f10, h⟩ := h
        refine jm_iastore d_X11_hangs_142 (ixl_152 f10.1 f10.2) ?_
        have h := h _ rfl
        refine jm_aloadn d_X11_hangs_143 rfl ?_
        refine jm_iconst (v := 0) d_X11_hangs_144 rfl (jm_okI (by decide) (by decide)) ?_
        refine jm_invV (n1 := jm_N) (mc := 0) (ms := 0) (av := [jm_I _]) w_X11_fill l_X11_323 d_X11_hangs_145 rfl is_133 ⟨_, _, rfl⟩ ⟨Nat.le_refl _, Nat.le_refl _⟩ (Nat.le_of_ble_eq_true rfl) rfl ?_
        refine jm_Cl.mono h (fun o m12 h hr _ => ?_)
        obtain rfl := jm_rokV hr
        have h := h rfl
        refine jm_aloadn d_X11_hangs_148 rfl ?_
        refine jm_getI (k := 43) (ki := 43) cf_X11 (Nat.le_of_ble_eq_true rfl) f_X11_320 d_X11_hangs_149 rfl rfl is_133 rfl ?_
        refine jm_iloadn d_X11_hangs_152 rfl ?_
        refine jm_icmp_le (tgt := 162) d_X11_hangs_153 (by decide) (fun c13 => ?_) (fun c13 => ?_)
        · have h := h.1 c13
          refine jm_iinc (L' := [some (jm_R _), some (jm_I _), some (jm_I _), some (jm_I _)]) d_X11_hangs_162 rfl rfl (Nat.le_of_ble_eq_true rfl) rfl ?_
          refine jm_goto (tgt := 64) d_X11_hangs_165 (by decide) ?_
          exact h
        · have h := h.2 c13
          refine jm_iloadn d_X11_hangs_156 rfl ?_
          refine jm_iconst (v := 1) d_X11_hangs_157 rfl (jm_okI (by decide) (by decide)) ?_
          refine jm_iloadn d_X11_hangs_158 rfl ?_
          refine jm_ishl d_X11_hangs_159 ?_
          refine jm_ior d_X11_hangs_160 ?_
          have h := h _ rfl
          refine jm_istoren (L' := [some (jm_R _), some (jm_I _), some (jm_I _), some (jm_I _)]) d_X11_hangs_161 (Nat.le_of_ble_eq_true rfl) rfl ?_
          refine jm_iinc (L' := [some (jm_R _), some (jm_I _), some (jm_I _), some (jm_I _)]) d_X11_hangs_162 rfl rfl (Nat.le_of_ble_eq_true rfl) rfl ?_
          refine jm_goto (tgt := 64) d_X11_hangs_165 (by decide) ?_
          exact h
      · have h := h.2 c5
        refine jm_goto (tgt := 162) d_X11_hangs_110 (by decide) ?_
        refine jm_iinc (L' := [some (jm_R _), some (jm_I _), some (jm_I _), some (jm_I _)]) d_X11_hangs_162 rfl rfl (Nat.le_of_ble_eq_true rfl) rfl ?_
        refine jm_goto (tgt := 64) d_X11_hangs_165 (by decide) ?_
        exact h
