/-! ('CombTableModel', 'unlike', '(II)I') -/
theorem d_X11_unlike_0 : decode m_X11_unlike.2.1 0 = .ok (.aload_n 0, 1) := by decide +kernel
theorem d_X11_unlike_1 : decode m_X11_unlike.2.1 1 = .ok (.iconst 0, 1) := by decide +kernel
theorem d_X11_unlike_2 : decode m_X11_unlike.2.1 2 = .ok (.putfield 106, 3) := by decide +kernel
theorem d_X11_unlike_5 : decode m_X11_unlike.2.1 5 = .ok (.iload_n 1, 1) := by decide +kernel
theorem d_X11_unlike_6 : decode m_X11_unlike.2.1 6 = .ok (.iconst 0, 1) := by decide +kernel
theorem d_X11_unlike_7 : decode m_X11_unlike.2.1 7 = .ok (.iconst 1, 1) := by decide +kernel
theorem d_X11_unlike_8 : decode m_X11_unlike.2.1 8 = .ok (.invokestatic 177, 3) := by decide +kernel
theorem d_X11_unlike_11 : decode m_X11_unlike.2.1 11 = .ok (.ifCond .eq 22, 3) := by decide +kernel
theorem d_X11_unlike_14 : decode m_X11_unlike.2.1 14 = .ok (.aload_n 0, 1) := by decide +kernel
theorem d_X11_unlike_15 : decode m_X11_unlike.2.1 15 = .ok (.getfield 35, 3) := by decide +kernel
theorem d_X11_unlike_18 : decode m_X11_unlike.2.1 18 = .ok (.iload_n 1, 1) := by decide +kernel
theorem d_X11_unlike_19 : decode m_X11_unlike.2.1 19 = .ok (.baload, 1) := by decide +kernel
theorem d_X11_unlike_20 : decode m_X11_unlike.2.1 20 = .ok (.ifCond .eq 13, 3) := by decide +kernel
theorem d_X11_unlike_23 : decode m_X11_unlike.2.1 23 = .ok (.iload_n 2, 1) := by decide +kernel
theorem d_X11_unlike_24 : decode m_X11_unlike.2.1 24 = .ok (.iconst 1, 1) := by decide +kernel
theorem d_X11_unlike_25 : decode m_X11_unlike.2.1 25 = .ok (.bipush 6, 2) := by decide +kernel
theorem d_X11_unlike_27 : decode m_X11_unlike.2.1 27 = .ok (.invokestatic 177, 3) := by decide +kernel
theorem d_X11_unlike_30 : decode m_X11_unlike.2.1 30 = .ok (.ifCond .ne 6, 3) := by decide +kernel
theorem d_X11_unlike_33 : decode m_X11_unlike.2.1 33 = .ok (.bipush (-3), 2) := by decide +kernel
theorem d_X11_unlike_35 : decode m_X11_unlike.2.1 35 = .ok (.ireturn, 1) := by decide +kernel
theorem d_X11_unlike_36 : decode m_X11_unlike.2.1 36 = .ok (.aload_n 0, 1) := by decide +kernel
theorem d_X11_unlike_37 : decode m_X11_unlike.2.1 37 = .ok (.iconst 0, 1) := by decide +kernel
theorem d_X11_unlike_38 : decode m_X11_unlike.2.1 38 = .ok (.aload_n 0, 1) := by decide +kernel
theorem d_X11_unlike_39 : decode m_X11_unlike.2.1 39 = .ok (.getfield 13, 3) := by decide +kernel
theorem d_X11_unlike_42 : decode m_X11_unlike.2.1 42 = .ok (.iconst 0, 1) := by decide +kernel
theorem d_X11_unlike_43 : decode m_X11_unlike.2.1 43 = .ok (.invokevirtual 262, 3) := by decide +kernel
theorem d_X11_unlike_46 : decode m_X11_unlike.2.1 46 = .ok (.aload_n 0, 1) := by decide +kernel
theorem d_X11_unlike_47 : decode m_X11_unlike.2.1 47 = .ok (.iconst 1, 1) := by decide +kernel
theorem d_X11_unlike_48 : decode m_X11_unlike.2.1 48 = .ok (.aload_n 0, 1) := by decide +kernel
theorem d_X11_unlike_49 : decode m_X11_unlike.2.1 49 = .ok (.getfield 19, 3) := by decide +kernel
theorem d_X11_unlike_52 : decode m_X11_unlike.2.1 52 = .ok (.sipush 1152, 3) := by decide +kernel
theorem d_X11_unlike_55 : decode m_X11_unlike.2.1 55 = .ok (.iload_n 1, 1) := by decide +kernel
theorem d_X11_unlike_56 : decode m_X11_unlike.2.1 56 = .ok (.imul, 1) := by decide +kernel
theorem d_X11_unlike_57 : decode m_X11_unlike.2.1 57 = .ok (.invokevirtual 262, 3) := by decide +kernel
theorem d_X11_unlike_60 : decode m_X11_unlike.2.1 60 = .ok (.aload_n 0, 1) := by decide +kernel
theorem d_X11_unlike_61 : decode m_X11_unlike.2.1 61 = .ok (.iconst 0, 1) := by decide +kernel
theorem d_X11_unlike_62 : decode m_X11_unlike.2.1 62 = .ok (.iconst 0, 1) := by decide +kernel
theorem d_X11_unlike_63 : decode m_X11_unlike.2.1 63 = .ok (.invokevirtual 255, 3) := by decide +kernel
theorem d_X11_unlike_66 : decode m_X11_unlike.2.1 66 = .ok (.aload_n 0, 1) := by decide +kernel
theorem d_X11_unlike_67 : decode m_X11_unlike.2.1 67 = .ok (.iconst 1, 1) := by decide +kernel
theorem d_X11_unlike_68 : decode m_X11_unlike.2.1 68 = .ok (.iconst 0, 1) := by decide +kernel
theorem d_X11_unlike_69 : decode m_X11_unlike.2.1 69 = .ok (.invokevirtual 255, 3) := by decide +kernel
theorem d_X11_unlike_72 : decode m_X11_unlike.2.1 72 = .ok (.if_icmp .le 12, 3) := by decide +kernel
theorem d_X11_unlike_75 : decode m_X11_unlike.2.1 75 = .ok (.aload_n 0, 1) := by decide +kernel
theorem d_X11_unlike_76 : decode m_X11_unlike.2.1 76 = .ok (.iconst 0, 1) := by decide +kernel
theorem d_X11_unlike_77 : decode m_X11_unlike.2.1 77 = .ok (.iconst 0, 1) := by decide +kernel
theorem d_X11_unlike_78 : decode m_X11_unlike.2.1 78 = .ok (.invokevirtual 255, 3) := by decide +kernel
theorem d_X11_unlike_81 : decode m_X11_unlike.2.1 81 = .ok (.goto 9, 3) := by decide +kernel
theorem d_X11_unlike_84 : decode m_X11_unlike.2.1 84 = .ok (.aload_n 0, 1) := by decide +kernel
theorem d_X11_unlike_85 : decode m_X11_unlike.2.1 85 = .ok (.iconst 1, 1) := by decide +kernel
theorem d_X11_unlike_86 : decode m_X11_unlike.2.1 86 = .ok (.iconst 0, 1) := by decide +kernel
theorem d_X11_unlike_87 : decode m_X11_unlike.2.1 87 = .ok (.invokevirtual 255, 3) := by decide +kernel
theorem d_X11_unlike_90 : decode m_X11_unlike.2.1 90 = .ok (.istore_n 3, 1) := by decide +kernel
theorem d_X11_unlike_91 : decode m_X11_unlike.2.1 91 = .ok (.aload_n 0, 1) := by decide +kernel
theorem d_X11_unlike_92 : decode m_X11_unlike.2.1 92 = .ok (.iconst 0, 1) := by decide +kernel
theorem d_X11_unlike_93 : decode m_X11_unlike.2.1 93 = .ok (.iconst 1, 1) := by decide +kernel
theorem d_X11_unlike_94 : decode m_X11_unlike.2.1 94 = .ok (.invokevirtual 255, 3) := by decide +kernel
theorem d_X11_unlike_97 : decode m_X11_unlike.2.1 97 = .ok (.aload_n 0, 1) := by decide +kernel
theorem d_X11_unlike_98 : decode m_X11_unlike.2.1 98 = .ok (.iconst 1, 1) := by decide +kernel
theorem d_X11_unlike_99 : decode m_X11_unlike.2.1 99 = .ok (.iconst 1, 1) := by decide +kernel
theorem d_X11_unlike_100 : decode m_X11_unlike.2.1 100 = .ok (.invokevirtual 255, 3) := by decide +kernel
theorem d_X11_unlike_103 : decode m_X11_unlike.2.1 103 = .ok (.if_icmp .le 12, 3) := by decide +kernel
theorem d_X11_unlike_106 : decode m_X11_unlike.2.1 106 = .ok (.aload_n 0, 1) := by decide +kernel
theorem d_X11_unlike_107 : decode m_X11_unlike.2.1 107 = .ok (.iconst 0, 1) := by decide +kernel
theorem d_X11_unlike_108 : decode m_X11_unlike.2.1 108 = .ok (.iconst 1, 1) := by decide +kernel
theorem d_X11_unlike_109 : decode m_X11_unlike.2.1 109 = .ok (.invokevirtual 255, 3) := by decide +kernel
theorem d_X11_unlike_112 : decode m_X11_unlike.2.1 112 = .ok (.goto 9, 3) := by decide +kernel
theorem d_X11_unlike_115 : decode m_X11_unlike.2.1 115 = .ok (.aload_n 0, 1) := by decide +kernel
theorem d_X11_unlike_116 : decode m_X11_unlike.2.1 116 = .ok (.iconst 1, 1) := by decide +kernel
theorem d_X11_unlike_117 : decode m_X11_unlike.2.1 117 = .ok (.iconst 1, 1) := by decide +kernel
theorem d_X11_unlike_118 : decode m_X11_unlike.2.1 118 = .ok (.invokevirtual 255, 3) := by decide +kernel
theorem d_X11_unlike_121 : decode m_X11_unlike.2.1 121 = .ok (.istore 4, 2) := by decide +kernel
theorem d_X11_unlike_123 : decode m_X11_unlike.2.1 123 = .ok (.iload_n 3, 1) := by decide +kernel
theorem d_X11_unlike_124 : decode m_X11_unlike.2.1 124 = .ok (.iload 4, 2) := by decide +kernel
theorem d_X11_unlike_126 : decode m_X11_unlike.2.1 126 = .ok (.iload_n 2, 1) := by decide +kernel
theorem d_X11_unlike_127 : decode m_X11_unlike.2.1 127 = .ok (.invokestatic 369, 3) := by decide +kernel
theorem d_X11_unlike_130 : decode m_X11_unlike.2.1 130 = .ok (.ifCond .eq 6, 3) := by decide +kernel
theorem d_X11_unlike_133 : decode m_X11_unlike.2.1 133 = .ok (.bipush (-2), 2) := by decide +kernel
theorem d_X11_unlike_135 : decode m_X11_unlike.2.1 135 = .ok (.ireturn, 1) := by decide +kernel
theorem d_X11_unlike_136 : decode m_X11_unlike.2.1 136 = .ok (.iconst 1, 1) := by decide +kernel
theorem d_X11_unlike_137 : decode m_X11_unlike.2.1 137 = .ok (.istore 5, 2) := by decide +kernel
theorem d_X11_unlike_139 : decode m_X11_unlike.2.1 139 = .ok (.iload 5, 2) := by decide +kernel
theorem d_X11_unlike_141 : decode m_X11_unlike.2.1 141 = .ok (.iload_n 2, 1) := by decide +kernel
theorem d_X11_unlike_142 : decode m_X11_unlike.2.1 142 = .ok (.if_icmp .gt 64, 3) := by decide +kernel
theorem d_X11_unlike_145 : decode m_X11_unlike.2.1 145 = .ok (.aload_n 0, 1) := by decide +kernel
theorem d_X11_unlike_146 : decode m_X11_unlike.2.1 146 = .ok (.iload_n 3, 1) := by decide +kernel
theorem d_X11_unlike_147 : decode m_X11_unlike.2.1 147 = .ok (.iload 4, 2) := by decide +kernel
theorem d_X11_unlike_149 : decode m_X11_unlike.2.1 149 = .ok (.iload 5, 2) := by decide +kernel
theorem d_X11_unlike_151 : decode m_X11_unlike.2.1 151 = .ok (.iconst 0, 1) := by decide +kernel
theorem d_X11_unlike_152 : decode m_X11_unlike.2.1 152 = .ok (.invokevirtual 386, 3) := by decide +kernel
theorem d_X11_unlike_155 : decode m_X11_unlike.2.1 155 = .ok (.ifCond .ne 6, 3) := by decide +kernel
theorem d_X11_unlike_158 : decode m_X11_unlike.2.1 158 = .ok (.goto 42, 3) := by decide +kernel
theorem d_X11_unlike_161 : decode m_X11_unlike.2.1 161 = .ok (.aload_n 0, 1) := by decide +kernel
theorem d_X11_unlike_162 : decode m_X11_unlike.2.1 162 = .ok (.iload 5, 2) := by decide +kernel
theorem d_X11_unlike_164 : decode m_X11_unlike.2.1 164 = .ok (.putfield 376, 3) := by decide +kernel
theorem d_X11_unlike_167 : decode m_X11_unlike.2.1 167 = .ok (.iconst 0, 1) := by decide +kernel
theorem d_X11_unlike_168 : decode m_X11_unlike.2.1 168 = .ok (.istore 6, 2) := by decide +kernel
theorem d_X11_unlike_170 : decode m_X11_unlike.2.1 170 = .ok (.iload 6, 2) := by decide +kernel
theorem d_X11_unlike_172 : decode m_X11_unlike.2.1 172 = .ok (.iload 5, 2) := by decide +kernel
theorem d_X11_unlike_174 : decode m_X11_unlike.2.1 174 = .ok (.if_icmp .ge 23, 3) := by decide +kernel
theorem d_X11_unlike_177 : decode m_X11_unlike.2.1 177 = .ok (.aload_n 0, 1) := by decide +kernel
theorem d_X11_unlike_178 : decode m_X11_unlike.2.1 178 = .ok (.getfield 100, 3) := by decide +kernel
theorem d_X11_unlike_181 : decode m_X11_unlike.2.1 181 = .ok (.iload 6, 2) := by decide +kernel
theorem d_X11_unlike_183 : decode m_X11_unlike.2.1 183 = .ok (.aload_n 0, 1) := by decide +kernel
theorem d_X11_unlike_184 : decode m_X11_unlike.2.1 184 = .ok (.getfield 97, 3) := by decide +kernel
theorem d_X11_unlike_187 : decode m_X11_unlike.2.1 187 = .ok (.iload 6, 2) := by decide +kernel
theorem d_X11_unlike_189 : decode m_X11_unlike.2.1 189 = .ok (.iaload, 1) := by decide +kernel
theorem d_X11_unlike_190 : decode m_X11_unlike.2.1 190 = .ok (.iastore, 1) := by decide +kernel
theorem d_X11_unlike_191 : decode m_X11_unlike.2.1 191 = .ok (.iinc 6 1, 3) := by decide +kernel
theorem d_X11_unlike_194 : decode m_X11_unlike.2.1 194 = .ok (.goto (-24), 3) := by decide +kernel
theorem d_X11_unlike_197 : decode m_X11_unlike.2.1 197 = .ok (.iload 5, 2) := by decide +kernel
theorem d_X11_unlike_199 : decode m_X11_unlike.2.1 199 = .ok (.ireturn, 1) := by decide +kernel
theorem d_X11_unlike_200 : decode m_X11_unlike.2.1 200 = .ok (.iinc 5 1, 3) := by decide +kernel
theorem d_X11_unlike_203 : decode m_X11_unlike.2.1 203 = .ok (.goto (-64), 3) := by decide +kernel
theorem d_X11_unlike_206 : decode m_X11_unlike.2.1 206 = .ok (.iconst 0, 1) := by decide +kernel
theorem d_X11_unlike_207 : decode m_X11_unlike.2.1 207 = .ok (.ireturn, 1) := by decide +kernel
set_option maxRecDepth 20000 in
theorem e_X11_unlike {E : jm_E} {d : Nat} {μ : jm_M} {Q : Option jm_V → jm_M → Prop} {v1 v2 : Int} (h : (∀ v ∈ ([jm_R 133, jm_I v1, jm_I v2] : List jm_V), jm_ok v) →
  jc E m_X11_isIn d [jm_I v1, jm_I 0, jm_I 1] (jm_up μ 133 0 0) (fun (o : Option jm_V) (m1 : jm_M) => ∀ r2 : Int, o = some (jm_I r2) → (r2 = 0 ∨ r2 = 1) →
  ((r2 = 0 →
    Q (some (jm_I ((-3)))) m1) ∧
   (¬ (r2 = 0) →
    (0 ≤ v1 ∧ v1 < 2) ∧
    ((m1 142 v1 = 0 →
      Q (some (jm_I ((-3)))) m1) ∧
     (¬ (m1 142 v1 = 0) →
      jc E m_X11_isIn d [jm_I v2, jm_I 1, jm_I 6] m1 (fun (o : Option jm_V) (m7 : jm_M) => ∀ r8 : Int, o = some (jm_I r8) → (r8 = 0 ∨ r8 = 1) →
      ((r8 ≠ 0 →
        jc E m_X11_layRules d [jm_R 133, jm_I 0, jm_R 135, jm_I 0] m7 (fun (o : Option jm_V) (m11 : jm_M) => o = none →
        jc E m_X11_layRules d [jm_R 133, jm_I 1, jm_R 137, jm_I (jm_wr (1152 * v1))] m11 (fun (o : Option jm_V) (m12 : jm_M) => o = none →
        jc E m_X11_rule d [jm_R 133, jm_I 0, jm_I 0] m12 (fun (o : Option jm_V) (m13 : jm_M) => ∀ r14 : Int, o = some (jm_I r14) →
        jc E m_X11_rule d [jm_R 133, jm_I 1, jm_I 0] m13 (fun (o : Option jm_V) (m15 : jm_M) => ∀ r16 : Int, o = some (jm_I r16) →
        ((r14 ≤ r16 →
          jc E m_X11_rule d [jm_R 133, jm_I 1, jm_I 0] m15 (fun (o : Option jm_V) (m18 : jm_M) => ∀ r19 : Int, o = some (jm_I r19) →
          jc E m_X11_rule d [jm_R 133, jm_I 0, jm_I 1] m18 (fun (o : Option jm_V) (m20 : jm_M) => ∀ r21 : Int, o = some (jm_I r21) →
          jc E m_X11_rule d [jm_R 133, jm_I 1, jm_I 1] m20 (fun (o : Option jm_V) (m22 : jm_M) => ∀ r23 : Int, o = some (jm_I r23) →
          ((r21 ≤ r23 →
            jc E m_X11_rule d [jm_R 133, jm_I 1, jm_I 1] m22 (fun (o : Option jm_V) (m25 : jm_M) => ∀ r26 : Int, o = some (jm_I r26) →
            jc E m_X11_isTooMany d [jm_I r19, jm_I r26, jm_I v2] m25 (fun (o : Option jm_V) (m27 : jm_M) => ∀ r28 : Int, o = some (jm_I r28) → (r28 = 0 ∨ r28 = 1) →
            ((r28 = 0 →
              jg E m_X11_unlike d 139 [some (jm_R 133), none, some (jm_I v2), some (jm_I r19), some (jm_I r26), some (jm_I 1), none] [] m27 Q) ∧
             (¬ (r28 = 0) →
              Q (some (jm_I ((-2)))) m27))))) ∧
           (¬ (r21 ≤ r23) →
            jc E m_X11_rule d [jm_R 133, jm_I 0, jm_I 1] m22 (fun (o : Option jm_V) (m31 : jm_M) => ∀ r32 : Int, o = some (jm_I r32) →
            jc E m_X11_isTooMany d [jm_I r19, jm_I r32, jm_I v2] m31 (fun (o : Option jm_V) (m33 : jm_M) => ∀ r34 : Int, o = some (jm_I r34) → (r34 = 0 ∨ r34 = 1) →
            ((r34 = 0 →
              jg E m_X11_unlike d 139 [some (jm_R 133), none, some (jm_I v2), some (jm_I r19), some (jm_I r32), some (jm_I 1), none] [] m33 Q) ∧
             (¬ (r34 = 0) →
              Q (some (jm_I ((-2)))) m33)))))))))) ∧
         (¬ (r14 ≤ r16) →
          jc E m_X11_rule d [jm_R 133, jm_I 0, jm_I 0] m15 (fun (o : Option jm_V) (m37 : jm_M) => ∀ r38 : Int, o = some (jm_I r38) →
          jc E m_X11_rule d [jm_R 133, jm_I 0, jm_I 1] m37 (fun (o : Option jm_V) (m39 : jm_M) => ∀ r40 : Int, o = some (jm_I r40) →
          jc E m_X11_rule d [jm_R 133, jm_I 1, jm_I 1] m39 (fun (o : Option jm_V) (m41 : jm_M) => ∀ r42 : Int, o = some (jm_I r42) →
          ((r40 ≤ r42 →
            jc E m_X11_rule d [jm_R 133, jm_I 1, jm_I 1] m41 (fun (o : Option jm_V) (m44 : jm_M) => ∀ r45 : Int, o = some (jm_I r45) →
            jc E m_X11_isTooMany d [jm_I r38, jm_I r45, jm_I v2] m44 (fun (o : Option jm_V) (m46 : jm_M) => ∀ r47 : Int, o = some (jm_I r47) → (r47 = 0 ∨ r47 = 1) →
            ((r47 = 0 →
              jg E m_X11_unlike d 139 [some (jm_R 133), none, some (jm_I v2), some (jm_I r38), some (jm_I r45), some (jm_I 1), none] [] m46 Q) ∧
             (¬ (r47 = 0) →
              Q (some (jm_I ((-2)))) m46))))) ∧
           (¬ (r40 ≤ r42) →
            jc E m_X11_rule d [jm_R 133, jm_I 0, jm_I 1] m41 (fun (o : Option jm_V) (m50 : jm_M) => ∀ r51 : Int, o = some (jm_I r51) →
            jc E m_X11_isTooMany d [jm_I r38, jm_I r51, jm_I v2] m50 (fun (o : Option jm_V) (m52 : jm_M) => ∀ r53 : Int, o = some (jm_I r53) → (r53 = 0 ∨ r53 = 1) →
            ((r53 = 0 →
              jg E m_X11_unlike d 139 [some (jm_R 133), none, some (jm_I v2), some (jm_I r38), some (jm_I r51), some (jm_I 1), none] [] m52 Q) ∧
             (¬ (r53 = 0) →
              Q (some (jm_I ((-2)))) m52)))))))))))))))) ∧
       (¬ (r8 ≠ 0) →
        Q (some (jm_I ((-3)))) m7))))))))) : jc E m_X11_unlike (d + 1) [jm_R 133, jm_I v1, jm_I v2] μ Q := by
  refine jm_Cl.of2 (by decide +kernel) (L0 := [some (jm_R 133), some (jm_I v1), some (jm_I v2), none, none, none, none]) rfl (Nat.le_of_ble_eq_true rfl) (fun hok => ?_)
  have h := h hok
  refine jm_aloadn d_X11_unlike_0 rfl ?_
  refine jm_iconst (v := 0) d_X11_unlike_1 rfl (jm_okI (by decide) (by decide)) ?_
  refine jm_putI (k := 0) (ki := 0) cf_X11 (Nat.le_of_ble_eq_true rfl) f_X11_106 d_X11_unlike_2 (fun z => absurd z (by decide)) rfl rfl rfl (fun _ => rfl) is_133 ?_
  refine jm_iloadn d_X11_unlike_5 rfl ?_
  refine jm_iconst (v := 0) d_X11_unlike_6 rfl (jm_okI (by decide) (by decide)) ?_
  refine jm_iconst (v := 1) d_X11_unlike_7 rfl (jm_okI (by decide) (by decide)) ?_
  refine jm_invS (n1 := jm_N) (mc := 0) (ms := 0) (av := [jm_I _, jm_I _, jm_I _]) w_X11_isIn l_X11_177 d_X11_unlike_8 rfl ⟨Nat.le_refl _, Nat.le_refl _⟩ (Nat.le_of_ble_eq_true rfl) rfl ?_
  refine jm_Cl.mono h (fun o m1 h hr _ => ?_)
  obtain ⟨r2, rfl, z3⟩ := jm_rokZ hr
  have h := h _ rfl z3
  refine jm_if_eq (tgt := 33) d_X11_unlike_11 (by decide) (fun c4 => ?_) (fun c4 => ?_)
  · have h := h.1 c4
    refine jm_bipush (v := (-3)) d_X11_unlike_33 rfl (jm_okI (by decide) (by decide)) ?_
    exact jm_ret (o := some (jm_I _)) d_X11_unlike_35 rfl ⟨Nat.le_refl _, Nat.le_refl _⟩ jm_r_I h rfl
  · have h := h.2 c4
    refine jm_aloadn d_X11_unlike_14 rfl ?_
    refine jm_getF (k := 21) (ki := 21) rfl cf_X11 (Nat.le_of_ble_eq_true rfl) f_X11_35 d_X11_unlike_15 rfl rfl is_133 fr_133_21 ?_
    refine jm_iloadn d_X11_unlike_18 rfl ?_
    obtain ⟨f5, h⟩ := h
    refine jm_zaload d_X11_unlike_19 (ixl_142 f5.1 f5.2) ?_
    refine jm_if_eq (tgt := 33) d_X11_unlike_20 (by decide) (fun c6 => ?_) (fun c6 => ?_)
    · have h := h.1 c6
      refine jm_bipush (v := (-3)) d_X11_unlike_33 rfl (jm_okI (by decide) (by decide)) ?_
      exact jm_ret (o := some (jm_I _)) d_X11_unlike_35 rfl ⟨Nat.le_refl _, Nat.le_refl _⟩ jm_r_I h rfl
    · have h := h.2 c6
      refine jm_iloadn d_X11_unlike_23 rfl ?_
      refine jm_iconst (v := 1) d_X11_unlike_24 rfl (jm_okI (by decide) (by decide)) ?_
      refine jm_bipush (v := 6) d_X11_unlike_25 rfl (jm_okI (by decide) (by decide)) ?_
      refine jm_invS (n1 := jm_N) (mc := 0) (ms := 0) (av := [jm_I _, jm_I _, jm_I _]) w_X11_isIn l_X11_177 d_X11_unlike_27 rfl ⟨Nat.le_refl _, Nat.le_refl _⟩ (Nat.le_of_ble_eq_true rfl) rfl ?_
      refine jm_Cl.mono h (fun o m7 h hr _ => ?_)
      obtain ⟨r8, rfl, z9⟩ := jm_rokZ hr
      have h := h _ rfl z9
      refine jm_if_ne (tgt := 36) d_X11_unlike_30 (by decide) (fun c10 => ?_) (fun c10 => ?_)
      · have h := h.1 c10
        refine jm_aloadn d_X11_unlike_36 rfl ?_
        refine jm_iconst (v := 0) d_X11_unlike_37 rfl (jm_okI (by decide) (by decide)) ?_
        refine jm_aloadn d_X11_unlike_38 rfl ?_
        refine jm_getF (k := 14) (ki := 14) rfl cf_X11 (Nat.le_of_ble_eq_true rfl) f_X11_13 d_X11_unlike_39 rfl rfl is_133 fr_133_14 ?_
        refine jm_iconst (v := 0) d_X11_unlike_42 rfl (jm_okI (by decide) (by decide)) ?_
        refine jm_invV (n1 := jm_N) (mc := 0) (ms := 0) (av := [jm_I _, jm_R _, jm_I _]) w_X11_layRules l_X11_262 d_X11_unlike_43 rfl is_133 ⟨_, _, rfl⟩ ⟨Nat.le_refl _, Nat.le_refl _⟩ (Nat.le_of_ble_eq_true rfl) rfl ?_
        refine jm_Cl.mono h (fun o m11 h hr _ => ?_)
        obtain rfl := jm_rokV hr
        have h := h rfl
        refine jm_aloadn d_X11_unlike_46 rfl ?_
        refine jm_iconst (v := 1) d_X11_unlike_47 rfl (jm_okI (by decide) (by decide)) ?_
        refine jm_aloadn d_X11_unlike_48 rfl ?_
        refine jm_getF (k := 16) (ki := 16) rfl cf_X11 (Nat.le_of_ble_eq_true rfl) f_X11_19 d_X11_unlike_49 rfl rfl is_133 fr_133_16 ?_
        refine jm_sipush (v := 1152) d_X11_unlike_52 rfl (jm_okI (by decide) (by decide)) ?_
        refine jm_iloadn d_X11_unlike_55 rfl ?_
        refine jm_imul d_X11_unlike_56 ?_
        refine jm_invV (n1 := jm_N) (mc := 0) (ms := 0) (av := [jm_I _, jm_R _, jm_I _]) w_X11_layRules l_X11_262 d_X11_unlike_57 rfl is_133 ⟨_, _, rfl⟩ ⟨Nat.le_refl _, Nat.le_refl _⟩ (Nat.le_of_ble_eq_true rfl) rfl ?_
        refine jm_Cl.mono h (fun o m12 h hr _ => ?_)
        obtain rfl := jm_rokV hr
        have h := h rfl
        refine jm_aloadn d_X11_unlike_60 rfl ?_
        refine jm_iconst (v := 0) d_X11_unlike_61 rfl (jm_okI (by decide) (by decide)) ?_
        refine jm_iconst (v := 0) d_X11_unlike_62 rfl (jm_okI (by decide) (by decide)) ?_
        refine jm_invV (n1 := jm_N) (mc := 0) (ms := 0) (av := [jm_I _, jm_I _]) w_X11_rule l_X11_255 d_X11_unlike_63 rfl is_133 ⟨_, _, rfl⟩ ⟨Nat.le_refl _, Nat.le_refl _⟩ (Nat.le_of_ble_eq_true rfl) rfl ?_
        refine jm_Cl.mono h (fun o m13 h hr _ => ?_)
        obtain ⟨r14, rfl⟩ := jm_rokI hr
        have h := h _ rfl
        refine jm_aloadn d_X11_unlike_66 rfl ?_
        refine jm_iconst (v := 1) d_X11_unlike_67 rfl (jm_okI (by decide) (by decide)) ?_
        refine jm_iconst (v := 0) d_X11_unlike_68 rfl (jm_okI (by decide) (by decide)) ?_
        refine jm_invV (n1 := jm_N) (mc := 0) (ms := 0) (av := [jm_I _, jm_I _]) w_X11_rule l_X11_255 d_X11_unlike_69 rfl is_133 ⟨_, _, rfl⟩ ⟨Nat.le_refl _, Nat.le_refl _⟩ (Nat.le_of_ble_eq_true rfl) rfl ?_
        refine jm_Cl.mono h (fun o m15 h hr _ => ?_)
        obtain ⟨r16, rfl⟩ := jm_rokI hr
        have h := h _ rfl
        refine jm_icmp_le (tgt := 84) d_X11_unlike_72 (by decide) (fun c17 => ?_) (fun c17 => ?_)
        · have h := h.1 c17
          refine jm_aloadn d_X11_unlike_84 rfl ?_
          refine jm_iconst (v := 1) d_X11_unlike_85 rfl (jm_okI (by decide) (by decide)) ?_
          refine jm_iconst (v := 0) d_X11_unlike_86 rfl (jm_okI (by decide) (by decide)) ?_
          refine jm_invV (n1 := jm_N) (mc := 0) (ms := 0) (av := [jm_I _, jm_I _]) w_X11_rule l_X11_255 d_X11_unlike_87 rfl is_133 ⟨_, _, rfl⟩ ⟨Nat.le_refl _, Nat.le_refl _⟩ (Nat.le_of_ble_eq_true rfl) rfl ?_
          refine jm_Cl.mono h (fun o m18 h hr _ => ?_)
          obtain ⟨r19, rfl⟩ := jm_rokI hr
          have h := h _ rfl
          refine jm_istoren (L' := [some (jm_R _), some (jm_I _), some (jm_I _), some (jm_I _), none, none, none]) d_X11_unlike_90 (Nat.le_of_ble_eq_true rfl) rfl ?_
          refine jm_aloadn d_X11_unlike_91 rfl ?_
          refine jm_iconst (v := 0) d_X11_unlike_92 rfl (jm_okI (by decide) (by decide)) ?_
          refine jm_iconst (v := 1) d_X11_unlike_93 rfl (jm_okI (by decide) (by decide)) ?_
          refine jm_invV (n1 := jm_N) (mc := 0) (ms := 0) (av := [jm_I _, jm_I _]) w_X11_rule l_X11_255 d_X11_unlike_94 rfl is_133 ⟨_, _, rfl⟩ ⟨Nat.le_refl _, Nat.le_refl _⟩ (Nat.le_of_ble_eq_true rfl) rfl ?_
          refine jm_Cl.mono h (fun o m20 h hr _ => ?_)
          obtain ⟨r21, rfl⟩ := jm_rokI hr
          have h := h _ rfl
          refine jm_aloadn d_X11_unlike_97 rfl ?_
          refine jm_iconst (v := 1) d_X11_unlike_98 rfl (jm_okI (by decide) (by decide)) ?_
          refine jm_iconst (v := 1) d_X11_unlike_99 rfl (jm_okI (by decide) (by decide)) ?_
          refine jm_invV (n1 := jm_N) (mc := 0) (ms := 0) (av := [jm_I _, jm_I _]) w_X11_rule l_X11_255 d_X11_unlike_100 rfl is_133 ⟨_, _, rfl⟩ ⟨Nat.le_refl _, Nat.le_refl _⟩ (Nat.le_of_ble_eq_true rfl) rfl ?_
          refine jm_Cl.mono h (fun o m22 h hr _ => ?_)
          obtain ⟨r23, rfl⟩ := jm_rokI hr
          have h := h _ rfl
          refine jm_icmp_le (tgt := 115) d_X11_unlike_103 (by decide) (fun c24 => ?_) (fun c24 => ?_)
          · have h := h.1 c24
            refine jm_aloadn d_X11_unlike_115 rfl ?_
            refine jm_iconst (v := 1) d_X11_unlike_116 rfl (jm_okI (by decide) (by decide)) ?_
            refine jm_iconst (v := 1) d_X11_unlike_117 rfl (jm_okI (by decide) (by decide)) ?_
            refine jm_invV (n1 := jm_N) (mc := 0) (ms := 0) (av := [jm_I _, jm_I _]) w_X11_rule l_X11_255 d_X11_unlike_118 rfl is_133 ⟨_, _, rfl⟩ ⟨Nat.le_refl _, Nat.le_refl _⟩ (Nat.le_of_ble_eq_true rfl) rfl ?_
            refine jm_Cl.mono h (fun o m25 h hr _ => ?_)
            obtain ⟨r26, rfl⟩ := jm_rokI hr
            have h := h _ rfl
            refine jm_istore (L' := [some (jm_R _), some (jm_I _), some (jm_I _), some (jm_I _), some (jm_I _), none, none]) d_X11_unlike_121 (Nat.le_of_ble_eq_true rfl) rfl ?_
            refine jm_iloadn d_X11_unlike_123 rfl ?_
            refine jm_iload d_X11_unlike_124 rfl ?_
            refine jm_iloadn d_X11_unlike_126 rfl ?_
            refine jm_invS (n1 := jm_N) (mc := 0) (ms := 0) (av := [jm_I _, jm_I _, jm_I _]) w_X11_isTooMany l_X11_369 d_X11_unlike_127 rfl ⟨Nat.le_refl _, Nat.le_refl _⟩ (Nat.le_of_ble_eq_true rfl) rfl ?_
            refine jm_Cl.mono h (fun o m27 h hr _ => ?_)
            obtain ⟨r28, rfl, z29⟩ := jm_rokZ hr
            have h := h _ rfl z29
            refine jm_if_eq (tgt := 136) d_X11_unlike_130 (by decide) (fun c30 => ?_) (fun c30 => ?_)
            · have h := h.1 c30
              refine jm_iconst (v := 1) d_X11_unlike_136 rfl (jm_okI (by decide) (by decide)) ?_
              refine jm_istore (L' := [some (jm_R _), some (jm_I _), some (jm_I _), some (jm_I _), some (jm_I _), some (jm_I _), none]) d_X11_unlike_137 (Nat.le_of_ble_eq_true rfl) rfl ?_
              exact jm_weak2 h (And.intro rfl (And.intro rfl (And.intro rfl (And.intro rfl (And.intro rfl trivial)))))
            · have h := h.2 c30
              refine jm_bipush (v := (-2)) d_X11_unlike_133 rfl (jm_okI (by decide) (by decide)) ?_
              exact jm_ret (o := some (jm_I _)) d_X11_unlike_135 rfl ⟨Nat.le_refl _, Nat.le_refl _⟩ jm_r_I h rfl
          · have h := h.2 c24
            refine jm_aloadn d_X11_unlike_106 rfl ?_
            refine jm_iconst (v := 0) d_X11_unlike_107 rfl (jm_okI (by decide) (by decide)) ?_
            refine jm_iconst (v := 1) d_X11_unlike_108 rfl (jm_okI (by decide) (by decide)) ?_
            refine jm_invV (n1 := jm_N) (mc := 0) (ms := 0) (av := [jm_I _, jm_I _]) w_X11_rule l_X11_255 d_X11_unlike_109 rfl is_133 ⟨_, _, rfl⟩ ⟨Nat.le_refl _, Nat.le_refl _⟩ (Nat.le_of_ble_eq_true rfl) rfl ?_
            refine jm_Cl.mono h (fun o m31 h hr _ => ?_)
            obtain ⟨r32, rfl⟩ := jm_rokI hr
            have h := h _ rfl
            refine jm_goto (tgt := 121) d_X11_unlike_112 (by decide) ?_
            refine jm_istore (L' := [some (jm_R _), some (jm_I _), some (jm_I _), some (jm_I _), some (jm_I _), none, none]) d_X11_unlike_121 (Nat.le_of_ble_eq_true rfl) rfl ?_
            refine jm_iloadn d_X11_unlike_123 rfl ?_
            refine jm_iload d_X11_unlike_124 rfl ?_
            refine jm_iloadn d_X11_unlike_126 rfl ?_
            refine jm_invS (n1 := jm_N) (mc := 0) (ms := 0) (av := [jm_I _, jm_I _, jm_I _]) w_X11_isTooMany l_X11_369 d_X11_unlike_127 rfl ⟨Nat.le_refl _, Nat.le_refl _⟩ (Nat.le_of_ble_eq_true rfl) rfl ?_
            refine jm_Cl.mono h (fun o m33 h hr _ => ?_)
            obtain ⟨r34, rfl, z35⟩ := jm_rokZ hr
            have h := h _ rfl z35
            refine jm_if_eq (tgt := 136) d_X11_unlike_130 (by decide) (fun c36 => ?_) (fun c36 => ?_)
            · have h := h.1 c36
              refine jm_iconst (v := 1) d_X11_unlike_136 rfl (jm_okI (by decide) (by decide)) ?_
              refine jm_istore (L' := [some (jm_R _), some (jm_I _), some (jm_I _), some (jm_I _), some (jm_I _), some (jm_I _), none]) d_X11_unlike_137 (Nat.le_of_ble_eq_true rfl) rfl ?_
              exact jm_weak2 h (And.intro rfl (And.intro rfl (And.intro rfl (And.intro rfl (And.intro rfl trivial)))))
            · have h := h.2 c36
              refine jm_bipush (v := (-2)) d_X11_unlike_133 rfl (jm_okI (by decide) (by decide)) ?_
              exact jm_ret (o := some (jm_I _)) d_X11_unlike_135 rfl ⟨Nat.le_refl _, Nat.le_refl _⟩ jm_r_I h rfl
        · have h := h.2 c17
          refine jm_aloadn d_X11_unlike_75 rfl ?_
          refine jm_iconst (v := 0) d_X11_unlike_76 rfl (jm_okI (by decide) (by decide)) ?_
          refine jm_iconst (v := 0) d_X11_unlike_77 rfl (jm_okI (by decide) (by decide)) ?_
          refine jm_invV (n1 := jm_N) (mc := 0) (ms := 0) (av := [jm_I _, jm_I _]) w_X11_rule l_X11_255 d_X11_unlike_78 rfl is_133 ⟨_, _, rfl⟩ ⟨Nat.le_refl _, Nat.le_refl _⟩ (Nat.le_of_ble_eq_true rfl) rfl ?_
          refine jm_Cl.mono h (fun o m37 h hr _ => ?_)
          obtain ⟨r38, rfl⟩ := jm_rokI hr
          have h := h _ rfl
          refine jm_goto (tgt := 90) d_X11_unlike_81 (by decide) ?_
          refine jm_istoren (L' := [some (jm_R _), some (jm_I _), some (jm_I _), some (jm_I _), none, none, none]) d_X11_unlike_90 (Nat.le_of_ble_eq_true rfl) rfl ?_
          refine jm_aloadn d_X11_unlike_91 rfl ?_
          refine jm_iconst (v := 0) d_X11_unlike_92 rfl (jm_okI (by decide) (by decide)) ?_
          refine jm_iconst (v := 1) d_X11_unlike_93 rfl (jm_okI (by decide) (by decide)) ?_
          refine jm_invV (n1 := jm_N) (mc := 0) (ms := 0) (av := [jm_I _, jm_I _]) w_X11_rule l_X11_255 d_X11_unlike_94 rfl is_133 ⟨_, _, rfl⟩ ⟨Nat.le_refl _, Nat.le_refl _⟩ (Nat.le_of_ble_eq_true rfl) rfl ?_
          refine jm_Cl.mono h (fun o m39 h hr _ => ?_)
          obtain ⟨r40, rfl⟩ := jm_rokI hr
          have h := h _ rfl
          refine jm_aloadn d_X11_unlike_97 rfl ?_
          refine jm_iconst (v := 1) d_X11_unlike_98 rfl (jm_okI (by decide) (by decide)) ?_
          refine jm_iconst (v := 1) d_X11_unlike_99 rfl (jm_okI (by decide) (by decide)) ?_
          refine jm_invV (n1 := jm_N) (mc := 0) (ms := 0) (av := [jm_I _, jm_I _]) w_X11_rule l_X11_255 d_X11_unlike_100 rfl is_133 ⟨_, _, rfl⟩ ⟨Nat.le_refl _, Nat.le_refl _⟩ (Nat.le_of_ble_eq_true rfl) rfl ?_
          refine jm_Cl.mono h (fun o m41 h hr _ => ?_)
          obtain ⟨r42, rfl⟩ := jm_rokI hr
          have h := h _ rfl
          refine jm_icmp_le (tgt := 115) d_X11_unlike_103 (by decide) (fun c43 => ?_) (fun c43 => ?_)
          · have h := h.1 c43
            refine jm_aloadn d_X11_unlike_115 rfl ?_
            refine jm_iconst (v := 1) d_X11_unlike_116 rfl (jm_okI (by decide) (by decide)) ?_
            refine jm_iconst (v := 1) d_X11_unlike_117 rfl (jm_okI (by decide) (by decide)) ?_
            refine jm_invV (n1 := jm_N) (mc := 0) (ms := 0) (av := [jm_I _, jm_I _]) w_X11_rule l_X11_255 d_X11_unlike_118 rfl is_133 ⟨_, _, rfl⟩ ⟨Nat.le_refl _, Nat.le_refl _⟩ (Nat.le_of_ble_eq_true rfl) rfl ?_
            refine jm_Cl.mono h (fun o m44 h hr _ => ?_)
            obtain ⟨r45, rfl⟩ := jm_rokI hr
            have h := h _ rfl
            refine jm_istore (L' := [some (jm_R _), some (jm_I _), some (jm_I _), some (jm_I _), some (jm_I _), none, none]) d_X11_unlike_121 (Nat.le_of_ble_eq_true rfl) rfl ?_
            refine jm_iloadn d_X11_unlike_123 rfl ?_
            refine jm_iload d_X11_unlike_124 rfl ?_
            refine jm_iloadn d_X11_unlike_126 rfl ?_
            refine jm_invS (n1 := jm_N) (mc := 0) (ms := 0) (av := [jm_I _, jm_I _, jm_I _]) w_X11_isTooMany l_X11_369 d_X11_unlike_127 rfl ⟨Nat.le_refl _, Nat.le_refl _⟩ (Nat.le_of_ble_eq_true rfl) rfl ?_
            refine jm_Cl.mono h (fun o m46 h hr _ => ?_)
            obtain ⟨r47, rfl, z48⟩ := jm_rokZ hr
            have h := h _ rfl z48
            refine jm_if_eq (tgt := 136) d_X11_unlike_130 (by decide) (fun c49 => ?_) (fun c49 => ?_)
            · have h := h.1 c49
              refine jm_iconst (v := 1) d_X11_unlike_136 rfl (jm_okI (by decide) (by decide)) ?_
              refine jm_istore (L' := [some (jm_R _), some (jm_I _), some (jm_I _), some (jm_I _), some (jm_I _), some (jm_I _), none]) d_X11_unlike_137 (Nat.le_of_ble_eq_true rfl) rfl ?_
              exact jm_weak2 h (And.intro rfl (And.intro rfl (And.intro rfl (And.intro rfl (And.intro rfl trivial)))))
            · have h := h.2 c49
              refine jm_bipush (v := (-2)) d_X11_unlike_133 rfl (jm_okI (by decide) (by decide)) ?_
              exact jm_ret (o := some (jm_I _)) d_X11_unlike_135 rfl ⟨Nat.le_refl _, Nat.le_refl _⟩ jm_r_I h rfl
          · have h := h.2 c43
            refine jm_aloadn d_X11_unlike_106 rfl ?_
            refine jm_iconst (v := 0) d_X11_unlike_107 rfl (jm_okI (by decide) (by decide)) ?_
            refine jm_iconst (v := 1) d_X11_unlike_108 rfl (jm_okI (by decide) (by decide)) ?_
            refine jm_invV (n1 := jm_N) (mc := 0) (ms := 0) (av := [jm_I _, jm_I _]) w_X11_rule l_X11_255 d_X11_unlike_109 rfl is_133 ⟨_, _, rfl⟩ ⟨Nat.le_refl _, Nat.le_refl _⟩ (Nat.le_of_ble_eq_true rfl) rfl ?_
            refine jm_Cl.mono h (fun o m50 h hr _ => ?_)
            obtain ⟨r51, rfl⟩ := jm_rokI hr
            have h := h _ rfl
            refine jm_goto (tgt := 121) d_X11_unlike_112 (by decide) ?_
            refine jm_istore (L' := [some (jm_R _), some (jm_I _), some (jm_I _), some (jm_I _), some (jm_I _), none, none]) d_X11_unlike_121 (Nat.le_of_ble_eq_true rfl) rfl ?_
            refine jm_iloadn d_X11_unlike_123 rfl ?_
            refine jm_iload d_X11_unlike_124 rfl ?_
            refine jm_iloadn d_X11_unlike_126 rfl ?_
            refine jm_invS (n1 := jm_N) (mc := 0) (ms := 0) (av := [jm_I _, jm_I _, jm_I _]) w_X11_isTooMany l_X11_369 d_X11_unlike_127 rfl ⟨Nat.le_refl _, Nat.le_refl _⟩ (Nat.le_of_ble_eq_true rfl) rfl ?_
            refine jm_Cl.mono h (fun o m52 h hr _ => ?_)
            obtain ⟨r53, rfl, z54⟩ := jm_rokZ hr
            have h := h _ rfl z54
            refine jm_if_eq (tgt := 136) d_X11_unlike_130 (by decide) (fun c55 => ?_) (fun c55 => ?_)
            · have h := h.1 c55
              refine jm_iconst (v := 1) d_X11_unlike_136 rfl (jm_okI (by decide) (by decide)) ?_
              refine jm_istore (L' := [some (jm_R _), some (jm_I _), some (jm_I _), some (jm_I _), some (jm_I _), some (jm_I _), none]) d_X11_unlike_137 (Nat.le_of_ble_eq_true rfl) rfl ?_
              exact jm_weak2 h (And.intro rfl (And.intro rfl (And.intro rfl (And.intro rfl (And.intro rfl trivial)))))
            · have h := h.2 c55
              refine jm_bipush (v := (-2)) d_X11_unlike_133 rfl (jm_okI (by decide) (by decide)) ?_
              exact jm_ret (o := some (jm_I _)) d_X11_unlike_135 rfl ⟨Nat.le_refl _, Nat.le_refl _⟩ jm_r_I h rfl
      · have h := h.2 c10
        refine jm_bipush (v := (-3)) d_X11_unlike_33 rfl (jm_okI (by decide) (by decide)) ?_
        exact jm_ret (o := some (jm_I _)) d_X11_unlike_35 rfl ⟨Nat.le_refl _, Nat.le_refl _⟩ jm_r_I h rfl
set_option maxRecDepth 20000 in
theorem r_X11_unlike_139 {E : jm_E} {d : Nat} {μ : jm_M} {Q : Option jm_V → jm_M → Prop} {v2 v3 v4 v5 : Int} (h :
  ((v2 < v5 →
    Q (some (jm_I 0)) μ) ∧
   (¬ (v2 < v5) →
    jc E m_X11_parts d [jm_R 133, jm_I v3, jm_I v4, jm_I v5, jm_I 0] μ (fun (o : Option jm_V) (m2 : jm_M) => ∀ r3 : Int, o = some (jm_I r3) → (r3 = 0 ∨ r3 = 1) →
    ((r3 ≠ 0 →
      jg E m_X11_unlike d 170 [some (jm_R 133), none, none, none, none, some (jm_I v5), some (jm_I 0)] [] (jm_up m2 133 52 v5) Q) ∧
     (¬ (r3 ≠ 0) →
      jg E m_X11_unlike d 139 [some (jm_R 133), none, some (jm_I v2), some (jm_I v3), some (jm_I v4), some (jm_I (jm_wr (v5 + 1))), none] [] m2 Q)))))) : jg E m_X11_unlike d 139 [some (jm_R 133), none, some (jm_I v2), some (jm_I v3), some (jm_I v4), some (jm_I v5), none] [] μ Q := by
  refine jm_iload d_X11_unlike_139 rfl ?_
  refine jm_iloadn d_X11_unlike_141 rfl ?_
  refine jm_icmp_gt (tgt := 206) d_X11_unlike_142 (by decide) (fun c1 => ?_) (fun c1 => ?_)
  · have h := h.1 c1
    refine jm_iconst (v := 0) d_X11_unlike_206 rfl (jm_okI (by decide) (by decide)) ?_
    exact jm_ret (o := some (jm_I _)) d_X11_unlike_207 rfl ⟨Nat.le_refl _, Nat.le_refl _⟩ jm_r_I h rfl
  · have h := h.2 c1
    refine jm_aloadn d_X11_unlike_145 rfl ?_
    refine jm_iloadn d_X11_unlike_146 rfl ?_
    refine jm_iload d_X11_unlike_147 rfl ?_
    refine jm_iload d_X11_unlike_149 rfl ?_
    refine jm_iconst (v := 0) d_X11_unlike_151 rfl (jm_okI (by decide) (by decide)) ?_
    refine jm_invV (n1 := jm_N) (mc := 0) (ms := 0) (av := [jm_I _, jm_I _, jm_I _, jm_I _]) w_X11_parts l_X11_386 d_X11_unlike_152 rfl is_133 ⟨_, _, rfl⟩ ⟨Nat.le_refl _, Nat.le_refl _⟩ (Nat.le_of_ble_eq_true rfl) rfl ?_
    refine jm_Cl.mono h (fun o m2 h hr _ => ?_)
    obtain ⟨r3, rfl, z4⟩ := jm_rokZ hr
    have h := h _ rfl z4
    refine jm_if_ne (tgt := 161) d_X11_unlike_155 (by decide) (fun c5 => ?_) (fun c5 => ?_)
    · have h := h.1 c5
      refine jm_aloadn d_X11_unlike_161 rfl ?_
      refine jm_iload d_X11_unlike_162 rfl ?_
      refine jm_putI (k := 52) (ki := 52) cf_X11 (Nat.le_of_ble_eq_true rfl) f_X11_376 d_X11_unlike_164 (fun z => absurd z (by decide)) rfl rfl rfl (fun _ => rfl) is_133 ?_
      refine jm_iconst (v := 0) d_X11_unlike_167 rfl (jm_okI (by decide) (by decide)) ?_
      refine jm_istore (L' := [some (jm_R _), none, some (jm_I _), some (jm_I _), some (jm_I _), some (jm_I _), some (jm_I _)]) d_X11_unlike_168 (Nat.le_of_ble_eq_true rfl) rfl ?_
      exact jm_weak2 h (And.intro rfl (And.intro rfl (And.intro rfl trivial)))
    · have h := h.2 c5
      refine jm_goto (tgt := 200) d_X11_unlike_158 (by decide) ?_
      refine jm_iinc (L' := [some (jm_R _), none, some (jm_I _), some (jm_I _), some (jm_I _), some (jm_I _), none]) d_X11_unlike_200 rfl rfl (Nat.le_of_ble_eq_true rfl) rfl ?_
      refine jm_goto (tgt := 139) d_X11_unlike_203 (by decide) ?_
      exact h
set_option maxRecDepth 20000 in
theorem r_X11_unlike_170 {E : jm_E} {d : Nat} {μ : jm_M} {Q : Option jm_V → jm_M → Prop} {v5 v6 : Int} (h :
  ((v5 ≤ v6 →
    Q (some (jm_I v5)) μ) ∧
   (¬ (v5 ≤ v6) →
    (0 ≤ v6 ∧ v6 < 8) ∧
    ∀ m3 : jm_M, m3 = (jm_up μ 162 v6 (μ 161 v6)) →
    jg E m_X11_unlike d 170 [some (jm_R 133), none, none, none, none, some (jm_I v5), some (jm_I (jm_wr (v6 + 1)))] [] m3 Q))) : jg E m_X11_unlike d 170 [some (jm_R 133), none, none, none, none, some (jm_I v5), some (jm_I v6)] [] μ Q := by
  refine jm_iload d_X11_unlike_170 rfl ?_
  refine jm_iload d_X11_unlike_172 rfl ?_
  refine jm_icmp_ge (tgt := 197) d_X11_unlike_174 (by decide) (fun c1 => ?_) (fun c1 => ?_)
  · have h := h.1 c1
    refine jm_iload d_X11_unlike_197 rfl ?_
    exact jm_ret (o := some (jm_I _)) d_X11_unlike_199 rfl ⟨Nat.le_refl _, Nat.le_refl _⟩ jm_r_I h rfl
  · have h := h.2 c1
    refine jm_aloadn d_X11_unlike_177 rfl ?_
    refine jm_getF (k := 51) (ki := 51) rfl cf_X11 (Nat.le_of_ble_eq_true rfl) f_X11_100 d_X11_unlike_178 rfl rfl is_133 fr_133_51 ?_
    refine jm_iload d_X11_unlike_181 rfl ?_
    refine jm_aloadn d_X11_unlike_183 rfl ?_
    refine jm_getF (k := 50) (ki := 50) rfl cf_X11 (Nat.le_of_ble_eq_true rfl) f_X11_97 d_X11_unlike_184 rfl rfl is_133 fr_133_50 ?_
    refine jm_iload d_X11_unlike_187 rfl ?_
    obtain ⟨f2, h⟩ := h
    refine jm_iaload d_X11_unlike_189 (ixl_161 f2.1 f2.2) ?_
    refine jm_iastore d_X11_unlike_190 (ixl_162 f2.1 f2.2) ?_
    have h := h _ rfl
    refine jm_iinc (L' := [some (jm_R _), none, none, none, none, some (jm_I _), some (jm_I _)]) d_X11_unlike_191 rfl rfl (Nat.le_of_ble_eq_true rfl) rfl ?_
    refine jm_goto (tgt := 170) d_X11_unlike_194 (by decide) ?_
    exact h
/-! ('CombTableModel', 'lays', '(IIII)I') -/
theorem d_X11_lays_0 : decode m_X11_lays.2.1 0 = .ok (.iconst 4, 1) := by decide +kernel
theorem d_X11_lays_1 : decode m_X11_lays.2.1 1 = .ok (.aload_n 0, 1) := by decide +kernel
theorem d_X11_lays_2 : decode m_X11_lays.2.1 2 = .ok (.getfield 390, 3) := by decide +kernel
theorem d_X11_lays_5 : decode m_X11_lays.2.1 5 = .ok (.imul, 1) := by decide +kernel
theorem d_X11_lays_6 : decode m_X11_lays.2.1 6 = .ok (.istore 5, 2) := by decide +kernel
theorem d_X11_lays_8 : decode m_X11_lays.2.1 8 = .ok (.aload_n 0, 1) := by decide +kernel
theorem d_X11_lays_9 : decode m_X11_lays.2.1 9 = .ok (.getfield 103, 3) := by decide +kernel
theorem d_X11_lays_12 : decode m_X11_lays.2.1 12 = .ok (.iload 5, 2) := by decide +kernel
theorem d_X11_lays_14 : decode m_X11_lays.2.1 14 = .ok (.iload_n 1, 1) := by decide +kernel
theorem d_X11_lays_15 : decode m_X11_lays.2.1 15 = .ok (.iastore, 1) := by decide +kernel
theorem d_X11_lays_16 : decode m_X11_lays.2.1 16 = .ok (.aload_n 0, 1) := by decide +kernel
theorem d_X11_lays_17 : decode m_X11_lays.2.1 17 = .ok (.getfield 103, 3) := by decide +kernel
theorem d_X11_lays_20 : decode m_X11_lays.2.1 20 = .ok (.iload 5, 2) := by decide +kernel
theorem d_X11_lays_22 : decode m_X11_lays.2.1 22 = .ok (.iconst 1, 1) := by decide +kernel
theorem d_X11_lays_23 : decode m_X11_lays.2.1 23 = .ok (.iadd, 1) := by decide +kernel
theorem d_X11_lays_24 : decode m_X11_lays.2.1 24 = .ok (.iload_n 2, 1) := by decide +kernel
theorem d_X11_lays_25 : decode m_X11_lays.2.1 25 = .ok (.iastore, 1) := by decide +kernel
theorem d_X11_lays_26 : decode m_X11_lays.2.1 26 = .ok (.aload_n 0, 1) := by decide +kernel
theorem d_X11_lays_27 : decode m_X11_lays.2.1 27 = .ok (.getfield 103, 3) := by decide +kernel
theorem d_X11_lays_30 : decode m_X11_lays.2.1 30 = .ok (.iload 5, 2) := by decide +kernel
theorem d_X11_lays_32 : decode m_X11_lays.2.1 32 = .ok (.iconst 2, 1) := by decide +kernel
theorem d_X11_lays_33 : decode m_X11_lays.2.1 33 = .ok (.iadd, 1) := by decide +kernel
theorem d_X11_lays_34 : decode m_X11_lays.2.1 34 = .ok (.iload_n 3, 1) := by decide +kernel
theorem d_X11_lays_35 : decode m_X11_lays.2.1 35 = .ok (.iastore, 1) := by decide +kernel
theorem d_X11_lays_36 : decode m_X11_lays.2.1 36 = .ok (.aload_n 0, 1) := by decide +kernel
theorem d_X11_lays_37 : decode m_X11_lays.2.1 37 = .ok (.getfield 103, 3) := by decide +kernel
theorem d_X11_lays_40 : decode m_X11_lays.2.1 40 = .ok (.iload 5, 2) := by decide +kernel
theorem d_X11_lays_42 : decode m_X11_lays.2.1 42 = .ok (.iconst 3, 1) := by decide +kernel
theorem d_X11_lays_43 : decode m_X11_lays.2.1 43 = .ok (.iadd, 1) := by decide +kernel
theorem d_X11_lays_44 : decode m_X11_lays.2.1 44 = .ok (.iload 4, 2) := by decide +kernel
theorem d_X11_lays_46 : decode m_X11_lays.2.1 46 = .ok (.iastore, 1) := by decide +kernel
theorem d_X11_lays_47 : decode m_X11_lays.2.1 47 = .ok (.aload_n 0, 1) := by decide +kernel
theorem d_X11_lays_48 : decode m_X11_lays.2.1 48 = .ok (.dup, 1) := by decide +kernel
theorem d_X11_lays_49 : decode m_X11_lays.2.1 49 = .ok (.getfield 390, 3) := by decide +kernel
theorem d_X11_lays_52 : decode m_X11_lays.2.1 52 = .ok (.iconst 1, 1) := by decide +kernel
theorem d_X11_lays_53 : decode m_X11_lays.2.1 53 = .ok (.iadd, 1) := by decide +kernel
theorem d_X11_lays_54 : decode m_X11_lays.2.1 54 = .ok (.putfield 390, 3) := by decide +kernel
theorem d_X11_lays_57 : decode m_X11_lays.2.1 57 = .ok (.aload_n 0, 1) := by decide +kernel
theorem d_X11_lays_58 : decode m_X11_lays.2.1 58 = .ok (.getfield 390, 3) := by decide +kernel
theorem d_X11_lays_61 : decode m_X11_lays.2.1 61 = .ok (.iconst 1, 1) := by decide +kernel
theorem d_X11_lays_62 : decode m_X11_lays.2.1 62 = .ok (.isub, 1) := by decide +kernel
theorem d_X11_lays_63 : decode m_X11_lays.2.1 63 = .ok (.ireturn, 1) := by decide +kernel
set_option maxRecDepth 20000 in
theorem e_X11_lays {E : jm_E} {d : Nat} {μ : jm_M} {Q : Option jm_V → jm_M → Prop} {v1 v2 v3 v4 : Int} (h : (∀ v ∈ ([jm_R 133, jm_I v1, jm_I v2, jm_I v3, jm_I v4] : List jm_V), jm_ok v) →
  ∀ x1 : Int, x1 = jm_wr (4 * (μ 133 54)) →
  (0 ≤ x1 ∧ x1 < 240) ∧
  ∀ m3 : jm_M, m3 = (jm_up μ 163 x1 v1) →
  (0 ≤ jm_wr (x1 + 1) ∧ jm_wr (x1 + 1) < 240) ∧
  ∀ m5 : jm_M, m5 = (jm_up m3 163 (jm_wr (x1 + 1)) v2) →
  (0 ≤ jm_wr (x1 + 2) ∧ jm_wr (x1 + 2) < 240) ∧
  ∀ m7 : jm_M, m7 = (jm_up m5 163 (jm_wr (x1 + 2)) v3) →
  (0 ≤ jm_wr (x1 + 3) ∧ jm_wr (x1 + 3) < 240) ∧
  ∀ m9 : jm_M, m9 = (jm_up m7 163 (jm_wr (x1 + 3)) v4) →
  Q (some (jm_I (jm_wr ((jm_wr ((m9 133 54) + 1)) - 1)))) (jm_up m9 133 54 (jm_wr ((m9 133 54) + 1)))) : jc E m_X11_lays (d + 1) [jm_R 133, jm_I v1, jm_I v2, jm_I v3, jm_I v4] μ Q := by
  refine jm_Cl.of2 (by decide +kernel) (L0 := [some (jm_R 133), some (jm_I v1), some (jm_I v2), some (jm_I v3), some (jm_I v4), none]) rfl (Nat.le_of_ble_eq_true rfl) (fun hok => ?_)
  have h := h hok
  refine jm_iconst (v := 4) d_X11_lays_0 rfl (jm_okI (by decide) (by decide)) ?_
  refine jm_aloadn d_X11_lays_1 rfl ?_
  refine jm_getI (k := 54) (ki := 54) cf_X11 (Nat.le_of_ble_eq_true rfl) f_X11_390 d_X11_lays_2 rfl rfl is_133 rfl ?_
  refine jm_imul d_X11_lays_5 ?_
  have h := h _ rfl
  refine jm_istore (L' := [some (jm_R _), some (jm_I _), some (jm_I _), some (jm_I _), some (jm_I _), some (jm_I _)]) d_X11_lays_6 (Nat.le_of_ble_eq_true rfl) rfl ?_
  refine jm_aloadn d_X11_lays_8 rfl ?_
  refine jm_getF (k := 53) (ki := 53) rfl cf_X11 (Nat.le_of_ble_eq_true rfl) f_X11_103 d_X11_lays_9 rfl rfl is_133 fr_133_53 ?_
  refine jm_iload d_X11_lays_12 rfl ?_
  refine jm_iloadn d_X11_lays_14 rfl ?_
  obtain ⟨f2, h⟩ := h
  refine jm_iastore d_X11_lays_15 (ixl_163 f2.1 f2.2) ?_
  have h := h _ rfl
  refine jm_aloadn d_X11_lays_16 rfl ?_
  refine jm_getF (k := 53) (ki := 53) rfl cf_X11 (Nat.le_of_ble_eq_true rfl) f_X11_103 d_X11_lays_17 rfl rfl is_133 fr_133_53 ?_
  refine jm_iload d_X11_lays_20 rfl ?_
  refine jm_iconst (v := 1) d_X11_lays_22 rfl (jm_okI (by decide) (by decide)) ?_
  refine jm_iadd d_X11_lays_23 ?_
  refine jm_iloadn d_X11_lays_24 rfl ?_
  obtain ⟨f4, h⟩ := h
  refine jm_iastore d_X11_lays_25 (ixl_163 f4.1 f4.2) ?_
  have h := h _ rfl
  refine jm_aloadn d_X11_lays_26 rfl ?_
  refine jm_getF (k := 53) (ki := 53) rfl cf_X11 (Nat.le_of_ble_eq_true rfl) f_X11_103 d_X11_lays_27 rfl rfl is_133 fr_133_53 ?_
  refine jm_iload d_X11_lays_30 rfl ?_
  refine jm_iconst (v := 2) d_X11_lays_32 rfl (jm_okI (by decide) (by decide)) ?_
  refine jm_iadd d_X11_lays_33 ?_
  refine jm_iloadn d_X11_lays_34 rfl ?_
  obtain ⟨f6, h⟩ := h
  refine jm_iastore d_X11_lays_35 (ixl_163 f6.1 f6.2) ?_
  have h := h _ rfl
  refine jm_aloadn d_X11_lays_36 rfl ?_
  refine jm_getF (k := 53) (ki := 53) rfl cf_X11 (Nat.le_of_ble_eq_true rfl) f_X11_103 d_X11_lays_37 rfl rfl is_133 fr_133_53 ?_
  refine jm_iload d_X11_lays_40 rfl ?_
  refine jm_iconst (v := 3) d_X11_lays_42 rfl (jm_okI (by decide) (by decide)) ?_
  refine jm_iadd d_X11_lays_43 ?_
  refine jm_iload d_X11_lays_44 rfl ?_
  obtain ⟨f8, h⟩ := h
  refine jm_iastore d_X11_lays_46 (ixl_163 f8.1 f8.2) ?_
  have h := h _ rfl
  refine jm_aloadn d_X11_lays_47 rfl ?_
  refine jm_dup rfl d_X11_lays_48 ?_
  refine jm_getI (k := 54) (ki := 54) cf_X11 (Nat.le_of_ble_eq_true rfl) f_X11_390 d_X11_lays_49 rfl rfl is_133 rfl ?_
  refine jm_iconst (v := 1) d_X11_lays_52 rfl (jm_okI (by decide) (by decide)) ?_
  refine jm_iadd d_X11_lays_53 ?_
  refine jm_putI (k := 54) (ki := 54) cf_X11 (Nat.le_of_ble_eq_true rfl) f_X11_390 d_X11_lays_54 (fun z => absurd z (by decide)) rfl rfl rfl (fun _ => rfl) is_133 ?_
  refine jm_aloadn d_X11_lays_57 rfl ?_
  refine jm_getI (k := 54) (ki := 54) cf_X11 (Nat.le_of_ble_eq_true rfl) f_X11_390 d_X11_lays_58 rfl rfl is_133 jm_up_at ?_
  refine jm_iconst (v := 1) d_X11_lays_61 rfl (jm_okI (by decide) (by decide)) ?_
  refine jm_isub d_X11_lays_62 ?_
  exact jm_ret (o := some (jm_I _)) d_X11_lays_63 rfl ⟨Nat.le_refl _, Nat.le_refl _⟩ jm_r_I h rfl
/-! ('CombTableModel', 'readOr', '()Z') -/
theorem d_X11_readOr_0 : decode m_X11_readOr.2.1 0 = .ok (.aload_n 0, 1) := by decide +kernel
theorem d_X11_readOr_1 : decode m_X11_readOr.2.1 1 = .ok (.invokevirtual 393, 3) := by decide +kernel
theorem d_X11_readOr_4 : decode m_X11_readOr.2.1 4 = .ok (.ifCond .ne 5, 3) := by decide +kernel
theorem d_X11_readOr_7 : decode m_X11_readOr.2.1 7 = .ok (.iconst 0, 1) := by decide +kernel
theorem d_X11_readOr_8 : decode m_X11_readOr.2.1 8 = .ok (.ireturn, 1) := by decide +kernel
theorem d_X11_readOr_9 : decode m_X11_readOr.2.1 9 = .ok (.aload_n 0, 1) := by decide +kernel
theorem d_X11_readOr_10 : decode m_X11_readOr.2.1 10 = .ok (.getfield 396, 3) := by decide +kernel
theorem d_X11_readOr_13 : decode m_X11_readOr.2.1 13 = .ok (.istore_n 1, 1) := by decide +kernel
theorem d_X11_readOr_14 : decode m_X11_readOr.2.1 14 = .ok (.aload_n 0, 1) := by decide +kernel
theorem d_X11_readOr_15 : decode m_X11_readOr.2.1 15 = .ok (.bipush 15, 2) := by decide +kernel
theorem d_X11_readOr_17 : decode m_X11_readOr.2.1 17 = .ok (.invokevirtual 209, 3) := by decide +kernel
theorem d_X11_readOr_20 : decode m_X11_readOr.2.1 20 = .ok (.ifCond .eq 31, 3) := by decide +kernel
theorem d_X11_readOr_23 : decode m_X11_readOr.2.1 23 = .ok (.aload_n 0, 1) := by decide +kernel
theorem d_X11_readOr_24 : decode m_X11_readOr.2.1 24 = .ok (.invokevirtual 184, 3) := by decide +kernel
theorem d_X11_readOr_27 : decode m_X11_readOr.2.1 27 = .ok (.aload_n 0, 1) := by decide +kernel
theorem d_X11_readOr_28 : decode m_X11_readOr.2.1 28 = .ok (.invokevirtual 393, 3) := by decide +kernel
theorem d_X11_readOr_31 : decode m_X11_readOr.2.1 31 = .ok (.ifCond .ne 5, 3) := by decide +kernel
theorem d_X11_readOr_34 : decode m_X11_readOr.2.1 34 = .ok (.iconst 0, 1) := by decide +kernel
theorem d_X11_readOr_35 : decode m_X11_readOr.2.1 35 = .ok (.ireturn, 1) := by decide +kernel
theorem d_X11_readOr_36 : decode m_X11_readOr.2.1 36 = .ok (.aload_n 0, 1) := by decide +kernel
theorem d_X11_readOr_37 : decode m_X11_readOr.2.1 37 = .ok (.iconst 3, 1) := by decide +kernel
theorem d_X11_readOr_38 : decode m_X11_readOr.2.1 38 = .ok (.iload_n 1, 1) := by decide +kernel
theorem d_X11_readOr_39 : decode m_X11_readOr.2.1 39 = .ok (.aload_n 0, 1) := by decide +kernel
theorem d_X11_readOr_40 : decode m_X11_readOr.2.1 40 = .ok (.getfield 396, 3) := by decide +kernel
theorem d_X11_readOr_43 : decode m_X11_readOr.2.1 43 = .ok (.iconst 0, 1) := by decide +kernel
theorem d_X11_readOr_44 : decode m_X11_readOr.2.1 44 = .ok (.invokevirtual 399, 3) := by decide +kernel
theorem d_X11_readOr_47 : decode m_X11_readOr.2.1 47 = .ok (.istore_n 1, 1) := by decide +kernel
theorem d_X11_readOr_48 : decode m_X11_readOr.2.1 48 = .ok (.goto (-34), 3) := by decide +kernel
theorem d_X11_readOr_51 : decode m_X11_readOr.2.1 51 = .ok (.aload_n 0, 1) := by decide +kernel
theorem d_X11_readOr_52 : decode m_X11_readOr.2.1 52 = .ok (.iload_n 1, 1) := by decide +kernel
theorem d_X11_readOr_53 : decode m_X11_readOr.2.1 53 = .ok (.putfield 396, 3) := by decide +kernel
theorem d_X11_readOr_56 : decode m_X11_readOr.2.1 56 = .ok (.iconst 1, 1) := by decide +kernel
theorem d_X11_readOr_57 : decode m_X11_readOr.2.1 57 = .ok (.ireturn, 1) := by decide +kernel
set_option maxRecDepth 20000 in
theorem e_X11_readOr {E : jm_E} {d : Nat} {μ : jm_M} {Q : Option jm_V → jm_M → Prop}  (h : (∀ v ∈ ([jm_R 133] : List jm_V), jm_ok v) →
  jc E m_X11_readAnd d [jm_R 133] μ (fun (o : Option jm_V) (m1 : jm_M) => ∀ r2 : Int, o = some (jm_I r2) → (r2 = 0 ∨ r2 = 1) →
  ((r2 ≠ 0 →
    jg E m_X11_readOr d 14 [some (jm_R 133), some (jm_I (m1 133 57))] [] m1 Q) ∧
   (¬ (r2 ≠ 0) →
    Q (some (jm_I 0)) m1)))) : jc E m_X11_readOr (d + 1) [jm_R 133] μ Q := by
  refine jm_Cl.of2 (by decide +kernel) (L0 := [some (jm_R 133), none]) rfl (Nat.le_of_ble_eq_true rfl) (fun hok => ?_)
  have h := h hok
  refine jm_aloadn d_X11_readOr_0 rfl ?_
  refine jm_invV (n1 := jm_N) (mc := 0) (ms := 0) (av := []) w_X11_readAnd l_X11_393 d_X11_readOr_1 rfl is_133 ⟨_, _, rfl⟩ ⟨Nat.le_refl _, Nat.le_refl _⟩ (Nat.le_of_ble_eq_true rfl) rfl ?_
  refine jm_Cl.mono h (fun o m1 h hr _ => ?_)
  obtain ⟨r2, rfl, z3⟩ := jm_rokZ hr
  have h := h _ rfl z3
  refine jm_if_ne (tgt := 9) d_X11_readOr_4 (by decide) (fun c4 => ?_) (fun c4 => ?_)
  · have h := h.1 c4
    refine jm_aloadn d_X11_readOr_9 rfl ?_
    refine jm_getI (k := 57) (ki := 57) cf_X11 (Nat.le_of_ble_eq_true rfl) f_X11_396 d_X11_readOr_10 rfl rfl is_133 rfl ?_
    refine jm_istoren (L' := [some (jm_R _), some (jm_I _)]) d_X11_readOr_13 (Nat.le_of_ble_eq_true rfl) rfl ?_
    exact h
  · have h := h.2 c4
    refine jm_iconst (v := 0) d_X11_readOr_7 rfl (jm_okI (by decide) (by decide)) ?_
    exact jm_ret (o := some (jm_I _)) d_X11_readOr_8 rfl ⟨Nat.le_refl _, Nat.le_refl _⟩ (jm_r_Z (by decide)) h rfl
set_option maxRecDepth 20000 in
theorem r_X11_readOr_14 {E : jm_E} {d : Nat} {μ : jm_M} {Q : Option jm_V → jm_M → Prop} {v1 : Int} (h :
  jc E m_X11_isWord d [jm_R 133, jm_I 15] μ (fun (o : Option jm_V) (m1 : jm_M) => ∀ r2 : Int, o = some (jm_I r2) → (r2 = 0 ∨ r2 = 1) →
  ((r2 = 0 →
    Q (some (jm_I 1)) (jm_up m1 133 57 v1)) ∧
   (¬ (r2 = 0) →
    jc E m_X11_go d [jm_R 133] m1 (fun (o : Option jm_V) (m5 : jm_M) => o = none →
    jc E m_X11_readAnd d [jm_R 133] m5 (fun (o : Option jm_V) (m6 : jm_M) => ∀ r7 : Int, o = some (jm_I r7) → (r7 = 0 ∨ r7 = 1) →
    ((r7 ≠ 0 →
      jc E m_X11_lays d [jm_R 133, jm_I 3, jm_I v1, jm_I (m6 133 57), jm_I 0] m6 (fun (o : Option jm_V) (m10 : jm_M) => ∀ r11 : Int, o = some (jm_I r11) →
      jg E m_X11_readOr d 14 [some (jm_R 133), some (jm_I r11)] [] m10 Q)) ∧
     (¬ (r7 ≠ 0) →
      Q (some (jm_I 0)) m6)))))))) : jg E m_X11_readOr d 14 [some (jm_R 133), some (jm_I v1)] [] μ Q := by
  refine jm_aloadn d_X11_readOr_14 rfl ?_
  refine jm_bipush (v := 15) d_X11_readOr_15 rfl (jm_okI (by decide) (by decide)) ?_
  refine jm_invV (n1 := jm_N) (mc := 0) (ms := 0) (av := [jm_I _]) w_X11_isWord l_X11_209 d_X11_readOr_17 rfl is_133 ⟨_, _, rfl⟩ ⟨Nat.le_refl _, Nat.le_refl _⟩ (Nat.le_of_ble_eq_true rfl) rfl ?_
  refine jm_Cl.mono h (fun o m1 h hr _ => ?_)
  obtain ⟨r2, rfl, z3⟩ := jm_rokZ hr
  have h := h _ rfl z3
  refine jm_if_eq (tgt := 51) d_X11_readOr_20 (by decide) (fun c4 => ?_) (fun c4 => ?_)
  · have h := h.1 c4
    refine jm_aloadn d_X11_readOr_51 rfl ?_
    refine jm_iloadn d_X11_readOr_52 rfl ?_
    refine jm_putI (k := 57) (ki := 57) cf_X11 (Nat.le_of_ble_eq_true rfl) f_X11_396 d_X11_readOr_53 (fun z => absurd z (by decide)) rfl rfl rfl (fun _ => rfl) is_133 ?_
    refine jm_iconst (v := 1) d_X11_readOr_56 rfl (jm_okI (by decide) (by decide)) ?_
    exact jm_ret (o := some (jm_I _)) d_X11_readOr_57 rfl ⟨Nat.le_refl _, Nat.le_refl _⟩ (jm_r_Z (by decide)) h rfl
  · have h := h.2 c4
    refine jm_aloadn d_X11_readOr_23 rfl ?_
    refine jm_invV (n1 := jm_N) (mc := 0) (ms := 0) (av := []) w_X11_go l_X11_184 d_X11_readOr_24 rfl is_133 ⟨_, _, rfl⟩ ⟨Nat.le_refl _, Nat.le_refl _⟩ (Nat.le_of_ble_eq_true rfl) rfl ?_
    refine jm_Cl.mono h (fun o m5 h hr _ => ?_)
    obtain rfl := jm_rokV hr
    have h := h rfl
    refine jm_aloadn d_X11_readOr_27 rfl ?_
    refine jm_invV (n1 := jm_N) (mc := 0) (ms := 0) (av := []) w_X11_readAnd l_X11_393 d_X11_readOr_28 rfl is_133 ⟨_, _, rfl⟩ ⟨Nat.le_refl _, Nat.le_refl _⟩ (Nat.le_of_ble_eq_true rfl) rfl ?_
    refine jm_Cl.mono h (fun o m6 h hr _ => ?_)
    obtain ⟨r7, rfl, z8⟩ := jm_rokZ hr
    have h := h _ rfl z8
    refine jm_if_ne (tgt := 36) d_X11_readOr_31 (by decide) (fun c9 => ?_) (fun c9 => ?_)
    · have h := h.1 c9
      refine jm_aloadn d_X11_readOr_36 rfl ?_
      refine jm_iconst (v := 3) d_X11_readOr_37 rfl (jm_okI (by decide) (by decide)) ?_
      refine jm_iloadn d_X11_readOr_38 rfl ?_
      refine jm_aloadn d_X11_readOr_39 rfl ?_
      refine jm_getI (k := 57) (ki := 57) cf_X11 (Nat.le_of_ble_eq_true rfl) f_X11_396 d_X11_readOr_40 rfl rfl is_133 rfl ?_
      refine jm_iconst (v := 0) d_X11_readOr_43 rfl (jm_okI (by decide) (by decide)) ?_
      refine jm_invV (n1 := jm_N) (mc := 0) (ms := 0) (av := [jm_I _, jm_I _, jm_I _, jm_I _]) w_X11_lays l_X11_399 d_X11_readOr_44 rfl is_133 ⟨_, _, rfl⟩ ⟨Nat.le_refl _, Nat.le_refl _⟩ (Nat.le_of_ble_eq_true rfl) rfl ?_
      refine jm_Cl.mono h (fun o m10 h hr _ => ?_)
      obtain ⟨r11, rfl⟩ := jm_rokI hr
      have h := h _ rfl
      refine jm_istoren (L' := [some (jm_R _), some (jm_I _)]) d_X11_readOr_47 (Nat.le_of_ble_eq_true rfl) rfl ?_
      refine jm_goto (tgt := 14) d_X11_readOr_48 (by decide) ?_
      exact h
    · have h := h.2 c9
      refine jm_iconst (v := 0) d_X11_readOr_34 rfl (jm_okI (by decide) (by decide)) ?_
      exact jm_ret (o := some (jm_I _)) d_X11_readOr_35 rfl ⟨Nat.le_refl _, Nat.le_refl _⟩ (jm_r_Z (by decide)) h rfl
/-! ('CombTableModel', 'readAnd', '()Z') -/
theorem d_X11_readAnd_0 : decode m_X11_readAnd.2.1 0 = .ok (.aload_n 0, 1) := by decide +kernel
theorem d_X11_readAnd_1 : decode m_X11_readAnd.2.1 1 = .ok (.invokevirtual 402, 3) := by decide +kernel
theorem d_X11_readAnd_4 : decode m_X11_readAnd.2.1 4 = .ok (.ifCond .ne 5, 3) := by decide +kernel
theorem d_X11_readAnd_7 : decode m_X11_readAnd.2.1 7 = .ok (.iconst 0, 1) := by decide +kernel
theorem d_X11_readAnd_8 : decode m_X11_readAnd.2.1 8 = .ok (.ireturn, 1) := by decide +kernel
theorem d_X11_readAnd_9 : decode m_X11_readAnd.2.1 9 = .ok (.aload_n 0, 1) := by decide +kernel
theorem d_X11_readAnd_10 : decode m_X11_readAnd.2.1 10 = .ok (.getfield 396, 3) := by decide +kernel
theorem d_X11_readAnd_13 : decode m_X11_readAnd.2.1 13 = .ok (.istore_n 1, 1) := by decide +kernel
theorem d_X11_readAnd_14 : decode m_X11_readAnd.2.1 14 = .ok (.aload_n 0, 1) := by decide +kernel
theorem d_X11_readAnd_15 : decode m_X11_readAnd.2.1 15 = .ok (.bipush 16, 2) := by decide +kernel
theorem d_X11_readAnd_17 : decode m_X11_readAnd.2.1 17 = .ok (.invokevirtual 209, 3) := by decide +kernel
theorem d_X11_readAnd_20 : decode m_X11_readAnd.2.1 20 = .ok (.ifCond .eq 31, 3) := by decide +kernel
theorem d_X11_readAnd_23 : decode m_X11_readAnd.2.1 23 = .ok (.aload_n 0, 1) := by decide +kernel
theorem d_X11_readAnd_24 : decode m_X11_readAnd.2.1 24 = .ok (.invokevirtual 184, 3) := by decide +kernel
theorem d_X11_readAnd_27 : decode m_X11_readAnd.2.1 27 = .ok (.aload_n 0, 1) := by decide +kernel
theorem d_X11_readAnd_28 : decode m_X11_readAnd.2.1 28 = .ok (.invokevirtual 402, 3) := by decide +kernel
theorem d_X11_readAnd_31 : decode m_X11_readAnd.2.1 31 = .ok (.ifCond .ne 5, 3) := by decide +kernel
theorem d_X11_readAnd_34 : decode m_X11_readAnd.2.1 34 = .ok (.iconst 0, 1) := by decide +kernel
theorem d_X11_readAnd_35 : decode m_X11_readAnd.2.1 35 = .ok (.ireturn, 1) := by decide +kernel
theorem d_X11_readAnd_36 : decode m_X11_readAnd.2.1 36 = .ok (.aload_n 0, 1) := by decide +kernel
theorem d_X11_readAnd_37 : decode m_X11_readAnd.2.1 37 = .ok (.iconst 2, 1) := by decide +kernel
theorem d_X11_readAnd_38 : decode m_X11_readAnd.2.1 38 = .ok (.iload_n 1, 1) := by decide +kernel
theorem d_X11_readAnd_39 : decode m_X11_readAnd.2.1 39 = .ok (.aload_n 0, 1) := by decide +kernel
theorem d_X11_readAnd_40 : decode m_X11_readAnd.2.1 40 = .ok (.getfield 396, 3) := by decide +kernel
theorem d_X11_readAnd_43 : decode m_X11_readAnd.2.1 43 = .ok (.iconst 0, 1) := by decide +kernel
theorem d_X11_readAnd_44 : decode m_X11_readAnd.2.1 44 = .ok (.invokevirtual 399, 3) := by decide +kernel
theorem d_X11_readAnd_47 : decode m_X11_readAnd.2.1 47 = .ok (.istore_n 1, 1) := by decide +kernel
theorem d_X11_readAnd_48 : decode m_X11_readAnd.2.1 48 = .ok (.goto (-34), 3) := by decide +kernel
theorem d_X11_readAnd_51 : decode m_X11_readAnd.2.1 51 = .ok (.aload_n 0, 1) := by decide +kernel
theorem d_X11_readAnd_52 : decode m_X11_readAnd.2.1 52 = .ok (.iload_n 1, 1) := by decide +kernel
theorem d_X11_readAnd_53 : decode m_X11_readAnd.2.1 53 = .ok (.putfield 396, 3) := by decide +kernel
theorem d_X11_readAnd_56 : decode m_X11_readAnd.2.1 56 = .ok (.iconst 1, 1) := by decide +kernel
theorem d_X11_readAnd_57 : decode m_X11_readAnd.2.1 57 = .ok (.ireturn, 1) := by decide +kernel
set_option maxRecDepth 20000 in
theorem e_X11_readAnd {E : jm_E} {d : Nat} {μ : jm_M} {Q : Option jm_V → jm_M → Prop}  (h : (∀ v ∈ ([jm_R 133] : List jm_V), jm_ok v) →
  jc E m_X11_readOne d [jm_R 133] μ (fun (o : Option jm_V) (m1 : jm_M) => ∀ r2 : Int, o = some (jm_I r2) → (r2 = 0 ∨ r2 = 1) →
  ((r2 ≠ 0 →
    jg E m_X11_readAnd d 14 [some (jm_R 133), some (jm_I (m1 133 57))] [] m1 Q) ∧
   (¬ (r2 ≠ 0) →
    Q (some (jm_I 0)) m1)))) : jc E m_X11_readAnd (d + 1) [jm_R 133] μ Q := by
  refine jm_Cl.of2 (by decide +kernel) (L0 := [some (jm_R 133), none]) rfl (Nat.le_of_ble_eq_true rfl) (fun hok => ?_)
  have h := h hok
  refine jm_aloadn d_X11_readAnd_0 rfl ?_
  refine jm_invV (n1 := jm_N) (mc := 0) (ms := 0) (av := []) w_X11_readOne l_X11_402 d_X11_readAnd_1 rfl is_133 ⟨_, _, rfl⟩ ⟨Nat.le_refl _, Nat.le_refl _⟩ (Nat.le_of_ble_eq_true rfl) rfl ?_
  refine jm_Cl.mono h (fun o m1 h hr _ => ?_)
  obtain ⟨r2, rfl, z3⟩ := jm_rokZ hr
  have h := h _ rfl z3
  refine jm_if_ne (tgt := 9) d_X11_readAnd_4 (by decide) (fun c4 => ?_) (fun c4 => ?_)
  · have h := h.1 c4
    refine jm_aloadn d_X11_readAnd_9 rfl ?_
    refine jm_getI (k := 57) (ki := 57) cf_X11 (Nat.le_of_ble_eq_true rfl) f_X11_396 d_X11_readAnd_10 rfl rfl is_133 rfl ?_
    refine jm_istoren (L' := [some (jm_R _), some (jm_I _)]) d_X11_readAnd_13 (Nat.le_of_ble_eq_true rfl) rfl ?_
    exact h
  · have h := h.2 c4
    refine jm_iconst (v := 0) d_X11_readAnd_7 rfl (jm_okI (by decide) (by decide)) ?_
    exact jm_ret (o := some (jm_I _)) d_X11_readAnd_8 rfl ⟨Nat.le_refl _, Nat.le_refl _⟩ (jm_r_Z (by decide)) h rfl
set_option maxRecDepth 20000 in
theorem r_X11_readAnd_14 {E : jm_E} {d : Nat} {μ : jm_M} {Q : Option jm_V → jm_M → Prop} {v1 : Int} (h :
  jc E m_X11_isWord d [jm_R 133, jm_I 16] μ (fun (o : Option jm_V) (m1 : jm_M) => ∀ r2 : Int, o = some (jm_I r2) → (r2 = 0 ∨ r2 = 1) →
  ((r2 = 0 →
    Q (some (jm_I 1)) (jm_up m1 133 57 v1)) ∧
   (¬ (r2 = 0) →
    jc E m_X11_go d [jm_R 133] m1 (fun (o : Option jm_V) (m5 : jm_M) => o = none →
    jc E m_X11_readOne d [jm_R 133] m5 (fun (o : Option jm_V) (m6 : jm_M) => ∀ r7 : Int, o = some (jm_I r7) → (r7 = 0 ∨ r7 = 1) →
    ((r7 ≠ 0 →
      jc E m_X11_lays d [jm_R 133, jm_I 2, jm_I v1, jm_I (m6 133 57), jm_I 0] m6 (fun (o : Option jm_V) (m10 : jm_M) => ∀ r11 : Int, o = some (jm_I r11) →
      jg E m_X11_readAnd d 14 [some (jm_R 133), some (jm_I r11)] [] m10 Q)) ∧
     (¬ (r7 ≠ 0) →
      Q (some (jm_I 0)) m6)))))))) : jg E m_X11_readAnd d 14 [some (jm_R 133), some (jm_I v1)] [] μ Q := by
  refine jm_aloadn d_X11_readAnd_14 rfl ?_
  refine jm_bipush (v := 16) d_X11_readAnd_15 rfl (jm_okI (by decide) (by decide)) ?_
  refine jm_invV (n1 := jm_N) (mc := 0) (ms := 0) (av := [jm_I _]) w_X11_isWord l_X11_209 d_X11_readAnd_17 rfl is_133 ⟨_, _, rfl⟩ ⟨Nat.le_refl _, Nat.le_refl _⟩ (Nat.le_of_ble_eq_true rfl) rfl ?_
  refine jm_Cl.mono h (fun o m1 h hr _ => ?_)
  obtain ⟨r2, rfl, z3⟩ := jm_rokZ hr
  have h := h _ rfl z3
  refine jm_if_eq (tgt := 51) d_X11_readAnd_20 (by decide) (fun c4 => ?_) (fun c4 => ?_)
  · have h := h.1 c4
    refine jm_aloadn d_X11_readAnd_51 rfl ?_
    refine jm_iloadn d_X11_readAnd_52 rfl ?_
    refine jm_putI (k := 57) (ki := 57) cf_X11 (Nat.le_of_ble_eq_true rfl) f_X11_396 d_X11_readAnd_53 (fun z => absurd z (by decide)) rfl rfl rfl (fun _ => rfl) is_133 ?_
    refine jm_iconst (v := 1) d_X11_readAnd_56 rfl (jm_okI (by decide) (by decide)) ?_
    exact jm_ret (o := some (jm_I _)) d_X11_readAnd_57 rfl ⟨Nat.le_refl _, Nat.le_refl _⟩ (jm_r_Z (by decide)) h rfl
  · have h := h.2 c4
    refine jm_aloadn d_X11_readAnd_23 rfl ?_
    refine jm_invV (n1 := jm_N) (mc := 0) (ms := 0) (av := []) w_X11_go l_X11_184 d_X11_readAnd_24 rfl is_133 ⟨_, _, rfl⟩ ⟨Nat.le_refl _, Nat.le_refl _⟩ (Nat.le_of_ble_eq_true rfl) rfl ?_
    refine jm_Cl.mono h (fun o m5 h hr _ => ?_)
    obtain rfl := jm_rokV hr
    have h := h rfl
    refine jm_aloadn d_X11_readAnd_27 rfl ?_
    refine jm_invV (n1 := jm_N) (mc := 0) (ms := 0) (av := []) w_X11_readOne l_X11_402 d_X11_readAnd_28 rfl is_133 ⟨_, _, rfl⟩ ⟨Nat.le_refl _, Nat.le_refl _⟩ (Nat.le_of_ble_eq_true rfl) rfl ?_
    refine jm_Cl.mono h (fun o m6 h hr _ => ?_)
    obtain ⟨r7, rfl, z8⟩ := jm_rokZ hr
    have h := h _ rfl z8
    refine jm_if_ne (tgt := 36) d_X11_readAnd_31 (by decide) (fun c9 => ?_) (fun c9 => ?_)
    · have h := h.1 c9
      refine jm_aloadn d_X11_readAnd_36 rfl ?_
      refine jm_iconst (v := 2) d_X11_readAnd_37 rfl (jm_okI (by decide) (by decide)) ?_
      refine jm_iloadn d_X11_readAnd_38 rfl ?_
      refine jm_aloadn d_X11_readAnd_39 rfl ?_
      refine jm_getI (k := 57) (ki := 57) cf_X11 (Nat.le_of_ble_eq_true rfl) f_X11_396 d_X11_readAnd_40 rfl rfl is_133 rfl ?_
      refine jm_iconst (v := 0) d_X11_readAnd_43 rfl (jm_okI (by decide) (by decide)) ?_
      refine jm_invV (n1 := jm_N) (mc := 0) (ms := 0) (av := [jm_I _, jm_I _, jm_I _, jm_I _]) w_X11_lays l_X11_399 d_X11_readAnd_44 rfl is_133 ⟨_, _, rfl⟩ ⟨Nat.le_refl _, Nat.le_refl _⟩ (Nat.le_of_ble_eq_true rfl) rfl ?_
      refine jm_Cl.mono h (fun o m10 h hr _ => ?_)
      obtain ⟨r11, rfl⟩ := jm_rokI hr
      have h := h _ rfl
      refine jm_istoren (L' := [some (jm_R _), some (jm_I _)]) d_X11_readAnd_47 (Nat.le_of_ble_eq_true rfl) rfl ?_
      refine jm_goto (tgt := 14) d_X11_readAnd_48 (by decide) ?_
      exact h
    · have h := h.2 c9
      refine jm_iconst (v := 0) d_X11_readAnd_34 rfl (jm_okI (by decide) (by decide)) ?_
      exact jm_ret (o := some (jm_I _)) d_X11_readAnd_35 rfl ⟨Nat.le_refl _, Nat.le_refl _⟩ (jm_r_Z (by decide)) h rfl
/-! ('CombTableModel', 'readOne', '()Z') -/
theorem d_X11_readOne_0 : decode m_X11_readOne.2.1 0 = .ok (.aload_n 0, 1) := by decide +kernel
theorem d_X11_readOne_1 : decode m_X11_readOne.2.1 1 = .ok (.bipush 40, 2) := by decide +kernel
theorem d_X11_readOne_3 : decode m_X11_readOne.2.1 3 = .ok (.invokevirtual 187, 3) := by decide +kernel
theorem d_X11_readOne_6 : decode m_X11_readOne.2.1 6 = .ok (.istore_n 1, 1) := by decide +kernel
theorem d_X11_readOne_7 : decode m_X11_readOne.2.1 7 = .ok (.bipush 17, 2) := by decide +kernel
theorem d_X11_readOne_9 : decode m_X11_readOne.2.1 9 = .ok (.istore_n 2, 1) := by decide +kernel
theorem d_X11_readOne_10 : decode m_X11_readOne.2.1 10 = .ok (.iload_n 2, 1) := by decide +kernel
theorem d_X11_readOne_11 : decode m_X11_readOne.2.1 11 = .ok (.bipush 24, 2) := by decide +kernel
theorem d_X11_readOne_13 : decode m_X11_readOne.2.1 13 = .ok (.if_icmp .gt 17, 3) := by decide +kernel
theorem d_X11_readOne_16 : decode m_X11_readOne.2.1 16 = .ok (.aload_n 0, 1) := by decide +kernel
theorem d_X11_readOne_17 : decode m_X11_readOne.2.1 17 = .ok (.iload_n 2, 1) := by decide +kernel
theorem d_X11_readOne_18 : decode m_X11_readOne.2.1 18 = .ok (.invokevirtual 209, 3) := by decide +kernel
theorem d_X11_readOne_21 : decode m_X11_readOne.2.1 21 = .ok (.ifCond .ne 9, 3) := by decide +kernel
theorem d_X11_readOne_24 : decode m_X11_readOne.2.1 24 = .ok (.iinc 2 1, 3) := by decide +kernel
theorem d_X11_readOne_27 : decode m_X11_readOne.2.1 27 = .ok (.goto (-17), 3) := by decide +kernel
theorem d_X11_readOne_30 : decode m_X11_readOne.2.1 30 = .ok (.iload_n 1, 1) := by decide +kernel
theorem d_X11_readOne_31 : decode m_X11_readOne.2.1 31 = .ok (.ifCond .ne 15, 3) := by decide +kernel
theorem d_X11_readOne_34 : decode m_X11_readOne.2.1 34 = .ok (.iload_n 2, 1) := by decide +kernel
theorem d_X11_readOne_35 : decode m_X11_readOne.2.1 35 = .ok (.bipush 24, 2) := by decide +kernel
theorem d_X11_readOne_37 : decode m_X11_readOne.2.1 37 = .ok (.if_icmp .le 9, 3) := by decide +kernel
theorem d_X11_readOne_40 : decode m_X11_readOne.2.1 40 = .ok (.aload_n 0, 1) := by decide +kernel
theorem d_X11_readOne_41 : decode m_X11_readOne.2.1 41 = .ok (.iconst 1, 1) := by decide +kernel
theorem d_X11_readOne_42 : decode m_X11_readOne.2.1 42 = .ok (.invokevirtual 174, 3) := by decide +kernel
theorem d_X11_readOne_45 : decode m_X11_readOne.2.1 45 = .ok (.ireturn, 1) := by decide +kernel
theorem d_X11_readOne_46 : decode m_X11_readOne.2.1 46 = .ok (.aload_n 0, 1) := by decide +kernel
theorem d_X11_readOne_47 : decode m_X11_readOne.2.1 47 = .ok (.getfield 405, 3) := by decide +kernel
theorem d_X11_readOne_50 : decode m_X11_readOne.2.1 50 = .ok (.bipush 20, 2) := by decide +kernel
theorem d_X11_readOne_52 : decode m_X11_readOne.2.1 52 = .ok (.if_icmp .eq 12, 3) := by decide +kernel
theorem d_X11_readOne_55 : decode m_X11_readOne.2.1 55 = .ok (.aload_n 0, 1) := by decide +kernel
theorem d_X11_readOne_56 : decode m_X11_readOne.2.1 56 = .ok (.getfield 408, 3) := by decide +kernel
theorem d_X11_readOne_59 : decode m_X11_readOne.2.1 59 = .ok (.bipush 8, 2) := by decide +kernel
theorem d_X11_readOne_61 : decode m_X11_readOne.2.1 61 = .ok (.if_icmp .ne 9, 3) := by decide +kernel
theorem d_X11_readOne_64 : decode m_X11_readOne.2.1 64 = .ok (.aload_n 0, 1) := by decide +kernel
theorem d_X11_readOne_65 : decode m_X11_readOne.2.1 65 = .ok (.iconst 4, 1) := by decide +kernel
theorem d_X11_readOne_66 : decode m_X11_readOne.2.1 66 = .ok (.invokevirtual 174, 3) := by decide +kernel
theorem d_X11_readOne_69 : decode m_X11_readOne.2.1 69 = .ok (.ireturn, 1) := by decide +kernel
theorem d_X11_readOne_70 : decode m_X11_readOne.2.1 70 = .ok (.aload_n 0, 1) := by decide +kernel
theorem d_X11_readOne_71 : decode m_X11_readOne.2.1 71 = .ok (.dup, 1) := by decide +kernel
theorem d_X11_readOne_72 : decode m_X11_readOne.2.1 72 = .ok (.getfield 405, 3) := by decide +kernel
theorem d_X11_readOne_75 : decode m_X11_readOne.2.1 75 = .ok (.iconst 1, 1) := by decide +kernel
theorem d_X11_readOne_76 : decode m_X11_readOne.2.1 76 = .ok (.iadd, 1) := by decide +kernel
theorem d_X11_readOne_77 : decode m_X11_readOne.2.1 77 = .ok (.putfield 405, 3) := by decide +kernel
theorem d_X11_readOne_80 : decode m_X11_readOne.2.1 80 = .ok (.aload_n 0, 1) := by decide +kernel
theorem d_X11_readOne_81 : decode m_X11_readOne.2.1 81 = .ok (.dup, 1) := by decide +kernel
theorem d_X11_readOne_82 : decode m_X11_readOne.2.1 82 = .ok (.getfield 408, 3) := by decide +kernel
theorem d_X11_readOne_85 : decode m_X11_readOne.2.1 85 = .ok (.iconst 1, 1) := by decide +kernel
theorem d_X11_readOne_86 : decode m_X11_readOne.2.1 86 = .ok (.iadd, 1) := by decide +kernel
theorem d_X11_readOne_87 : decode m_X11_readOne.2.1 87 = .ok (.putfield 408, 3) := by decide +kernel
theorem d_X11_readOne_90 : decode m_X11_readOne.2.1 90 = .ok (.aload_n 0, 1) := by decide +kernel
theorem d_X11_readOne_91 : decode m_X11_readOne.2.1 91 = .ok (.invokevirtual 184, 3) := by decide +kernel
theorem d_X11_readOne_94 : decode m_X11_readOne.2.1 94 = .ok (.iload_n 1, 1) := by decide +kernel
theorem d_X11_readOne_95 : decode m_X11_readOne.2.1 95 = .ok (.ifCond .eq 10, 3) := by decide +kernel
theorem d_X11_readOne_98 : decode m_X11_readOne.2.1 98 = .ok (.aload_n 0, 1) := by decide +kernel
theorem d_X11_readOne_99 : decode m_X11_readOne.2.1 99 = .ok (.invokevirtual 411, 3) := by decide +kernel
theorem d_X11_readOne_102 : decode m_X11_readOne.2.1 102 = .ok (.goto 35, 3) := by decide +kernel
theorem d_X11_readOne_105 : decode m_X11_readOne.2.1 105 = .ok (.iload_n 2, 1) := by decide +kernel
theorem d_X11_readOne_106 : decode m_X11_readOne.2.1 106 = .ok (.bipush 17, 2) := by decide +kernel
theorem d_X11_readOne_108 : decode m_X11_readOne.2.1 108 = .ok (.if_icmp .ne 10, 3) := by decide +kernel
theorem d_X11_readOne_111 : decode m_X11_readOne.2.1 111 = .ok (.aload_n 0, 1) := by decide +kernel
theorem d_X11_readOne_112 : decode m_X11_readOne.2.1 112 = .ok (.invokevirtual 414, 3) := by decide +kernel
theorem d_X11_readOne_115 : decode m_X11_readOne.2.1 115 = .ok (.goto 22, 3) := by decide +kernel
theorem d_X11_readOne_118 : decode m_X11_readOne.2.1 118 = .ok (.iload_n 2, 1) := by decide +kernel
theorem d_X11_readOne_119 : decode m_X11_readOne.2.1 119 = .ok (.bipush 21, 2) := by decide +kernel
theorem d_X11_readOne_121 : decode m_X11_readOne.2.1 121 = .ok (.if_icmp .ge 11, 3) := by decide +kernel
theorem d_X11_readOne_124 : decode m_X11_readOne.2.1 124 = .ok (.aload_n 0, 1) := by decide +kernel
theorem d_X11_readOne_125 : decode m_X11_readOne.2.1 125 = .ok (.iload_n 2, 1) := by decide +kernel
theorem d_X11_readOne_126 : decode m_X11_readOne.2.1 126 = .ok (.invokevirtual 417, 3) := by decide +kernel
theorem d_X11_readOne_129 : decode m_X11_readOne.2.1 129 = .ok (.goto 8, 3) := by decide +kernel
theorem d_X11_readOne_132 : decode m_X11_readOne.2.1 132 = .ok (.aload_n 0, 1) := by decide +kernel
theorem d_X11_readOne_133 : decode m_X11_readOne.2.1 133 = .ok (.iload_n 2, 1) := by decide +kernel
theorem d_X11_readOne_134 : decode m_X11_readOne.2.1 134 = .ok (.invokevirtual 420, 3) := by decide +kernel
theorem d_X11_readOne_137 : decode m_X11_readOne.2.1 137 = .ok (.istore_n 3, 1) := by decide +kernel
theorem d_X11_readOne_138 : decode m_X11_readOne.2.1 138 = .ok (.aload_n 0, 1) := by decide +kernel
theorem d_X11_readOne_139 : decode m_X11_readOne.2.1 139 = .ok (.dup, 1) := by decide +kernel
theorem d_X11_readOne_140 : decode m_X11_readOne.2.1 140 = .ok (.getfield 408, 3) := by decide +kernel
theorem d_X11_readOne_143 : decode m_X11_readOne.2.1 143 = .ok (.iconst 1, 1) := by decide +kernel
theorem d_X11_readOne_144 : decode m_X11_readOne.2.1 144 = .ok (.isub, 1) := by decide +kernel
theorem d_X11_readOne_145 : decode m_X11_readOne.2.1 145 = .ok (.putfield 408, 3) := by decide +kernel
theorem d_X11_readOne_148 : decode m_X11_readOne.2.1 148 = .ok (.iload_n 3, 1) := by decide +kernel
theorem d_X11_readOne_149 : decode m_X11_readOne.2.1 149 = .ok (.ireturn, 1) := by decide +kernel
set_option maxRecDepth 20000 in
theorem e_X11_readOne {E : jm_E} {d : Nat} {μ : jm_M} {Q : Option jm_V → jm_M → Prop}  (h : (∀ v ∈ ([jm_R 133] : List jm_V), jm_ok v) →
  jc E m_X11_isSign d [jm_R 133, jm_I 40] μ (fun (o : Option jm_V) (m1 : jm_M) => ∀ r2 : Int, o = some (jm_I r2) → (r2 = 0 ∨ r2 = 1) →
  jg E m_X11_readOne d 10 [some (jm_R 133), some (jm_I r2), some (jm_I 17), none] [] m1 Q)) : jc E m_X11_readOne (d + 1) [jm_R 133] μ Q := by
  refine jm_Cl.of2 (by decide +kernel) (L0 := [some (jm_R 133), none, none, none]) rfl (Nat.le_of_ble_eq_true rfl) (fun hok => ?_)
  have h := h hok
  refine jm_aloadn d_X11_readOne_0 rfl ?_
  refine jm_bipush (v := 40) d_X11_readOne_1 rfl (jm_okI (by decide) (by decide)) ?_
  refine jm_invV (n1 := jm_N) (mc := 0) (ms := 0) (av := [jm_I _]) w_X11_isSign l_X11_187 d_X11_readOne_3 rfl is_133 ⟨_, _, rfl⟩ ⟨Nat.le_refl _, Nat.le_refl _⟩ (Nat.le_of_ble_eq_true rfl) rfl ?_
  refine jm_Cl.mono h (fun o m1 h hr _ => ?_)
  obtain ⟨r2, rfl, z3⟩ := jm_rokZ hr
  have h := h _ rfl z3
  refine jm_istoren (L' := [some (jm_R _), some (jm_I _), none, none]) d_X11_readOne_6 (Nat.le_of_ble_eq_true rfl) rfl ?_
  refine jm_bipush (v := 17) d_X11_readOne_7 rfl (jm_okI (by decide) (by decide)) ?_
  refine jm_istoren (L' := [some (jm_R _), some (jm_I _), some (jm_I _), none]) d_X11_readOne_9 (Nat.le_of_ble_eq_true rfl) rfl ?_
  exact h
set_option maxRecDepth 20000 in
theorem r_X11_readOne_10 {E : jm_E} {d : Nat} {μ : jm_M} {Q : Option jm_V → jm_M → Prop} {v1 v2 : Int} (h :
  ((24 < v2 →
    ((v1 ≠ 0 →
      jg E m_X11_readOne d 46 [some (jm_R 133), some (jm_I v1), some (jm_I v2), none] [] μ Q) ∧
     (¬ (v1 ≠ 0) →
      ((v2 ≤ 24 →
        jg E m_X11_readOne d 46 [some (jm_R 133), some (jm_I v1), some (jm_I v2), none] [] μ Q) ∧
       (¬ (v2 ≤ 24) →
        jc E m_X11_bad d [jm_R 133, jm_I 1] μ (fun (o : Option jm_V) (m4 : jm_M) => ∀ r5 : Int, o = some (jm_I r5) → (r5 = 0 ∨ r5 = 1) →
        Q (some (jm_I r5)) m4)))))) ∧
   (¬ (24 < v2) →
    jc E m_X11_isWord d [jm_R 133, jm_I v2] μ (fun (o : Option jm_V) (m7 : jm_M) => ∀ r8 : Int, o = some (jm_I r8) → (r8 = 0 ∨ r8 = 1) →
    ((r8 ≠ 0 →
      ((v1 ≠ 0 →
        jg E m_X11_readOne d 46 [some (jm_R 133), some (jm_I v1), some (jm_I v2), none] [] m7 Q) ∧
       (¬ (v1 ≠ 0) →
        ((v2 ≤ 24 →
          jg E m_X11_readOne d 46 [some (jm_R 133), some (jm_I v1), some (jm_I v2), none] [] m7 Q) ∧
         (¬ (v2 ≤ 24) →
          jc E m_X11_bad d [jm_R 133, jm_I 1] m7 (fun (o : Option jm_V) (m13 : jm_M) => ∀ r14 : Int, o = some (jm_I r14) → (r14 = 0 ∨ r14 = 1) →
          Q (some (jm_I r14)) m13)))))) ∧
     (¬ (r8 ≠ 0) →
      jg E m_X11_readOne d 10 [some (jm_R 133), some (jm_I v1), some (jm_I (jm_wr (v2 + 1))), none] [] m7 Q)))))) : jg E m_X11_readOne d 10 [some (jm_R 133), some (jm_I v1), some (jm_I v2), none] [] μ Q := by
  refine jm_iloadn d_X11_readOne_10 rfl ?_
  refine jm_bipush (v := 24) d_X11_readOne_11 rfl (jm_okI (by decide) (by decide)) ?_
  refine jm_icmp_gt (tgt := 30) d_X11_readOne_13 (by decide) (fun c1 => ?_) (fun c1 => ?_)
  · have h := h.1 c1
    refine jm_iloadn d_X11_readOne_30 rfl ?_
    refine jm_if_ne (tgt := 46) d_X11_readOne_31 (by decide) (fun c2 => ?_) (fun c2 => ?_)
    · have h := h.1 c2
      exact h
    · have h := h.2 c2
      refine jm_iloadn d_X11_readOne_34 rfl ?_
      refine jm_bipush (v := 24) d_X11_readOne_35 rfl (jm_okI (by decide) (by decide)) ?_
      refine jm_icmp_le (tgt := 46) d_X11_readOne_37 (by decide) (fun c3 => ?_) (fun c3 => ?_)
      · have h := h.1 c3
        exact h
      · have h := h.2 c3
        refine jm_aloadn d_X11_readOne_40 rfl ?_
        refine jm_iconst (v := 1) d_X11_readOne_41 rfl (jm_okI (by decide) (by decide)) ?_
        refine jm_invV (n1 := jm_N) (mc := 0) (ms := 0) (av := [jm_I _]) w_X11_bad l_X11_174 d_X11_readOne_42 rfl is_133 ⟨_, _, rfl⟩ ⟨Nat.le_refl _, Nat.le_refl _⟩ (Nat.le_of_ble_eq_true rfl) rfl ?_
        refine jm_Cl.mono h (fun o m4 h hr _ => ?_)
        obtain ⟨r5, rfl, z6⟩ := jm_rokZ hr
        have h := h _ rfl z6
        exact jm_ret (o := some (jm_I _)) d_X11_readOne_45 rfl ⟨Nat.le_refl _, Nat.le_refl _⟩ (jm_r_Z z6) h rfl
  · have h := h.2 c1
    refine jm_aloadn d_X11_readOne_16 rfl ?_
    refine jm_iloadn d_X11_readOne_17 rfl ?_
    refine jm_invV (n1 := jm_N) (mc := 0) (ms := 0) (av := [jm_I _]) w_X11_isWord l_X11_209 d_X11_readOne_18 rfl is_133 ⟨_, _, rfl⟩ ⟨Nat.le_refl _, Nat.le_refl _⟩ (Nat.le_of_ble_eq_true rfl) rfl ?_
    refine jm_Cl.mono h (fun o m7 h hr _ => ?_)
    obtain ⟨r8, rfl, z9⟩ := jm_rokZ hr
    have h := h _ rfl z9
    refine jm_if_ne (tgt := 30) d_X11_readOne_21 (by decide) (fun c10 => ?_) (fun c10 => ?_)
    · have h := h.1 c10
      refine jm_iloadn d_X11_readOne_30 rfl ?_
      refine jm_if_ne (tgt := 46) d_X11_readOne_31 (by decide) (fun c11 => ?_) (fun c11 => ?_)
      · have h := h.1 c11
        exact h
      · have h := h.2 c11
        refine jm_iloadn d_X11_readOne_34 rfl ?_
        refine jm_bipush (v := 24) d_X11_readOne_35 rfl (jm_okI (by decide) (by decide)) ?_
        refine jm_icmp_le (tgt := 46) d_X11_readOne_37 (by decide) (fun c12 => ?_) (fun c12 => ?_)
        · have h := h.1 c12
          exact h
        · have h := h.2 c12
          refine jm_aloadn d_X11_readOne_40 rfl ?_
          refine jm_iconst (v := 1) d_X11_readOne_41 rfl (jm_okI (by decide) (by decide)) ?_
          refine jm_invV (n1 := jm_N) (mc := 0) (ms := 0) (av := [jm_I _]) w_X11_bad l_X11_174 d_X11_readOne_42 rfl is_133 ⟨_, _, rfl⟩ ⟨Nat.le_refl _, Nat.le_refl _⟩ (Nat.le_of_ble_eq_true rfl) rfl ?_
          refine jm_Cl.mono h (fun o m13 h hr _ => ?_)
          obtain ⟨r14, rfl, z15⟩ := jm_rokZ hr
          have h := h _ rfl z15
          exact jm_ret (o := some (jm_I _)) d_X11_readOne_45 rfl ⟨Nat.le_refl _, Nat.le_refl _⟩ (jm_r_Z z15) h rfl
    · have h := h.2 c10
      refine jm_iinc (L' := [some (jm_R _), some (jm_I _), some (jm_I _), none]) d_X11_readOne_24 rfl rfl (Nat.le_of_ble_eq_true rfl) rfl ?_
      refine jm_goto (tgt := 10) d_X11_readOne_27 (by decide) ?_
      exact h
set_option maxRecDepth 20000 in
theorem r_X11_readOne_46 {E : jm_E} {d : Nat} {μ : jm_M} {Q : Option jm_V → jm_M → Prop} {v1 v2 : Int} (h :
  ((μ 133 55 = 20 →
    jc E m_X11_bad d [jm_R 133, jm_I 4] μ (fun (o : Option jm_V) (m2 : jm_M) => ∀ r3 : Int, o = some (jm_I r3) → (r3 = 0 ∨ r3 = 1) →
    Q (some (jm_I r3)) m2)) ∧
   (¬ (μ 133 55 = 20) →
    ((μ 133 56 ≠ 8 →
      jc E m_X11_go d [jm_R 133] (jm_up (jm_up μ 133 55 (jm_wr ((μ 133 55) + 1))) 133 56 (jm_wr ((μ 133 56) + 1))) (fun (o : Option jm_V) (m6 : jm_M) => o = none →
      ((v1 = 0 →
        ((v2 ≠ 17 →
          ((21 ≤ v2 →
            jc E m_X11_readCompare d [jm_R 133, jm_I v2] m6 (fun (o : Option jm_V) (m10 : jm_M) => ∀ r11 : Int, o = some (jm_I r11) → (r11 = 0 ∨ r11 = 1) →
            Q (some (jm_I r11)) (jm_up m10 133 56 (jm_wr ((m10 133 56) - 1))))) ∧
           (¬ (21 ≤ v2) →
            jc E m_X11_readNamed d [jm_R 133, jm_I v2] m6 (fun (o : Option jm_V) (m13 : jm_M) => ∀ r14 : Int, o = some (jm_I r14) → (r14 = 0 ∨ r14 = 1) →
            Q (some (jm_I r14)) (jm_up m13 133 56 (jm_wr ((m13 133 56) - 1))))))) ∧
         (¬ (v2 ≠ 17) →
          jc E m_X11_readNot d [jm_R 133] m6 (fun (o : Option jm_V) (m16 : jm_M) => ∀ r17 : Int, o = some (jm_I r17) → (r17 = 0 ∨ r17 = 1) →
          Q (some (jm_I r17)) (jm_up m16 133 56 (jm_wr ((m16 133 56) - 1))))))) ∧
       (¬ (v1 = 0) →
        jc E m_X11_readBracket d [jm_R 133] m6 (fun (o : Option jm_V) (m19 : jm_M) => ∀ r20 : Int, o = some (jm_I r20) → (r20 = 0 ∨ r20 = 1) →
        Q (some (jm_I r20)) (jm_up m19 133 56 (jm_wr ((m19 133 56) - 1)))))))) ∧
     (¬ (μ 133 56 ≠ 8) →
      jc E m_X11_bad d [jm_R 133, jm_I 4] μ (fun (o : Option jm_V) (m22 : jm_M) => ∀ r23 : Int, o = some (jm_I r23) → (r23 = 0 ∨ r23 = 1) →
      Q (some (jm_I r23)) m22)))))) : jg E m_X11_readOne d 46 [some (jm_R 133), some (jm_I v1), some (jm_I v2), none] [] μ Q := by
  refine jm_aloadn d_X11_readOne_46 rfl ?_
  refine jm_getI (k := 55) (ki := 55) cf_X11 (Nat.le_of_ble_eq_true rfl) f_X11_405 d_X11_readOne_47 rfl rfl is_133 rfl ?_
  refine jm_bipush (v := 20) d_X11_readOne_50 rfl (jm_okI (by decide) (by decide)) ?_
  refine jm_icmp_eq (tgt := 64) d_X11_readOne_52 (by decide) (fun c1 => ?_) (fun c1 => ?_)
  · have h := h.1 c1
    refine jm_aloadn d_X11_readOne_64 rfl ?_
    refine jm_iconst (v := 4) d_X11_readOne_65 rfl (jm_okI (by decide) (by decide)) ?_
    refine jm_invV (n1 := jm_N) (mc := 0) (ms := 0) (av := [jm_I _]) w_X11_bad l_X11_174 d_X11_readOne_66 rfl is_133 ⟨_, _, rfl⟩ ⟨Nat.le_refl _, Nat.le_refl _⟩ (Nat.le_of_ble_eq_true rfl) rfl ?_
    refine jm_Cl.mono h (fun o m2 h hr _ => ?_)
    obtain ⟨r3, rfl, z4⟩ := jm_rokZ hr
    have h := h _ rfl z4
    exact jm_ret (o := some (jm_I _)) d_X11_readOne_69 rfl ⟨Nat.le_refl _, Nat.le_refl _⟩ (jm_r_Z z4) h rfl
  · have h := h.2 c1
    refine jm_aloadn d_X11_readOne_55 rfl ?_
    refine jm_getI (k := 56) (ki := 56) cf_X11 (Nat.le_of_ble_eq_true rfl) f_X11_408 d_X11_readOne_56 rfl rfl is_133 rfl ?_
    refine jm_bipush (v := 8) d_X11_readOne_59 rfl (jm_okI (by decide) (by decide)) ?_
    refine jm_icmp_ne (tgt := 70) d_X11_readOne_61 (by decide) (fun c5 => ?_) (fun c5 => ?_)
    · have h := h.1 c5
      refine jm_aloadn d_X11_readOne_70 rfl ?_
      refine jm_dup rfl d_X11_readOne_71 ?_
      refine jm_getI (k := 55) (ki := 55) cf_X11 (Nat.le_of_ble_eq_true rfl) f_X11_405 d_X11_readOne_72 rfl rfl is_133 rfl ?_
      refine jm_iconst (v := 1) d_X11_readOne_75 rfl (jm_okI (by decide) (by decide)) ?_
      refine jm_iadd d_X11_readOne_76 ?_
      refine jm_putI (k := 55) (ki := 55) cf_X11 (Nat.le_of_ble_eq_true rfl) f_X11_405 d_X11_readOne_77 (fun z => absurd z (by decide)) rfl rfl rfl (fun _ => rfl) is_133 ?_
      refine jm_aloadn d_X11_readOne_80 rfl ?_
      refine jm_dup rfl d_X11_readOne_81 ?_
      refine jm_getI (k := 56) (ki := 56) cf_X11 (Nat.le_of_ble_eq_true rfl) f_X11_408 d_X11_readOne_82 rfl rfl is_133 ((jm_up_i (by decide)).trans rfl) ?_
      refine jm_iconst (v := 1) d_X11_readOne_85 rfl (jm_okI (by decide) (by decide)) ?_
      refine jm_iadd d_X11_readOne_86 ?_
      refine jm_putI (k := 56) (ki := 56) cf_X11 (Nat.le_of_ble_eq_true rfl) f_X11_408 d_X11_readOne_87 (fun z => absurd z (by decide)) rfl rfl rfl (fun _ => rfl) is_133 ?_
      refine jm_aloadn d_X11_readOne_90 rfl ?_
      refine jm_invV (n1 := jm_N) (mc := 0) (ms := 0) (av := []) w_X11_go l_X11_184 d_X11_readOne_91 rfl is_133 ⟨_, _, rfl⟩ ⟨Nat.le_refl _, Nat.le_refl _⟩ (Nat.le_of_ble_eq_true rfl) rfl ?_
      refine jm_Cl.mono h (fun o m6 h hr _ => ?_)
      obtain rfl := jm_rokV hr
      have h := h rfl
      refine jm_iloadn d_X11_readOne_94 rfl ?_
      refine jm_if_eq (tgt := 105) d_X11_readOne_95 (by decide) (fun c7 => ?_) (fun c7 => ?_)
      · have h := h.1 c7
        refine jm_iloadn d_X11_readOne_105 rfl ?_
        refine jm_bipush (v := 17) d_X11_readOne_106 rfl (jm_okI (by decide) (by decide)) ?_
        refine jm_icmp_ne (tgt := 118) d_X11_readOne_108 (by decide) (fun c8 => ?_) (fun c8 => ?_)
        · have h := h.1 c8
          refine jm_iloadn d_X11_readOne_118 rfl ?_
          refine jm_bipush (v := 21) d_X11_readOne_119 rfl (jm_okI (by decide) (by decide)) ?_
          refine jm_icmp_ge (tgt := 132) d_X11_readOne_121 (by decide) (fun c9 => ?_) (fun c9 => ?_)
          · have h := h.1 c9
            refine jm_aloadn d_X11_readOne_132 rfl ?_
            refine jm_iloadn d_X11_readOne_133 rfl ?_
            refine jm_invV (n1 := jm_N) (mc := 0) (ms := 0) (av := [jm_I _]) w_X11_readCompare l_X11_420 d_X11_readOne_134 rfl is_133 ⟨_, _, rfl⟩ ⟨Nat.le_refl _, Nat.le_refl _⟩ (Nat.le_of_ble_eq_true rfl) rfl ?_
            refine jm_Cl.mono h (fun o m10 h hr _ => ?_)
            obtain ⟨r11, rfl, z12⟩ := jm_rokZ hr
            have h := h _ rfl z12
            refine jm_istoren (L' := [some (jm_R _), some (jm_I _), some (jm_I _), some (jm_I _)]) d_X11_readOne_137 (Nat.le_of_ble_eq_true rfl) rfl ?_
            refine jm_aloadn d_X11_readOne_138 rfl ?_
            refine jm_dup rfl d_X11_readOne_139 ?_
            refine jm_getI (k := 56) (ki := 56) cf_X11 (Nat.le_of_ble_eq_true rfl) f_X11_408 d_X11_readOne_140 rfl rfl is_133 rfl ?_
            refine jm_iconst (v := 1) d_X11_readOne_143 rfl (jm_okI (by decide) (by decide)) ?_
            refine jm_isub d_X11_readOne_144 ?_
            refine jm_putI (k := 56) (ki := 56) cf_X11 (Nat.le_of_ble_eq_true rfl) f_X11_408 d_X11_readOne_145 (fun z => absurd z (by decide)) rfl rfl rfl (fun _ => rfl) is_133 ?_
            refine jm_iloadn d_X11_readOne_148 rfl ?_
            exact jm_ret (o := some (jm_I _)) d_X11_readOne_149 rfl ⟨Nat.le_refl _, Nat.le_refl _⟩ (jm_r_Z z12) h rfl
          · have h := h.2 c9
            refine jm_aloadn d_X11_readOne_124 rfl ?_
            refine jm_iloadn d_X11_readOne_125 rfl ?_
            refine jm_invV (n1 := jm_N) (mc := 0) (ms := 0) (av := [jm_I _]) w_X11_readNamed l_X11_417 d_X11_readOne_126 rfl is_133 ⟨_, _, rfl⟩ ⟨Nat.le_refl _, Nat.le_refl _⟩ (Nat.le_of_ble_eq_true rfl) rfl ?_
            refine jm_Cl.mono h (fun o m13 h hr _ => ?_)
            obtain ⟨r14, rfl, z15⟩ := jm_rokZ hr
            have h := h _ rfl z15
            refine jm_goto (tgt := 137) d_X11_readOne_129 (by decide) ?_
            refine jm_istoren (L' := [some (jm_R _), some (jm_I _), some (jm_I _), some (jm_I _)]) d_X11_readOne_137 (Nat.le_of_ble_eq_true rfl) rfl ?_
            refine jm_aloadn d_X11_readOne_138 rfl ?_
            refine jm_dup rfl d_X11_readOne_139 ?_
            refine jm_getI (k := 56) (ki := 56) cf_X11 (Nat.le_of_ble_eq_true rfl) f_X11_408 d_X11_readOne_140 rfl rfl is_133 rfl ?_
            refine jm_iconst (v := 1) d_X11_readOne_143 rfl (jm_okI (by decide) (by decide)) ?_
            refine jm_isub d_X11_readOne_144 ?_
            refine jm_putI (k := 56) (ki := 56) cf_X11 (Nat.le_of_ble_eq_true rfl) f_X11_408 d_X11_readOne_145 (fun z => absurd z (by decide)) rfl rfl rfl (fun _ => rfl) is_133 ?_
            refine jm_iloadn d_X11_readOne_148 rfl ?_
            exact jm_ret (o := some (jm_I _)) d_X11_readOne_149 rfl ⟨Nat.le_refl _, Nat.le_refl _⟩ (jm_r_Z z15) h rfl
        · have h := h.2 c8
          refine jm_aloadn d_X11_readOne_111 rfl ?_
          refine jm_invV (n1 := jm_N) (mc := 0) (ms := 0) (av := []) w_X11_readNot l_X11_414 d_X11_readOne_112 rfl is_133 ⟨_, _, rfl⟩ ⟨Nat.le_refl _, Nat.le_refl _⟩ (Nat.le_of_ble_eq_true rfl) rfl ?_
          refine jm_Cl.mono h (fun o m16 h hr _ => ?_)
          obtain ⟨r17, rfl, z18⟩ := jm_rokZ hr
          have h := h _ rfl z18
          refine jm_goto (tgt := 137) d_X11_readOne_115 (by decide) ?_
          refine jm_istoren (L' := [some (jm_R _), some (jm_I _), some (jm_I _), some (jm_I _)]) d_X11_readOne_137 (Nat.le_of_ble_eq_true rfl) rfl ?_
          refine jm_aloadn d_X11_readOne_138 rfl ?_
          refine jm_dup rfl d_X11_readOne_139 ?_
          refine jm_getI (k := 56) (ki := 56) cf_X11 (Nat.le_of_ble_eq_true rfl) f_X11_408 d_X11_readOne_140 rfl rfl is_133 rfl ?_
          refine jm_iconst (v := 1) d_X11_readOne_143 rfl (jm_okI (by decide) (by decide)) ?_
          refine jm_isub d_X11_readOne_144 ?_
          refine jm_putI (k := 56) (ki := 56) cf_X11 (Nat.le_of_ble_eq_true rfl) f_X11_408 d_X11_readOne_145 (fun z => absurd z (by decide)) rfl rfl rfl (fun _ => rfl) is_133 ?_
          refine jm_iloadn d_X11_readOne_148 rfl ?_
          exact jm_ret (o := some (jm_I _)) d_X11_readOne_149 rfl ⟨Nat.le_refl _, Nat.le_refl _⟩ (jm_r_Z z18) h rfl
      · have h := h.2 c7
        refine jm_aloadn d_X11_readOne_98 rfl ?_
        refine jm_invV (n1 := jm_N) (mc := 0) (ms := 0) (av := []) w_X11_readBracket l_X11_411 d_X11_readOne_99 rfl is_133 ⟨_, _, rfl⟩ ⟨Nat.le_refl _, Nat.le_refl _⟩ (Nat.le_of_ble_eq_true rfl) rfl ?_
        refine jm_Cl.mono h (fun o m19 h hr _ => ?_)
        obtain ⟨r20, rfl, z21⟩ := jm_rokZ hr
        have h := h _ rfl z21
        refine jm_goto (tgt := 137) d_X11_readOne_102 (by decide) ?_
        refine jm_istoren (L' := [some (jm_R _), some (jm_I _), some (jm_I _), some (jm_I _)]) d_X11_readOne_137 (Nat.le_of_ble_eq_true rfl) rfl ?_
        refine jm_aloadn d_X11_readOne_138 rfl ?_
        refine jm_dup rfl d_X11_readOne_139 ?_
        refine jm_getI (k := 56) (ki := 56) cf_X11 (Nat.le_of_ble_eq_true rfl) f_X11_408 d_X11_readOne_140 rfl rfl is_133 rfl ?_
        refine jm_iconst (v := 1) d_X11_readOne_143 rfl (jm_okI (by decide) (by decide)) ?_
        refine jm_isub d_X11_readOne_144 ?_
        refine jm_putI (k := 56) (ki := 56) cf_X11 (Nat.le_of_ble_eq_true rfl) f_X11_408 d_X11_readOne_145 (fun z => absurd z (by decide)) rfl rfl rfl (fun _ => rfl) is_133 ?_
        refine jm_iloadn d_X11_readOne_148 rfl ?_
        exact jm_ret (o := some (jm_I _)) d_X11_readOne_149 rfl ⟨Nat.le_refl _, Nat.le_refl _⟩ (jm_r_Z z21) h rfl
    · have h := h.2 c5
      refine jm_aloadn d_X11_readOne_64 rfl ?_
      refine jm_iconst (v := 4) d_X11_readOne_65 rfl (jm_okI (by decide) (by decide)) ?_
      refine jm_invV (n1 := jm_N) (mc := 0) (ms := 0) (av := [jm_I _]) w_X11_bad l_X11_174 d_X11_readOne_66 rfl is_133 ⟨_, _, rfl⟩ ⟨Nat.le_refl _, Nat.le_refl _⟩ (Nat.le_of_ble_eq_true rfl) rfl ?_
      refine jm_Cl.mono h (fun o m22 h hr _ => ?_)
      obtain ⟨r23, rfl, z24⟩ := jm_rokZ hr
      have h := h _ rfl z24
      exact jm_ret (o := some (jm_I _)) d_X11_readOne_69 rfl ⟨Nat.le_refl _, Nat.le_refl _⟩ (jm_r_Z z24) h rfl
/-! ('CombTableModel', 'readNot', '()Z') -/
theorem d_X11_readNot_0 : decode m_X11_readNot.2.1 0 = .ok (.aload_n 0, 1) := by decide +kernel
theorem d_X11_readNot_1 : decode m_X11_readNot.2.1 1 = .ok (.invokevirtual 402, 3) := by decide +kernel
theorem d_X11_readNot_4 : decode m_X11_readNot.2.1 4 = .ok (.ifCond .ne 5, 3) := by decide +kernel
theorem d_X11_readNot_7 : decode m_X11_readNot.2.1 7 = .ok (.iconst 0, 1) := by decide +kernel
theorem d_X11_readNot_8 : decode m_X11_readNot.2.1 8 = .ok (.ireturn, 1) := by decide +kernel
theorem d_X11_readNot_9 : decode m_X11_readNot.2.1 9 = .ok (.aload_n 0, 1) := by decide +kernel
theorem d_X11_readNot_10 : decode m_X11_readNot.2.1 10 = .ok (.aload_n 0, 1) := by decide +kernel
theorem d_X11_readNot_11 : decode m_X11_readNot.2.1 11 = .ok (.iconst 1, 1) := by decide +kernel
theorem d_X11_readNot_12 : decode m_X11_readNot.2.1 12 = .ok (.aload_n 0, 1) := by decide +kernel
theorem d_X11_readNot_13 : decode m_X11_readNot.2.1 13 = .ok (.getfield 396, 3) := by decide +kernel
theorem d_X11_readNot_16 : decode m_X11_readNot.2.1 16 = .ok (.iconst 0, 1) := by decide +kernel
theorem d_X11_readNot_17 : decode m_X11_readNot.2.1 17 = .ok (.iconst 0, 1) := by decide +kernel
theorem d_X11_readNot_18 : decode m_X11_readNot.2.1 18 = .ok (.invokevirtual 399, 3) := by decide +kernel
theorem d_X11_readNot_21 : decode m_X11_readNot.2.1 21 = .ok (.putfield 396, 3) := by decide +kernel
theorem d_X11_readNot_24 : decode m_X11_readNot.2.1 24 = .ok (.iconst 1, 1) := by decide +kernel
theorem d_X11_readNot_25 : decode m_X11_readNot.2.1 25 = .ok (.ireturn, 1) := by decide +kernel
set_option maxRecDepth 20000 in
theorem e_X11_readNot {E : jm_E} {d : Nat} {μ : jm_M} {Q : Option jm_V → jm_M → Prop}  (h : (∀ v ∈ ([jm_R 133] : List jm_V), jm_ok v) →
  jc E m_X11_readOne d [jm_R 133] μ (fun (o : Option jm_V) (m1 : jm_M) => ∀ r2 : Int, o = some (jm_I r2) → (r2 = 0 ∨ r2 = 1) →
  ((r2 ≠ 0 →
    jc E m_X11_lays d [jm_R 133, jm_I 1, jm_I (m1 133 57), jm_I 0, jm_I 0] m1 (fun (o : Option jm_V) (m5 : jm_M) => ∀ r6 : Int, o = some (jm_I r6) →
    Q (some (jm_I 1)) (jm_up m5 133 57 r6))) ∧
   (¬ (r2 ≠ 0) →
    Q (some (jm_I 0)) m1)))) : jc E m_X11_readNot (d + 1) [jm_R 133] μ Q := by
  refine jm_Cl.of2 (by decide +kernel) (L0 := [some (jm_R 133)]) rfl (Nat.le_of_ble_eq_true rfl) (fun hok => ?_)
  have h := h hok
  refine jm_aloadn d_X11_readNot_0 rfl ?_
  refine jm_invV (n1 := jm_N) (mc := 0) (ms := 0) (av := []) w_X11_readOne l_X11_402 d_X11_readNot_1 rfl is_133 ⟨_, _, rfl⟩ ⟨Nat.le_refl _, Nat.le_refl _⟩ (Nat.le_of_ble_eq_true rfl) rfl ?_
  refine jm_Cl.mono h (fun o m1 h hr _ => ?_)
  obtain ⟨r2, rfl, z3⟩ := jm_rokZ hr
  have h := h _ rfl z3
  refine jm_if_ne (tgt := 9) d_X11_readNot_4 (by decide) (fun c4 => ?_) (fun c4 => ?_)
  · have h := h.1 c4
    refine jm_aloadn d_X11_readNot_9 rfl ?_
    refine jm_aloadn d_X11_readNot_10 rfl ?_
    refine jm_iconst (v := 1) d_X11_readNot_11 rfl (jm_okI (by decide) (by decide)) ?_
    refine jm_aloadn d_X11_readNot_12 rfl ?_
    refine jm_getI (k := 57) (ki := 57) cf_X11 (Nat.le_of_ble_eq_true rfl) f_X11_396 d_X11_readNot_13 rfl rfl is_133 rfl ?_
    refine jm_iconst (v := 0) d_X11_readNot_16 rfl (jm_okI (by decide) (by decide)) ?_
    refine jm_iconst (v := 0) d_X11_readNot_17 rfl (jm_okI (by decide) (by decide)) ?_
    refine jm_invV (n1 := jm_N) (mc := 0) (ms := 0) (av := [jm_I _, jm_I _, jm_I _, jm_I _]) w_X11_lays l_X11_399 d_X11_readNot_18 rfl is_133 ⟨_, _, rfl⟩ ⟨Nat.le_refl _, Nat.le_refl _⟩ (Nat.le_of_ble_eq_true rfl) rfl ?_
    refine jm_Cl.mono h (fun o m5 h hr _ => ?_)
    obtain ⟨r6, rfl⟩ := jm_rokI hr
    have h := h _ rfl
    refine jm_putI (k := 57) (ki := 57) cf_X11 (Nat.le_of_ble_eq_true rfl) f_X11_396 d_X11_readNot_21 (fun z => absurd z (by decide)) rfl rfl rfl (fun _ => rfl) is_133 ?_
    refine jm_iconst (v := 1) d_X11_readNot_24 rfl (jm_okI (by decide) (by decide)) ?_
    exact jm_ret (o := some (jm_I _)) d_X11_readNot_25 rfl ⟨Nat.le_refl _, Nat.le_refl _⟩ (jm_r_Z (by decide)) h rfl
  · have h := h.2 c4
    refine jm_iconst (v := 0) d_X11_readNot_7 rfl (jm_okI (by decide) (by decide)) ?_
    exact jm_ret (o := some (jm_I _)) d_X11_readNot_8 rfl ⟨Nat.le_refl _, Nat.le_refl _⟩ (jm_r_Z (by decide)) h rfl
/-! ('CombTableModel', 'readBracket', '()Z') -/
theorem d_X11_readBracket_0 : decode m_X11_readBracket.2.1 0 = .ok (.aload_n 0, 1) := by decide +kernel
theorem d_X11_readBracket_1 : decode m_X11_readBracket.2.1 1 = .ok (.invokevirtual 423, 3) := by decide +kernel
theorem d_X11_readBracket_4 : decode m_X11_readBracket.2.1 4 = .ok (.ifCond .ne 5, 3) := by decide +kernel
theorem d_X11_readBracket_7 : decode m_X11_readBracket.2.1 7 = .ok (.iconst 0, 1) := by decide +kernel
theorem d_X11_readBracket_8 : decode m_X11_readBracket.2.1 8 = .ok (.ireturn, 1) := by decide +kernel
theorem d_X11_readBracket_9 : decode m_X11_readBracket.2.1 9 = .ok (.aload_n 0, 1) := by decide +kernel
theorem d_X11_readBracket_10 : decode m_X11_readBracket.2.1 10 = .ok (.bipush 41, 2) := by decide +kernel
theorem d_X11_readBracket_12 : decode m_X11_readBracket.2.1 12 = .ok (.invokevirtual 187, 3) := by decide +kernel
theorem d_X11_readBracket_15 : decode m_X11_readBracket.2.1 15 = .ok (.ifCond .ne 9, 3) := by decide +kernel
theorem d_X11_readBracket_18 : decode m_X11_readBracket.2.1 18 = .ok (.aload_n 0, 1) := by decide +kernel
theorem d_X11_readBracket_19 : decode m_X11_readBracket.2.1 19 = .ok (.iconst 1, 1) := by decide +kernel
theorem d_X11_readBracket_20 : decode m_X11_readBracket.2.1 20 = .ok (.invokevirtual 174, 3) := by decide +kernel
theorem d_X11_readBracket_23 : decode m_X11_readBracket.2.1 23 = .ok (.ireturn, 1) := by decide +kernel
theorem d_X11_readBracket_24 : decode m_X11_readBracket.2.1 24 = .ok (.aload_n 0, 1) := by decide +kernel
theorem d_X11_readBracket_25 : decode m_X11_readBracket.2.1 25 = .ok (.invokevirtual 184, 3) := by decide +kernel
theorem d_X11_readBracket_28 : decode m_X11_readBracket.2.1 28 = .ok (.iconst 1, 1) := by decide +kernel
theorem d_X11_readBracket_29 : decode m_X11_readBracket.2.1 29 = .ok (.ireturn, 1) := by decide +kernel
set_option maxRecDepth 20000 in
theorem e_X11_readBracket {E : jm_E} {d : Nat} {μ : jm_M} {Q : Option jm_V → jm_M → Prop}  (h : (∀ v ∈ ([jm_R 133] : List jm_V), jm_ok v) →
  jc E m_X11_readOr d [jm_R 133] μ (fun (o : Option jm_V) (m1 : jm_M) => ∀ r2 : Int, o = some (jm_I r2) → (r2 = 0 ∨ r2 = 1) →
  ((r2 ≠ 0 →
    jc E m_X11_isSign d [jm_R 133, jm_I 41] m1 (fun (o : Option jm_V) (m5 : jm_M) => ∀ r6 : Int, o = some (jm_I r6) → (r6 = 0 ∨ r6 = 1) →
    ((r6 ≠ 0 →
      jc E m_X11_go d [jm_R 133] m5 (fun (o : Option jm_V) (m9 : jm_M) => o = none →
      Q (some (jm_I 1)) m9)) ∧
     (¬ (r6 ≠ 0) →
      jc E m_X11_bad d [jm_R 133, jm_I 1] m5 (fun (o : Option jm_V) (m10 : jm_M) => ∀ r11 : Int, o = some (jm_I r11) → (r11 = 0 ∨ r11 = 1) →
      Q (some (jm_I r11)) m10))))) ∧
   (¬ (r2 ≠ 0) →
    Q (some (jm_I 0)) m1)))) : jc E m_X11_readBracket (d + 1) [jm_R 133] μ Q := by
  refine jm_Cl.of2 (by decide +kernel) (L0 := [some (jm_R 133)]) rfl (Nat.le_of_ble_eq_true rfl) (fun hok => ?_)
  have h := h hok
  refine jm_aloadn d_X11_readBracket_0 rfl ?_
  refine jm_invV (n1 := jm_N) (mc := 0) (ms := 0) (av := []) w_X11_readOr l_X11_423 d_X11_readBracket_1 rfl is_133 ⟨_, _, rfl⟩ ⟨Nat.le_refl _, Nat.le_refl _⟩ (Nat.le_of_ble_eq_true rfl) rfl ?_
  refine jm_Cl.mono h (fun o m1 h hr _ => ?_)
  obtain ⟨r2, rfl, z3⟩ := jm_rokZ hr
  have h := h _ rfl z3
  refine jm_if_ne (tgt := 9) d_X11_readBracket_4 (by decide) (fun c4 => ?_) (fun c4 => ?_)
  · have h := h.1 c4
    refine jm_aloadn d_X11_readBracket_9 rfl ?_
    refine jm_bipush (v := 41) d_X11_readBracket_10 rfl (jm_okI (by decide) (by decide)) ?_
    refine jm_invV (n1 := jm_N) (mc := 0) (ms := 0) (av := [jm_I _]) w_X11_isSign l_X11_187 d_X11_readBracket_12 rfl is_133 ⟨_, _, rfl⟩ ⟨Nat.le_refl _, Nat.le_refl _⟩ (Nat.le_of_ble_eq_true rfl) rfl ?_
    refine jm_Cl.mono h (fun o m5 h hr _ => ?_)
    obtain ⟨r6, rfl, z7⟩ := jm_rokZ hr
    have h := h _ rfl z7
    refine jm_if_ne (tgt := 24) d_X11_readBracket_15 (by decide) (fun c8 => ?_) (fun c8 => ?_)
    · have h := h.1 c8
      refine jm_aloadn d_X11_readBracket_24 rfl ?_
      refine jm_invV (n1 := jm_N) (mc := 0) (ms := 0) (av := []) w_X11_go l_X11_184 d_X11_readBracket_25 rfl is_133 ⟨_, _, rfl⟩ ⟨Nat.le_refl _, Nat.le_refl _⟩ (Nat.le_of_ble_eq_true rfl) rfl ?_
      refine jm_Cl.mono h (fun o m9 h hr _ => ?_)
      obtain rfl := jm_rokV hr
      have h := h rfl
      refine jm_iconst (v := 1) d_X11_readBracket_28 rfl (jm_okI (by decide) (by decide)) ?_
      exact jm_ret (o := some (jm_I _)) d_X11_readBracket_29 rfl ⟨Nat.le_refl _, Nat.le_refl _⟩ (jm_r_Z (by decide)) h rfl
    · have h := h.2 c8
      refine jm_aloadn d_X11_readBracket_18 rfl ?_
      refine jm_iconst (v := 1) d_X11_readBracket_19 rfl (jm_okI (by decide) (by decide)) ?_
      refine jm_invV (n1 := jm_N) (mc := 0) (ms := 0) (av := [jm_I _]) w_X11_bad l_X11_174 d_X11_readBracket_20 rfl is_133 ⟨_, _, rfl⟩ ⟨Nat.le_refl _, Nat.le_refl _⟩ (Nat.le_of_ble_eq_true rfl) rfl ?_
      refine jm_Cl.mono h (fun o m10 h hr _ => ?_)
      obtain ⟨r11, rfl, z12⟩ := jm_rokZ hr
      have h := h _ rfl z12
      exact jm_ret (o := some (jm_I _)) d_X11_readBracket_23 rfl ⟨Nat.le_refl _, Nat.le_refl _⟩ (jm_r_Z z12) h rfl
  · have h := h.2 c4
    refine jm_iconst (v := 0) d_X11_readBracket_7 rfl (jm_okI (by decide) (by decide)) ?_
    exact jm_ret (o := some (jm_I _)) d_X11_readBracket_8 rfl ⟨Nat.le_refl _, Nat.le_refl _⟩ (jm_r_Z (by decide)) h rfl
/-! ('CombTableModel', 'readNamed', '(I)Z') -/
theorem d_X11_readNamed_0 : decode m_X11_readNamed.2.1 0 = .ok (.aload_n 0, 1) := by decide +kernel
theorem d_X11_readNamed_1 : decode m_X11_readNamed.2.1 1 = .ok (.invokevirtual 194, 3) := by decide +kernel
theorem d_X11_readNamed_4 : decode m_X11_readNamed.2.1 4 = .ok (.ifCond .ne 9, 3) := by decide +kernel
theorem d_X11_readNamed_7 : decode m_X11_readNamed.2.1 7 = .ok (.aload_n 0, 1) := by decide +kernel
theorem d_X11_readNamed_8 : decode m_X11_readNamed.2.1 8 = .ok (.iconst 1, 1) := by decide +kernel
theorem d_X11_readNamed_9 : decode m_X11_readNamed.2.1 9 = .ok (.invokevirtual 174, 3) := by decide +kernel
theorem d_X11_readNamed_12 : decode m_X11_readNamed.2.1 12 = .ok (.ireturn, 1) := by decide +kernel
theorem d_X11_readNamed_13 : decode m_X11_readNamed.2.1 13 = .ok (.iload_n 1, 1) := by decide +kernel
theorem d_X11_readNamed_14 : decode m_X11_readNamed.2.1 14 = .ok (.bipush 20, 2) := by decide +kernel
theorem d_X11_readNamed_16 : decode m_X11_readNamed.2.1 16 = .ok (.if_icmp .ne 22, 3) := by decide +kernel
theorem d_X11_readNamed_19 : decode m_X11_readNamed.2.1 19 = .ok (.aload_n 0, 1) := by decide +kernel
theorem d_X11_readNamed_20 : decode m_X11_readNamed.2.1 20 = .ok (.aload_n 0, 1) := by decide +kernel
theorem d_X11_readNamed_21 : decode m_X11_readNamed.2.1 21 = .ok (.getfield 25, 3) := by decide +kernel
theorem d_X11_readNamed_24 : decode m_X11_readNamed.2.1 24 = .ok (.bipush 8, 2) := by decide +kernel
theorem d_X11_readNamed_26 : decode m_X11_readNamed.2.1 26 = .ok (.aload_n 0, 1) := by decide +kernel
theorem d_X11_readNamed_27 : decode m_X11_readNamed.2.1 27 = .ok (.getfield 13, 3) := by decide +kernel
theorem d_X11_readNamed_30 : decode m_X11_readNamed.2.1 30 = .ok (.iconst 1, 1) := by decide +kernel
theorem d_X11_readNamed_31 : decode m_X11_readNamed.2.1 31 = .ok (.iaload, 1) := by decide +kernel
theorem d_X11_readNamed_32 : decode m_X11_readNamed.2.1 32 = .ok (.invokevirtual 198, 3) := by decide +kernel
theorem d_X11_readNamed_35 : decode m_X11_readNamed.2.1 35 = .ok (.goto 18, 3) := by decide +kernel
theorem d_X11_readNamed_38 : decode m_X11_readNamed.2.1 38 = .ok (.aload_n 0, 1) := by decide +kernel
theorem d_X11_readNamed_39 : decode m_X11_readNamed.2.1 39 = .ok (.aload_n 0, 1) := by decide +kernel
theorem d_X11_readNamed_40 : decode m_X11_readNamed.2.1 40 = .ok (.getfield 25, 3) := by decide +kernel
theorem d_X11_readNamed_43 : decode m_X11_readNamed.2.1 43 = .ok (.iconst 0, 1) := by decide +kernel
theorem d_X11_readNamed_44 : decode m_X11_readNamed.2.1 44 = .ok (.aload_n 0, 1) := by decide +kernel
theorem d_X11_readNamed_45 : decode m_X11_readNamed.2.1 45 = .ok (.getfield 13, 3) := by decide +kernel
theorem d_X11_readNamed_48 : decode m_X11_readNamed.2.1 48 = .ok (.iconst 0, 1) := by decide +kernel
theorem d_X11_readNamed_49 : decode m_X11_readNamed.2.1 49 = .ok (.iaload, 1) := by decide +kernel
theorem d_X11_readNamed_50 : decode m_X11_readNamed.2.1 50 = .ok (.invokevirtual 198, 3) := by decide +kernel
theorem d_X11_readNamed_53 : decode m_X11_readNamed.2.1 53 = .ok (.istore_n 2, 1) := by decide +kernel
theorem d_X11_readNamed_54 : decode m_X11_readNamed.2.1 54 = .ok (.iload_n 2, 1) := by decide +kernel
theorem d_X11_readNamed_55 : decode m_X11_readNamed.2.1 55 = .ok (.iconst (-1), 1) := by decide +kernel
theorem d_X11_readNamed_56 : decode m_X11_readNamed.2.1 56 = .ok (.if_icmp .ne 9, 3) := by decide +kernel
theorem d_X11_readNamed_59 : decode m_X11_readNamed.2.1 59 = .ok (.aload_n 0, 1) := by decide +kernel
theorem d_X11_readNamed_60 : decode m_X11_readNamed.2.1 60 = .ok (.iconst 3, 1) := by decide +kernel
theorem d_X11_readNamed_61 : decode m_X11_readNamed.2.1 61 = .ok (.invokevirtual 174, 3) := by decide +kernel
theorem d_X11_readNamed_64 : decode m_X11_readNamed.2.1 64 = .ok (.ireturn, 1) := by decide +kernel
theorem d_X11_readNamed_65 : decode m_X11_readNamed.2.1 65 = .ok (.aload_n 0, 1) := by decide +kernel
theorem d_X11_readNamed_66 : decode m_X11_readNamed.2.1 66 = .ok (.aload_n 0, 1) := by decide +kernel
theorem d_X11_readNamed_67 : decode m_X11_readNamed.2.1 67 = .ok (.iload_n 1, 1) := by decide +kernel
theorem d_X11_readNamed_68 : decode m_X11_readNamed.2.1 68 = .ok (.bipush 18, 2) := by decide +kernel
theorem d_X11_readNamed_70 : decode m_X11_readNamed.2.1 70 = .ok (.if_icmp .ne 7, 3) := by decide +kernel
theorem d_X11_readNamed_73 : decode m_X11_readNamed.2.1 73 = .ok (.iconst 4, 1) := by decide +kernel
theorem d_X11_readNamed_74 : decode m_X11_readNamed.2.1 74 = .ok (.goto 15, 3) := by decide +kernel
theorem d_X11_readNamed_77 : decode m_X11_readNamed.2.1 77 = .ok (.iload_n 1, 1) := by decide +kernel
theorem d_X11_readNamed_78 : decode m_X11_readNamed.2.1 78 = .ok (.bipush 19, 2) := by decide +kernel
theorem d_X11_readNamed_80 : decode m_X11_readNamed.2.1 80 = .ok (.if_icmp .ne 7, 3) := by decide +kernel
theorem d_X11_readNamed_83 : decode m_X11_readNamed.2.1 83 = .ok (.iconst 5, 1) := by decide +kernel
theorem d_X11_readNamed_84 : decode m_X11_readNamed.2.1 84 = .ok (.goto 5, 3) := by decide +kernel
theorem d_X11_readNamed_87 : decode m_X11_readNamed.2.1 87 = .ok (.bipush 6, 2) := by decide +kernel
theorem d_X11_readNamed_89 : decode m_X11_readNamed.2.1 89 = .ok (.iload_n 2, 1) := by decide +kernel
theorem d_X11_readNamed_90 : decode m_X11_readNamed.2.1 90 = .ok (.iconst 0, 1) := by decide +kernel
theorem d_X11_readNamed_91 : decode m_X11_readNamed.2.1 91 = .ok (.iconst 0, 1) := by decide +kernel
theorem d_X11_readNamed_92 : decode m_X11_readNamed.2.1 92 = .ok (.invokevirtual 399, 3) := by decide +kernel
theorem d_X11_readNamed_95 : decode m_X11_readNamed.2.1 95 = .ok (.putfield 396, 3) := by decide +kernel
theorem d_X11_readNamed_98 : decode m_X11_readNamed.2.1 98 = .ok (.aload_n 0, 1) := by decide +kernel
theorem d_X11_readNamed_99 : decode m_X11_readNamed.2.1 99 = .ok (.invokevirtual 184, 3) := by decide +kernel
theorem d_X11_readNamed_102 : decode m_X11_readNamed.2.1 102 = .ok (.iconst 1, 1) := by decide +kernel
theorem d_X11_readNamed_103 : decode m_X11_readNamed.2.1 103 = .ok (.ireturn, 1) := by decide +kernel
set_option maxRecDepth 20000 in
theorem e_X11_readNamed {E : jm_E} {d : Nat} {μ : jm_M} {Q : Option jm_V → jm_M → Prop} {v1 : Int} (h : (∀ v ∈ ([jm_R 133, jm_I v1] : List jm_V), jm_ok v) →
  jc E m_X11_isName d [jm_R 133] μ (fun (o : Option jm_V) (m1 : jm_M) => ∀ r2 : Int, o = some (jm_I r2) → (r2 = 0 ∨ r2 = 1) →
  ((r2 ≠ 0 →
    ((v1 ≠ 20 →
      jc E m_X11_findIn d [jm_R 133, jm_R 139, jm_I 0, jm_I (m1 135 0)] m1 (fun (o : Option jm_V) (m6 : jm_M) => ∀ r7 : Int, o = some (jm_I r7) →
      ((r7 ≠ ((-1)) →
        ((v1 ≠ 18 →
          ((v1 ≠ 19 →
            jc E m_X11_lays d [jm_R 133, jm_I 6, jm_I r7, jm_I 0, jm_I 0] m6 (fun (o : Option jm_V) (m11 : jm_M) => ∀ r12 : Int, o = some (jm_I r12) →
            jc E m_X11_go d [jm_R 133] (jm_up m11 133 57 r12) (fun (o : Option jm_V) (m13 : jm_M) => o = none →
            Q (some (jm_I 1)) m13))) ∧
           (¬ (v1 ≠ 19) →
            jc E m_X11_lays d [jm_R 133, jm_I 5, jm_I r7, jm_I 0, jm_I 0] m6 (fun (o : Option jm_V) (m14 : jm_M) => ∀ r15 : Int, o = some (jm_I r15) →
            jc E m_X11_go d [jm_R 133] (jm_up m14 133 57 r15) (fun (o : Option jm_V) (m16 : jm_M) => o = none →
            Q (some (jm_I 1)) m16))))) ∧
         (¬ (v1 ≠ 18) →
          jc E m_X11_lays d [jm_R 133, jm_I 4, jm_I r7, jm_I 0, jm_I 0] m6 (fun (o : Option jm_V) (m17 : jm_M) => ∀ r18 : Int, o = some (jm_I r18) →
          jc E m_X11_go d [jm_R 133] (jm_up m17 133 57 r18) (fun (o : Option jm_V) (m19 : jm_M) => o = none →
          Q (some (jm_I 1)) m19))))) ∧
       (¬ (r7 ≠ ((-1))) →
        jc E m_X11_bad d [jm_R 133, jm_I 3] m6 (fun (o : Option jm_V) (m20 : jm_M) => ∀ r21 : Int, o = some (jm_I r21) → (r21 = 0 ∨ r21 = 1) →
        Q (some (jm_I r21)) m20))))) ∧
     (¬ (v1 ≠ 20) →
      jc E m_X11_findIn d [jm_R 133, jm_R 139, jm_I 8, jm_I (m1 135 1)] m1 (fun (o : Option jm_V) (m23 : jm_M) => ∀ r24 : Int, o = some (jm_I r24) →
      ((r24 ≠ ((-1)) →
        ((v1 ≠ 18 →
          ((v1 ≠ 19 →
            jc E m_X11_lays d [jm_R 133, jm_I 6, jm_I r24, jm_I 0, jm_I 0] m23 (fun (o : Option jm_V) (m28 : jm_M) => ∀ r29 : Int, o = some (jm_I r29) →
            jc E m_X11_go d [jm_R 133] (jm_up m28 133 57 r29) (fun (o : Option jm_V) (m30 : jm_M) => o = none →
            Q (some (jm_I 1)) m30))) ∧
           (¬ (v1 ≠ 19) →
            jc E m_X11_lays d [jm_R 133, jm_I 5, jm_I r24, jm_I 0, jm_I 0] m23 (fun (o : Option jm_V) (m31 : jm_M) => ∀ r32 : Int, o = some (jm_I r32) →
            jc E m_X11_go d [jm_R 133] (jm_up m31 133 57 r32) (fun (o : Option jm_V) (m33 : jm_M) => o = none →
            Q (some (jm_I 1)) m33))))) ∧
         (¬ (v1 ≠ 18) →
          jc E m_X11_lays d [jm_R 133, jm_I 4, jm_I r24, jm_I 0, jm_I 0] m23 (fun (o : Option jm_V) (m34 : jm_M) => ∀ r35 : Int, o = some (jm_I r35) →
          jc E m_X11_go d [jm_R 133] (jm_up m34 133 57 r35) (fun (o : Option jm_V) (m36 : jm_M) => o = none →
          Q (some (jm_I 1)) m36))))) ∧
       (¬ (r24 ≠ ((-1))) →
        jc E m_X11_bad d [jm_R 133, jm_I 3] m23 (fun (o : Option jm_V) (m37 : jm_M) => ∀ r38 : Int, o = some (jm_I r38) → (r38 = 0 ∨ r38 = 1) →
        Q (some (jm_I r38)) m37))))))) ∧
   (¬ (r2 ≠ 0) →
    jc E m_X11_bad d [jm_R 133, jm_I 1] m1 (fun (o : Option jm_V) (m40 : jm_M) => ∀ r41 : Int, o = some (jm_I r41) → (r41 = 0 ∨ r41 = 1) →
    Q (some (jm_I r41)) m40))))) : jc E m_X11_readNamed (d + 1) [jm_R 133, jm_I v1] μ Q := by
  refine jm_Cl.of2 (by decide +kernel) (L0 := [some (jm_R 133), some (jm_I v1), none]) rfl (Nat.le_of_ble_eq_true rfl) (fun hok => ?_)
  have h := h hok
  refine jm_aloadn d_X11_readNamed_0 rfl ?_
  refine jm_invV (n1 := jm_N) (mc := 0) (ms := 0) (av := []) w_X11_isName l_X11_194 d_X11_readNamed_1 rfl is_133 ⟨_, _, rfl⟩ ⟨Nat.le_refl _, Nat.le_refl _⟩ (Nat.le_of_ble_eq_true rfl) rfl ?_
  refine jm_Cl.mono h (fun o m1 h hr _ => ?_)
  obtain ⟨r2, rfl, z3⟩ := jm_rokZ hr
  have h := h _ rfl z3
  refine jm_if_ne (tgt := 13) d_X11_readNamed_4 (by decide) (fun c4 => ?_) (fun c4 => ?_)
  · have h := h.1 c4
    refine jm_iloadn d_X11_readNamed_13 rfl ?_
    refine jm_bipush (v := 20) d_X11_readNamed_14 rfl (jm_okI (by decide) (by decide)) ?_
    refine jm_icmp_ne (tgt := 38) d_X11_readNamed_16 (by decide) (fun c5 => ?_) (fun c5 => ?_)
    · have h := h.1 c5
      refine jm_aloadn d_X11_readNamed_38 rfl ?_
      refine jm_aloadn d_X11_readNamed_39 rfl ?_
      refine jm_getF (k := 18) (ki := 18) rfl cf_X11 (Nat.le_of_ble_eq_true rfl) f_X11_25 d_X11_readNamed_40 rfl rfl is_133 fr_133_18 ?_
      refine jm_iconst (v := 0) d_X11_readNamed_43 rfl (jm_okI (by decide) (by decide)) ?_
      refine jm_aloadn d_X11_readNamed_44 rfl ?_
      refine jm_getF (k := 14) (ki := 14) rfl cf_X11 (Nat.le_of_ble_eq_true rfl) f_X11_13 d_X11_readNamed_45 rfl rfl is_133 fr_133_14 ?_
      refine jm_iconst (v := 0) d_X11_readNamed_48 rfl (jm_okI (by decide) (by decide)) ?_
      refine jm_iaload d_X11_readNamed_49 (ixl_135 (by decide) (by decide)) ?_
      refine jm_invV (n1 := jm_N) (mc := 0) (ms := 0) (av := [jm_R _, jm_I _, jm_I _]) w_X11_findIn l_X11_198 d_X11_readNamed_50 rfl is_133 ⟨_, _, rfl⟩ ⟨Nat.le_refl _, Nat.le_refl _⟩ (Nat.le_of_ble_eq_true rfl) rfl ?_
      refine jm_Cl.mono h (fun o m6 h hr _ => ?_)
      obtain ⟨r7, rfl⟩ := jm_rokI hr
      have h := h _ rfl
      refine jm_istoren (L' := [some (jm_R _), some (jm_I _), some (jm_I _)]) d_X11_readNamed_53 (Nat.le_of_ble_eq_true rfl) rfl ?_
      refine jm_iloadn d_X11_readNamed_54 rfl ?_
      refine jm_iconst (v := (-1)) d_X11_readNamed_55 rfl (jm_okI (by decide) (by decide)) ?_
      refine jm_icmp_ne (tgt := 65) d_X11_readNamed_56 (by decide) (fun c8 => ?_) (fun c8 => ?_)
      · have h := h.1 c8
        refine jm_aloadn d_X11_readNamed_65 rfl ?_
        refine jm_aloadn d_X11_readNamed_66 rfl ?_
        refine jm_iloadn d_X11_readNamed_67 rfl ?_
        refine jm_bipush (v := 18) d_X11_readNamed_68 rfl (jm_okI (by decide) (by decide)) ?_
        refine jm_icmp_ne (tgt := 77) d_X11_readNamed_70 (by decide) (fun c9 => ?_) (fun c9 => ?_)
        · have h := h.1 c9
          refine jm_iloadn d_X11_readNamed_77 rfl ?_
          refine jm_bipush (v := 19) d_X11_readNamed_78 rfl (jm_okI (by decide) (by decide)) ?_
          refine jm_icmp_ne (tgt := 87) d_X11_readNamed_80 (by decide) (fun c10 => ?_) (fun c10 => ?_)
          · have h := h.1 c10
            refine jm_bipush (v := 6) d_X11_readNamed_87 rfl (jm_okI (by decide) (by decide)) ?_
            refine jm_iloadn d_X11_readNamed_89 rfl ?_
            refine jm_iconst (v := 0) d_X11_readNamed_90 rfl (jm_okI (by decide) (by decide)) ?_
            refine jm_iconst (v := 0) d_X11_readNamed_91 rfl (jm_okI (by decide) (by decide)) ?_
            refine jm_invV (n1 := jm_N) (mc := 0) (ms := 0) (av := [jm_I _, jm_I _, jm_I _, jm_I _]) w_X11_lays l_X11_399 d_X11_readNamed_92 rfl is_133 ⟨_, _, rfl⟩ ⟨Nat.le_refl _, Nat.le_refl _⟩ (Nat.le_of_ble_eq_true rfl) rfl ?_
            refine jm_Cl.mono h (fun o m11 h hr _ => ?_)
            obtain ⟨r12, rfl⟩ := jm_rokI hr
            have h := h _ rfl
            refine jm_putI (k := 57) (ki := 57) cf_X11 (Nat.le_of_ble_eq_true rfl) f_X11_396 d_X11_readNamed_95 (fun z => absurd z (by decide)) rfl rfl rfl (fun _ => rfl) is_133 ?_
            refine jm_aloadn d_X11_readNamed_98 rfl ?_
            refine jm_invV (n1 := jm_N) (mc := 0) (ms := 0) (av := []) w_X11_go l_X11_184 d_X11_readNamed_99 rfl is_133 ⟨_, _, rfl⟩ ⟨Nat.le_refl _, Nat.le_refl _⟩ (Nat.le_of_ble_eq_true rfl) rfl ?_
            refine jm_Cl.mono h (fun o m13 h hr _ => ?_)
            obtain rfl := jm_rokV hr
            have h := h rfl
            refine jm_iconst (v := 1) d_X11_readNamed_102 rfl (jm_okI (by decide) (by decide)) ?_
            exact jm_ret (o := some (jm_I _)) d_X11_readNamed_103 rfl ⟨Nat.le_refl _, Nat.le_refl _⟩ (jm_r_Z (by decide)) h rfl
          · have h := h.2 c10
            refine jm_iconst (v := 5) d_X11_readNamed_83 rfl (jm_okI (by decide) (by decide)) ?_
            refine jm_goto (tgt := 89) d_X11_readNamed_84 (by decide) ?_
            refine jm_iloadn d_X11_readNamed_89 rfl ?_
            refine jm_iconst (v := 0) d_X11_readNamed_90 rfl (jm_okI (by decide) (by decide)) ?_
            refine jm_iconst (v := 0) d_X11_readNamed_91 rfl (jm_okI (by decide) (by decide)) ?_
            refine jm_invV (n1 := jm_N) (mc := 0) (ms := 0) (av := [jm_I _, jm_I _, jm_I _, jm_I _]) w_X11_lays l_X11_399 d_X11_readNamed_92 rfl is_133 ⟨_, _, rfl⟩ ⟨Nat.le_refl _, Nat.le_refl _⟩ (Nat.le_of_ble_eq_true rfl) rfl ?_
            refine jm_Cl.mono h (fun o m14 h hr _ => ?_)
            obtain ⟨r15, rfl⟩ := jm_rokI hr
            have h := h _ rfl
            refine jm_putI (k := 57) (ki := 57) cf_X11 (Nat.le_of_ble_eq_true rfl) f_X11_396 d_X11_readNamed_95 (fun z => absurd z (by decide)) rfl rfl rfl (fun _ => rfl) is_133 ?_
            refine jm_aloadn d_X11_readNamed_98 rfl ?_
            refine jm_invV (n1 := jm_N) (mc := 0) (ms := 0) (av := []) w_X11_go l_X11_184 d_X11_readNamed_99 rfl is_133 ⟨_, _, rfl⟩ ⟨Nat.le_refl _, Nat.le_refl _⟩ (Nat.le_of_ble_eq_true rfl) rfl ?_
            refine jm_Cl.mono h (fun o m16 h hr _ => ?_)
            obtain rfl := jm_rokV hr
            have h := h rfl
            refine jm_iconst (v := 1) d_X11_readNamed_102 rfl (jm_okI (by decide) (by decide)) ?_
            exact jm_ret (o := some (jm_I _)) d_X11_readNamed_103 rfl ⟨Nat.le_refl _, Nat.le_refl _⟩ (jm_r_Z (by decide)) h rfl
        · have h := h.2 c9
          refine jm_iconst (v := 4) d_X11_readNamed_73 rfl (jm_okI (by decide) (by decide)) ?_
          refine jm_goto (tgt := 89) d_X11_readNamed_74 (by decide) ?_
          refine jm_iloadn d_X11_readNamed_89 rfl ?_
          refine jm_iconst (v := 0) d_X11_readNamed_90 rfl (jm_okI (by decide) (by decide)) ?_
          refine jm_iconst (v := 0) d_X11_readNamed_91 rfl (jm_okI (by decide) (by decide)) ?_
          refine jm_invV (n1 := jm_N) (mc := 0) (ms := 0) (av := [jm_I _, jm_I _, jm_I _, jm_I _]) w_X11_lays l_X11_399 d_X11_readNamed_92 rfl is_133 ⟨_, _, rfl⟩ ⟨Nat.le_refl _, Nat.le_refl _⟩ (Nat.le_of_ble_eq_true rfl) rfl ?_
          refine jm_Cl.mono h (fun o m17 h hr _ => ?_)
          obtain ⟨r18, rfl⟩ := jm_rokI hr
          have h := h _ rfl
          refine jm_putI (k := 57) (ki := 57) cf_X11 (Nat.le_of_ble_eq_true rfl) f_X11_396 d_X11_readNamed_95 (fun z => absurd z (by decide)) rfl rfl rfl (fun _ => rfl) is_133 ?_
          refine jm_aloadn d_X11_readNamed_98 rfl ?_
          refine jm_invV (n1 := jm_N) (mc := 0) (ms := 0) (av := []) w_X11_go l_X11_184 d_X11_readNamed_99 rfl is_133 ⟨_, _, rfl⟩ ⟨Nat.le_refl _, Nat.le_refl _⟩ (Nat.le_of_ble_eq_true rfl) rfl ?_
          refine jm_Cl.mono h (fun o m19 h hr _ => ?_)
          obtain rfl := jm_rokV hr
          have h := h rfl
          refine jm_iconst (v := 1) d_X11_readNamed_102 rfl (jm_okI (by decide) (by decide)) ?_
          exact jm_ret (o := some (jm_I _)) d_X11_readNamed_103 rfl ⟨Nat.le_refl _, Nat.le_refl _⟩ (jm_r_Z (by decide)) h rfl
      · have h := h.2 c8
        refine jm_aloadn d_X11_readNamed_59 rfl ?_
        refine jm_iconst (v := 3) d_X11_readNamed_60 rfl (jm_okI (by decide) (by decide)) ?_
        refine jm_invV (n1 := jm_N) (mc := 0) (ms := 0) (av := [jm_I _]) w_X11_bad l_X11_174 d_X11_readNamed_61 rfl is_133 ⟨_, _, rfl⟩ ⟨Nat.le_refl _, Nat.le_refl _⟩ (Nat.le_of_ble_eq_true rfl) rfl ?_
        refine jm_Cl.mono h (fun o m20 h hr _ => ?_)
        obtain ⟨r21, rfl, z22⟩ := jm_rokZ hr
        have h := h _ rfl z22
        exact jm_ret (o := some (jm_I _)) d_X11_readNamed_64 rfl ⟨Nat.le_refl _, Nat.le_refl _⟩ (jm_r_Z z22) h rfl
    · have h := h.2 c5
      refine jm_aloadn d_X11_readNamed_19 rfl ?_
      refine jm_aloadn d_X11_readNamed_20 rfl ?_
      refine jm_getF (k := 18) (ki := 18) rfl cf_X11 (Nat.le_of_ble_eq_true rfl) f_X11_25 d_X11_readNamed_21 rfl rfl is_133 fr_133_18 ?_
      refine jm_bipush (v := 8) d_X11_readNamed_24 rfl (jm_okI (by decide) (by decide)) ?_
      refine jm_aloadn d_X11_readNamed_26 rfl ?_
      refine jm_getF (k := 14) (ki := 14) rfl cf_X11 (Nat.le_of_ble_eq_true rfl) f_X11_13 d_X11_readNamed_27 rfl rfl is_133 fr_133_14 ?_
      refine jm_iconst (v := 1) d_X11_readNamed_30 rfl (jm_okI (by decide) (by decide)) ?_
      refine jm_iaload d_X11_readNamed_31 (ixl_135 (by decide) (by decide)) ?_
      refine jm_invV (n1 := jm_N) (mc := 0) (ms := 0) (av := [jm_R _, jm_I _, jm_I _]) w_X11_findIn l_X11_198 d_X11_readNamed_32 rfl is_133 ⟨_, _, rfl⟩ ⟨Nat.le_refl _, Nat.le_refl _⟩ (Nat.le_of_ble_eq_true rfl) rfl ?_
      refine jm_Cl.mono h (fun o m23 h hr _ => ?_)
      obtain ⟨r24, rfl⟩ := jm_rokI hr
      have h := h _ rfl
      refine jm_goto (tgt := 53) d_X11_readNamed_35 (by decide) ?_
      refine jm_istoren (L' := [some (jm_R _), some (jm_I _), some (jm_I _)]) d_X11_readNamed_53 (Nat.le_of_ble_eq_true rfl) rfl ?_
      refine jm_iloadn d_X11_readNamed_54 rfl ?_
      refine jm_iconst (v := (-1)) d_X11_readNamed_55 rfl (jm_okI (by decide) (by decide)) ?_
      refine jm_icmp_ne (tgt := 65) d_X11_readNamed_56 (by decide) (fun c25 => ?_) (fun c25 => ?_)
      · have h := h.1 c25
        refine jm_aloadn d_X11_readNamed_65 rfl ?_
        refine jm_aloadn d_X11_readNamed_66 rfl ?_
        refine jm_iloadn d_X11_readNamed_67 rfl ?_
        refine jm_bipush (v := 18) d_X11_readNamed_68 rfl (jm_okI (by decide) (by decide)) ?_
        refine jm_icmp_ne (tgt := 77) d_X11_readNamed_70 (by decide) (fun c26 => ?_) (fun c26 => ?_)
        · have h := h.1 c26
          refine jm_iloadn d_X11_readNamed_77 rfl ?_
          refine jm_bipush (v := 19) d_X11_readNamed_78 rfl (jm_okI (by decide) (by decide)) ?_
          refine jm_icmp_ne (tgt := 87) d_X11_readNamed_80 (by decide) (fun c27 => ?_) (fun c27 => ?_)
          · have h := h.1 c27
            refine jm_bipush (v := 6) d_X11_readNamed_87 rfl (jm_okI (by decide) (by decide)) ?_
            refine jm_iloadn d_X11_readNamed_89 rfl ?_
            refine jm_iconst (v := 0) d_X11_readNamed_90 rfl (jm_okI (by decide) (by decide)) ?_
            refine jm_iconst (v := 0) d_X11_readNamed_91 rfl (jm_okI (by decide) (by decide)) ?_
            refine jm_invV (n1 := jm_N) (mc := 0) (ms := 0) (av := [jm_I _, jm_I _, jm_I _, jm_I _]) w_X11_lays l_X11_399 d_X11_readNamed_92 rfl is_133 ⟨_, _, rfl⟩ ⟨Nat.le_refl _, Nat.le_refl _⟩ (Nat.le_of_ble_eq_true rfl) rfl ?_
            refine jm_Cl.mono h (fun o m28 h hr _ => ?_)
            obtain ⟨r29, rfl⟩ := jm_rokI hr
            have h := h _ rfl
            refine jm_putI (k := 57) (ki := 57) cf_X11 (Nat.le_of_ble_eq_true rfl) f_X11_396 d_X11_readNamed_95 (fun z => absurd z (by decide)) rfl rfl rfl (fun _ => rfl) is_133 ?_
            refine jm_aloadn d_X11_readNamed_98 rfl ?_
            refine jm_invV (n1 := jm_N) (mc := 0) (ms := 0) (av := []) w_X11_go l_X11_184 d_X11_readNamed_99 rfl is_133 ⟨_, _, rfl⟩ ⟨Nat.le_refl _, Nat.le_refl _⟩ (Nat.le_of_ble_eq_true rfl) rfl ?_
            refine jm_Cl.mono h (fun o m30 h hr _ => ?_)
            obtain rfl := jm_rokV hr
            have h := h rfl
            refine jm_iconst (v := 1) d_X11_readNamed_102 rfl (jm_okI (by decide) (by decide)) ?_
            exact jm_ret (o := some (jm_I _)) d_X11_readNamed_103 rfl ⟨Nat.le_refl _, Nat.le_refl _⟩ (jm_r_Z (by decide)) h rfl
          · have h := h.2 c27
            refine jm_iconst (v := 5) d_X11_readNamed_83 rfl (jm_okI (by decide) (by decide)) ?_
            refine jm_goto (tgt := 89) d_X11_readNamed_84 (by decide) ?_
            refine jm_iloadn d_X11_readNamed_89 rfl ?_
            refine jm_iconst (v := 0) d_X11_readNamed_90 rfl (jm_okI (by decide) (by decide)) ?_
            refine jm_iconst (v := 0) d_X11_readNamed_91 rfl (jm_okI (by decide) (by decide)) ?_
            refine jm_invV (n1 := jm_N) (mc := 0) (ms := 0) (av := [jm_I _, jm_I _, jm_I _, jm_I _]) w_X11_lays l_X11_399 d_X11_readNamed_92 rfl is_133 ⟨_, _, rfl⟩ ⟨Nat.le_refl _, Nat.le_refl _⟩ (Nat.le_of_ble_eq_true rfl) rfl ?_
            refine jm_Cl.mono h (fun o m31 h hr _ => ?_)
            obtain ⟨r32, rfl⟩ := jm_rokI hr
            have h := h _ rfl
            refine jm_putI (k := 57) (ki := 57) cf_X11 (Nat.le_of_ble_eq_true rfl) f_X11_396 d_X11_readNamed_95 (fun z => absurd z (by decide)) rfl rfl rfl (fun _ => rfl) is_133 ?_
            refine jm_aloadn d_X11_readNamed_98 rfl ?_
            refine jm_invV (n1 := jm_N) (mc := 0) (ms := 0) (av := []) w_X11_go l_X11_184 d_X11_readNamed_99 rfl is_133 ⟨_, _, rfl⟩ ⟨Nat.le_refl _, Nat.le_refl _⟩ (Nat.le_of_ble_eq_true rfl) rfl ?_
            refine jm_Cl.mono h (fun o m33 h hr _ => ?_)
            obtain rfl := jm_rokV hr
            have h := h rfl
            refine jm_iconst (v := 1) d_X11_readNamed_102 rfl (jm_okI (by decide) (by decide)) ?_
            exact jm_ret (o := some (jm_I _)) d_X11_readNamed_103 rfl ⟨Nat.le_refl _, Nat.le_refl _⟩ (jm_r_Z (by decide)) h rfl
        · have h := h.2 c26
          refine jm_iconst (v := 4) d_X11_readNamed_73 rfl (jm_okI (by decide) (by decide)) ?_
          refine jm_goto (tgt := 89) d_X11_readNamed_74 (by decide) ?_
          refine jm_iloadn d_X11_readNamed_89 rfl ?_
          refine jm_iconst (v := 0) d_X11_readNamed_90 rfl (jm_okI (by decide) (by decide)) ?_
          refine jm_iconst (v := 0) d_X11_readNamed_91 rfl (jm_okI (by decide) (by decide)) ?_
          refine jm_invV (n1 := jm_N) (mc := 0) (ms := 0) (av := [jm_I _, jm_I _, jm_I _, jm_I _]) w_X11_lays l_X11_399 d_X11_readNamed_92 rfl is_133 ⟨_, _, rfl⟩ ⟨Nat.le_refl _, Nat.le_refl _⟩ (Nat.le_of_ble_eq_true rfl) rfl ?_
          refine jm_Cl.mono h (fun o m34 h hr _ => ?_)
          obtain ⟨r35, rfl⟩ := jm_rokI hr
          have h := h _ rfl
          refine jm_putI (k := 57) (ki := 57) cf_X11 (Nat.le_of_ble_eq_true rfl) f_X11_396 d_X11_readNamed_95 (fun z => absurd z (by decide)) rfl rfl rfl (fun _ => rfl) is_133 ?_
          refine jm_aloadn d_X11_readNamed_98 rfl ?_
          refine jm_invV (n1 := jm_N) (mc := 0) (ms := 0) (av := []) w_X11_go l_X11_184 d_X11_readNamed_99 rfl is_133 ⟨_, _, rfl⟩ ⟨Nat.le_refl _, Nat.le_refl _⟩ (Nat.le_of_ble_eq_true rfl) rfl ?_
          refine jm_Cl.mono h (fun o m36 h hr _ => ?_)
          obtain rfl := jm_rokV hr
          have h := h rfl
          refine jm_iconst (v := 1) d_X11_readNamed_102 rfl (jm_okI (by decide) (by decide)) ?_
          exact jm_ret (o := some (jm_I _)) d_X11_readNamed_103 rfl ⟨Nat.le_refl _, Nat.le_refl _⟩ (jm_r_Z (by decide)) h rfl
      · have h := h.2 c25
        refine jm_aloadn d_X11_readNamed_59 rfl ?_
        refine jm_iconst (v := 3) d_X11_readNamed_60 rfl (jm_okI (by decide) (by decide)) ?_
        refine jm_invV (n1 := jm_N) (mc := 0) (ms := 0) (av := [jm_I _]) w_X11_bad l_X11_174 d_X11_readNamed_61 rfl is_133 ⟨_, _, rfl⟩ ⟨Nat.le_refl _, Nat.le_refl _⟩ (Nat.le_of_ble_eq_true rfl) rfl ?_
        refine jm_Cl.mono h (fun o m37 h hr _ => ?_)
        obtain ⟨r38, rfl, z39⟩ := jm_rokZ hr
        have h := h _ rfl z39
        exact jm_ret (o := some (jm_I _)) d_X11_readNamed_64 rfl ⟨Nat.le_refl _, Nat.le_refl _⟩ (jm_r_Z z39) h rfl
  · have h := h.2 c4
    refine jm_aloadn d_X11_readNamed_7 rfl ?_
    refine jm_iconst (v := 1) d_X11_readNamed_8 rfl (jm_okI (by decide) (by decide)) ?_
    refine jm_invV (n1 := jm_N) (mc := 0) (ms := 0) (av := [jm_I _]) w_X11_bad l_X11_174 d_X11_readNamed_9 rfl is_133 ⟨_, _, rfl⟩ ⟨Nat.le_refl _, Nat.le_refl _⟩ (Nat.le_of_ble_eq_true rfl) rfl ?_
    refine jm_Cl.mono h (fun o m40 h hr _ => ?_)
    obtain ⟨r41, rfl, z42⟩ := jm_rokZ hr
    have h := h _ rfl z42
    exact jm_ret (o := some (jm_I _)) d_X11_readNamed_12 rfl ⟨Nat.le_refl _, Nat.le_refl _⟩ (jm_r_Z z42) h rfl
/-! ('CombTableModel', 'readCompare', '(I)Z') -/
theorem d_X11_readCompare_0 : decode m_X11_readCompare.2.1 0 = .ok (.aload_n 0, 1) := by decide +kernel
theorem d_X11_readCompare_1 : decode m_X11_readCompare.2.1 1 = .ok (.bipush 60, 2) := by decide +kernel
theorem d_X11_readCompare_3 : decode m_X11_readCompare.2.1 3 = .ok (.invokevirtual 187, 3) := by decide +kernel
theorem d_X11_readCompare_6 : decode m_X11_readCompare.2.1 6 = .ok (.ifCond .ne 27, 3) := by decide +kernel
theorem d_X11_readCompare_9 : decode m_X11_readCompare.2.1 9 = .ok (.aload_n 0, 1) := by decide +kernel
theorem d_X11_readCompare_10 : decode m_X11_readCompare.2.1 10 = .ok (.bipush 61, 2) := by decide +kernel
theorem d_X11_readCompare_12 : decode m_X11_readCompare.2.1 12 = .ok (.invokevirtual 187, 3) := by decide +kernel
theorem d_X11_readCompare_15 : decode m_X11_readCompare.2.1 15 = .ok (.ifCond .ne 18, 3) := by decide +kernel
theorem d_X11_readCompare_18 : decode m_X11_readCompare.2.1 18 = .ok (.aload_n 0, 1) := by decide +kernel
theorem d_X11_readCompare_19 : decode m_X11_readCompare.2.1 19 = .ok (.bipush 62, 2) := by decide +kernel
theorem d_X11_readCompare_21 : decode m_X11_readCompare.2.1 21 = .ok (.invokevirtual 187, 3) := by decide +kernel
theorem d_X11_readCompare_24 : decode m_X11_readCompare.2.1 24 = .ok (.ifCond .ne 9, 3) := by decide +kernel
theorem d_X11_readCompare_27 : decode m_X11_readCompare.2.1 27 = .ok (.aload_n 0, 1) := by decide +kernel
theorem d_X11_readCompare_28 : decode m_X11_readCompare.2.1 28 = .ok (.iconst 1, 1) := by decide +kernel
theorem d_X11_readCompare_29 : decode m_X11_readCompare.2.1 29 = .ok (.invokevirtual 174, 3) := by decide +kernel
theorem d_X11_readCompare_32 : decode m_X11_readCompare.2.1 32 = .ok (.ireturn, 1) := by decide +kernel
theorem d_X11_readCompare_33 : decode m_X11_readCompare.2.1 33 = .ok (.aload_n 0, 1) := by decide +kernel
theorem d_X11_readCompare_34 : decode m_X11_readCompare.2.1 34 = .ok (.getfield 138, 3) := by decide +kernel
theorem d_X11_readCompare_37 : decode m_X11_readCompare.2.1 37 = .ok (.istore_n 2, 1) := by decide +kernel
theorem d_X11_readCompare_38 : decode m_X11_readCompare.2.1 38 = .ok (.aload_n 0, 1) := by decide +kernel
theorem d_X11_readCompare_39 : decode m_X11_readCompare.2.1 39 = .ok (.invokevirtual 184, 3) := by decide +kernel
theorem d_X11_readCompare_42 : decode m_X11_readCompare.2.1 42 = .ok (.aload_n 0, 1) := by decide +kernel
theorem d_X11_readCompare_43 : decode m_X11_readCompare.2.1 43 = .ok (.iconst 0, 1) := by decide +kernel
theorem d_X11_readCompare_44 : decode m_X11_readCompare.2.1 44 = .ok (.sipush 999, 3) := by decide +kernel
theorem d_X11_readCompare_47 : decode m_X11_readCompare.2.1 47 = .ok (.invokevirtual 205, 3) := by decide +kernel
theorem d_X11_readCompare_50 : decode m_X11_readCompare.2.1 50 = .ok (.ifCond .ne 5, 3) := by decide +kernel
theorem d_X11_readCompare_53 : decode m_X11_readCompare.2.1 53 = .ok (.iconst 0, 1) := by decide +kernel
theorem d_X11_readCompare_54 : decode m_X11_readCompare.2.1 54 = .ok (.ireturn, 1) := by decide +kernel
theorem d_X11_readCompare_55 : decode m_X11_readCompare.2.1 55 = .ok (.aload_n 0, 1) := by decide +kernel
theorem d_X11_readCompare_56 : decode m_X11_readCompare.2.1 56 = .ok (.aload_n 0, 1) := by decide +kernel
theorem d_X11_readCompare_57 : decode m_X11_readCompare.2.1 57 = .ok (.bipush 50, 2) := by decide +kernel
theorem d_X11_readCompare_59 : decode m_X11_readCompare.2.1 59 = .ok (.iload_n 1, 1) := by decide +kernel
theorem d_X11_readCompare_60 : decode m_X11_readCompare.2.1 60 = .ok (.iadd, 1) := by decide +kernel
theorem d_X11_readCompare_61 : decode m_X11_readCompare.2.1 61 = .ok (.iconst 0, 1) := by decide +kernel
theorem d_X11_readCompare_62 : decode m_X11_readCompare.2.1 62 = .ok (.aload_n 0, 1) := by decide +kernel
theorem d_X11_readCompare_63 : decode m_X11_readCompare.2.1 63 = .ok (.getfield 181, 3) := by decide +kernel
theorem d_X11_readCompare_66 : decode m_X11_readCompare.2.1 66 = .ok (.iload_n 2, 1) := by decide +kernel
theorem d_X11_readCompare_67 : decode m_X11_readCompare.2.1 67 = .ok (.invokevirtual 399, 3) := by decide +kernel
theorem d_X11_readCompare_70 : decode m_X11_readCompare.2.1 70 = .ok (.putfield 396, 3) := by decide +kernel
theorem d_X11_readCompare_73 : decode m_X11_readCompare.2.1 73 = .ok (.iconst 1, 1) := by decide +kernel
theorem d_X11_readCompare_74 : decode m_X11_readCompare.2.1 74 = .ok (.ireturn, 1) := by decide +kernel
set_option maxRecDepth 20000 in
theorem e_X11_readCompare {E : jm_E} {d : Nat} {μ : jm_M} {Q : Option jm_V → jm_M → Prop} {v1 : Int} (h : (∀ v ∈ ([jm_R 133, jm_I v1] : List jm_V), jm_ok v) →
  jc E m_X11_isSign d [jm_R 133, jm_I 60] μ (fun (o : Option jm_V) (m1 : jm_M) => ∀ r2 : Int, o = some (jm_I r2) → (r2 = 0 ∨ r2 = 1) →
  ((r2 ≠ 0 →
    jg E m_X11_readCompare d 33 [some (jm_R 133), some (jm_I v1), none] [] m1 Q) ∧
   (¬ (r2 ≠ 0) →
    jc E m_X11_isSign d [jm_R 133, jm_I 61] m1 (fun (o : Option jm_V) (m5 : jm_M) => ∀ r6 : Int, o = some (jm_I r6) → (r6 = 0 ∨ r6 = 1) →
    ((r6 ≠ 0 →
      jg E m_X11_readCompare d 33 [some (jm_R 133), some (jm_I v1), none] [] m5 Q) ∧
     (¬ (r6 ≠ 0) →
      jc E m_X11_isSign d [jm_R 133, jm_I 62] m5 (fun (o : Option jm_V) (m9 : jm_M) => ∀ r10 : Int, o = some (jm_I r10) → (r10 = 0 ∨ r10 = 1) →
      ((r10 ≠ 0 →
        jg E m_X11_readCompare d 33 [some (jm_R 133), some (jm_I v1), none] [] m9 Q) ∧
       (¬ (r10 ≠ 0) →
        jc E m_X11_bad d [jm_R 133, jm_I 1] m9 (fun (o : Option jm_V) (m13 : jm_M) => ∀ r14 : Int, o = some (jm_I r14) → (r14 = 0 ∨ r14 = 1) →
        Q (some (jm_I r14)) m13))))))))))) : jc E m_X11_readCompare (d + 1) [jm_R 133, jm_I v1] μ Q := by
  refine jm_Cl.of2 (by decide +kernel) (L0 := [some (jm_R 133), some (jm_I v1), none]) rfl (Nat.le_of_ble_eq_true rfl) (fun hok => ?_)
  have h := h hok
  refine jm_aloadn d_X11_readCompare_0 rfl ?_
  refine jm_bipush (v := 60) d_X11_readCompare_1 rfl (jm_okI (by decide) (by decide)) ?_
  refine jm_invV (n1 := jm_N) (mc := 0) (ms := 0) (av := [jm_I _]) w_X11_isSign l_X11_187 d_X11_readCompare_3 rfl is_133 ⟨_, _, rfl⟩ ⟨Nat.le_refl _, Nat.le_refl _⟩ (Nat.le_of_ble_eq_true rfl) rfl ?_
  refine jm_Cl.mono h (fun o m1 h hr _ => ?_)
  obtain ⟨r2, rfl, z3⟩ := jm_rokZ hr
  have h := h _ rfl z3
  refine jm_if_ne (tgt := 33) d_X11_readCompare_6 (by decide) (fun c4 => ?_) (fun c4 => ?_)
  · have h := h.1 c4
    exact h
  · have h := h.2 c4
    refine jm_aloadn d_X11_readCompare_9 rfl ?_
    refine jm_bipush (v := 61) d_X11_readCompare_10 rfl (jm_okI (by decide) (by decide)) ?_
    refine jm_invV (n1 := jm_N) (mc := 0) (ms := 0) (av := [jm_I _]) w_X11_isSign l_X11_187 d_X11_readCompare_12 rfl is_133 ⟨_, _, rfl⟩ ⟨Nat.le_refl _, Nat.le_refl _⟩ (Nat.le_of_ble_eq_true rfl) rfl ?_
    refine jm_Cl.mono h (fun o m5 h hr _ => ?_)
    obtain ⟨r6, rfl, z7⟩ := jm_rokZ hr
    have h := h _ rfl z7
    refine jm_if_ne (tgt := 33) d_X11_readCompare_15 (by decide) (fun c8 => ?_) (fun c8 => ?_)
    · have h := h.1 c8
      exact h
    · have h := h.2 c8
      refine jm_aloadn d_X11_readCompare_18 rfl ?_
      refine jm_bipush (v := 62) d_X11_readCompare_19 rfl (jm_okI (by decide) (by decide)) ?_
      refine jm_invV (n1 := jm_N) (mc := 0) (ms := 0) (av := [jm_I _]) w_X11_isSign l_X11_187 d_X11_readCompare_21 rfl is_133 ⟨_, _, rfl⟩ ⟨Nat.le_refl _, Nat.le_refl _⟩ (Nat.le_of_ble_eq_true rfl) rfl ?_
      refine jm_Cl.mono h (fun o m9 h hr _ => ?_)
      obtain ⟨r10, rfl, z11⟩ := jm_rokZ hr
      have h := h _ rfl z11
      refine jm_if_ne (tgt := 33) d_X11_readCompare_24 (by decide) (fun c12 => ?_) (fun c12 => ?_)
      · have h := h.1 c12
        exact h
      · have h := h.2 c12
        refine jm_aloadn d_X11_readCompare_27 rfl ?_
        refine jm_iconst (v := 1) d_X11_readCompare_28 rfl (jm_okI (by decide) (by decide)) ?_
        refine jm_invV (n1 := jm_N) (mc := 0) (ms := 0) (av := [jm_I _]) w_X11_bad l_X11_174 d_X11_readCompare_29 rfl is_133 ⟨_, _, rfl⟩ ⟨Nat.le_refl _, Nat.le_refl _⟩ (Nat.le_of_ble_eq_true rfl) rfl ?_
        refine jm_Cl.mono h (fun o m13 h hr _ => ?_)
        obtain ⟨r14, rfl, z15⟩ := jm_rokZ hr
        have h := h _ rfl z15
        exact jm_ret (o := some (jm_I _)) d_X11_readCompare_32 rfl ⟨Nat.le_refl _, Nat.le_refl _⟩ (jm_r_Z z15) h rfl
set_option maxRecDepth 20000 in
theorem r_X11_readCompare_33 {E : jm_E} {d : Nat} {μ : jm_M} {Q : Option jm_V → jm_M → Prop} {v1 : Int} (h :
  jc E m_X11_go d [jm_R 133] μ (fun (o : Option jm_V) (m1 : jm_M) => o = none →
  jc E m_X11_readNumber d [jm_R 133, jm_I 0, jm_I 999] m1 (fun (o : Option jm_V) (m2 : jm_M) => ∀ r3 : Int, o = some (jm_I r3) → (r3 = 0 ∨ r3 = 1) →
  ((r3 ≠ 0 →
    jc E m_X11_lays d [jm_R 133, jm_I (jm_wr (50 + v1)), jm_I 0, jm_I (m2 133 13), jm_I (μ 133 9)] m2 (fun (o : Option jm_V) (m6 : jm_M) => ∀ r7 : Int, o = some (jm_I r7) →
    Q (some (jm_I 1)) (jm_up m6 133 57 r7))) ∧
   (¬ (r3 ≠ 0) →
    Q (some (jm_I 0)) m2))))) : jg E m_X11_readCompare d 33 [some (jm_R 133), some (jm_I v1), none] [] μ Q := by
  refine jm_aloadn d_X11_readCompare_33 rfl ?_
  refine jm_getI (k := 9) (ki := 9) cf_X11 (Nat.le_of_ble_eq_true rfl) f_X11_138 d_X11_readCompare_34 rfl rfl is_133 rfl ?_
  refine jm_istoren (L' := [some (jm_R _), some (jm_I _), some (jm_I _)]) d_X11_readCompare_37 (Nat.le_of_ble_eq_true rfl) rfl ?_
  refine jm_aloadn d_X11_readCompare_38 rfl ?_
  refine jm_invV (n1 := jm_N) (mc := 0) (ms := 0) (av := []) w_X11_go l_X11_184 d_X11_readCompare_39 rfl is_133 ⟨_, _, rfl⟩ ⟨Nat.le_refl _, Nat.le_refl _⟩ (Nat.le_of_ble_eq_true rfl) rfl ?_
  refine jm_Cl.mono h (fun o m1 h hr _ => ?_)
  obtain rfl := jm_rokV hr
  have h := h rfl
  refine jm_aloadn d_X11_readCompare_42 rfl ?_
  refine jm_iconst (v := 0) d_X11_readCompare_43 rfl (jm_okI (by decide) (by decide)) ?_
  refine jm_sipush (v := 999) d_X11_readCompare_44 rfl (jm_okI (by decide) (by decide)) ?_
  refine jm_invV (n1 := jm_N) (mc := 0) (ms := 0) (av := [jm_I _, jm_I _]) w_X11_readNumber l_X11_205 d_X11_readCompare_47 rfl is_133 ⟨_, _, rfl⟩ ⟨Nat.le_refl _, Nat.le_refl _⟩ (Nat.le_of_ble_eq_true rfl) rfl ?_
  refine jm_Cl.mono h (fun o m2 h hr _ => ?_)
  obtain ⟨r3, rfl, z4⟩ := jm_rokZ hr
  have h := h _ rfl z4
  refine jm_if_ne (tgt := 55) d_X11_readCompare_50 (by decide) (fun c5 => ?_) (fun c5 => ?_)
  · have h := h.1 c5
    refine jm_aloadn d_X11_readCompare_55 rfl ?_
    refine jm_aloadn d_X11_readCompare_56 rfl ?_
    refine jm_bipush (v := 50) d_X11_readCompare_57 rfl (jm_okI (by decide) (by decide)) ?_
    refine jm_iloadn d_X11_readCompare_59 rfl ?_
    refine jm_iadd d_X11_readCompare_60 ?_
    refine jm_iconst (v := 0) d_X11_readCompare_61 rfl (jm_okI (by decide) (by decide)) ?_
    refine jm_aloadn d_X11_readCompare_62 rfl ?_
    refine jm_getI (k := 13) (ki := 13) cf_X11 (Nat.le_of_ble_eq_true rfl) f_X11_181 d_X11_readCompare_63 rfl rfl is_133 rfl ?_
    refine jm_iloadn d_X11_readCompare_66 rfl ?_
    refine jm_invV (n1 := jm_N) (mc := 0) (ms := 0) (av := [jm_I _, jm_I _, jm_I _, jm_I _]) w_X11_lays l_X11_399 d_X11_readCompare_67 rfl is_133 ⟨_, _, rfl⟩ ⟨Nat.le_refl _, Nat.le_refl _⟩ (Nat.le_of_ble_eq_true rfl) rfl ?_
    refine jm_Cl.mono h (fun o m6 h hr _ => ?_)
    obtain ⟨r7, rfl⟩ := jm_rokI hr
    have h := h _ rfl
    refine jm_putI (k := 57) (ki := 57) cf_X11 (Nat.le_of_ble_eq_true rfl) f_X11_396 d_X11_readCompare_70 (fun z => absurd z (by decide)) rfl rfl rfl (fun _ => rfl) is_133 ?_
    refine jm_iconst (v := 1) d_X11_readCompare_73 rfl (jm_okI (by decide) (by decide)) ?_
    exact jm_ret (o := some (jm_I _)) d_X11_readCompare_74 rfl ⟨Nat.le_refl _, Nat.le_refl _⟩ (jm_r_Z (by decide)) h rfl
  · have h := h.2 c5
    refine jm_iconst (v := 0) d_X11_readCompare_53 rfl (jm_okI (by decide) (by decide)) ?_
    exact jm_ret (o := some (jm_I _)) d_X11_readCompare_54 rfl ⟨Nat.le_refl _, Nat.le_refl _⟩ (jm_r_Z (by decide)) h rfl
/-! ('CombTableModel', 'sentence', '()I') -/
theorem d_X11_sentence_0 : decode m_X11_sentence.2.1 0 = .ok (.aload_n 0, 1) := by decide +kernel
theorem d_X11_sentence_1 : decode m_X11_sentence.2.1 1 = .ok (.sipush 200, 3) := by decide +kernel
theorem d_X11_sentence_4 : decode m_X11_sentence.2.1 4 = .ok (.invokevirtual 236, 3) := by decide +kernel
theorem d_X11_sentence_7 : decode m_X11_sentence.2.1 7 = .ok (.aload_n 0, 1) := by decide +kernel
theorem d_X11_sentence_8 : decode m_X11_sentence.2.1 8 = .ok (.iconst 0, 1) := by decide +kernel
theorem d_X11_sentence_9 : decode m_X11_sentence.2.1 9 = .ok (.putfield 390, 3) := by decide +kernel
theorem d_X11_sentence_12 : decode m_X11_sentence.2.1 12 = .ok (.aload_n 0, 1) := by decide +kernel
theorem d_X11_sentence_13 : decode m_X11_sentence.2.1 13 = .ok (.iconst 0, 1) := by decide +kernel
theorem d_X11_sentence_14 : decode m_X11_sentence.2.1 14 = .ok (.putfield 405, 3) := by decide +kernel
theorem d_X11_sentence_17 : decode m_X11_sentence.2.1 17 = .ok (.aload_n 0, 1) := by decide +kernel
theorem d_X11_sentence_18 : decode m_X11_sentence.2.1 18 = .ok (.iconst 0, 1) := by decide +kernel
theorem d_X11_sentence_19 : decode m_X11_sentence.2.1 19 = .ok (.putfield 408, 3) := by decide +kernel
theorem d_X11_sentence_22 : decode m_X11_sentence.2.1 22 = .ok (.aload_n 0, 1) := by decide +kernel
theorem d_X11_sentence_23 : decode m_X11_sentence.2.1 23 = .ok (.invokevirtual 423, 3) := by decide +kernel
theorem d_X11_sentence_26 : decode m_X11_sentence.2.1 26 = .ok (.ifCond .ne 10, 3) := by decide +kernel
theorem d_X11_sentence_29 : decode m_X11_sentence.2.1 29 = .ok (.iconst (-1), 1) := by decide +kernel
theorem d_X11_sentence_30 : decode m_X11_sentence.2.1 30 = .ok (.aload_n 0, 1) := by decide +kernel
theorem d_X11_sentence_31 : decode m_X11_sentence.2.1 31 = .ok (.getfield 171, 3) := by decide +kernel
theorem d_X11_sentence_34 : decode m_X11_sentence.2.1 34 = .ok (.isub, 1) := by decide +kernel
theorem d_X11_sentence_35 : decode m_X11_sentence.2.1 35 = .ok (.ireturn, 1) := by decide +kernel
theorem d_X11_sentence_36 : decode m_X11_sentence.2.1 36 = .ok (.aload_n 0, 1) := by decide +kernel
theorem d_X11_sentence_37 : decode m_X11_sentence.2.1 37 = .ok (.getfield 128, 3) := by decide +kernel
theorem d_X11_sentence_40 : decode m_X11_sentence.2.1 40 = .ok (.ifCond .eq 16, 3) := by decide +kernel
theorem d_X11_sentence_43 : decode m_X11_sentence.2.1 43 = .ok (.aload_n 0, 1) := by decide +kernel
theorem d_X11_sentence_44 : decode m_X11_sentence.2.1 44 = .ok (.iconst 1, 1) := by decide +kernel
theorem d_X11_sentence_45 : decode m_X11_sentence.2.1 45 = .ok (.invokevirtual 174, 3) := by decide +kernel
theorem d_X11_sentence_48 : decode m_X11_sentence.2.1 48 = .ok (.pop, 1) := by decide +kernel
theorem d_X11_sentence_49 : decode m_X11_sentence.2.1 49 = .ok (.iconst (-1), 1) := by decide +kernel
theorem d_X11_sentence_50 : decode m_X11_sentence.2.1 50 = .ok (.aload_n 0, 1) := by decide +kernel
theorem d_X11_sentence_51 : decode m_X11_sentence.2.1 51 = .ok (.getfield 171, 3) := by decide +kernel
theorem d_X11_sentence_54 : decode m_X11_sentence.2.1 54 = .ok (.isub, 1) := by decide +kernel
theorem d_X11_sentence_55 : decode m_X11_sentence.2.1 55 = .ok (.ireturn, 1) := by decide +kernel
theorem d_X11_sentence_56 : decode m_X11_sentence.2.1 56 = .ok (.aload_n 0, 1) := by decide +kernel
theorem d_X11_sentence_57 : decode m_X11_sentence.2.1 57 = .ok (.getfield 13, 3) := by decide +kernel
theorem d_X11_sentence_60 : decode m_X11_sentence.2.1 60 = .ok (.sipush 910, 3) := by decide +kernel
theorem d_X11_sentence_63 : decode m_X11_sentence.2.1 63 = .ok (.iconst 1, 1) := by decide +kernel
theorem d_X11_sentence_64 : decode m_X11_sentence.2.1 64 = .ok (.iastore, 1) := by decide +kernel
theorem d_X11_sentence_65 : decode m_X11_sentence.2.1 65 = .ok (.aload_n 0, 1) := by decide +kernel
theorem d_X11_sentence_66 : decode m_X11_sentence.2.1 66 = .ok (.getfield 13, 3) := by decide +kernel
theorem d_X11_sentence_69 : decode m_X11_sentence.2.1 69 = .ok (.sipush 911, 3) := by decide +kernel
theorem d_X11_sentence_72 : decode m_X11_sentence.2.1 72 = .ok (.aload_n 0, 1) := by decide +kernel
theorem d_X11_sentence_73 : decode m_X11_sentence.2.1 73 = .ok (.getfield 396, 3) := by decide +kernel
theorem d_X11_sentence_76 : decode m_X11_sentence.2.1 76 = .ok (.iastore, 1) := by decide +kernel
theorem d_X11_sentence_77 : decode m_X11_sentence.2.1 77 = .ok (.iconst 0, 1) := by decide +kernel
theorem d_X11_sentence_78 : decode m_X11_sentence.2.1 78 = .ok (.istore_n 1, 1) := by decide +kernel
theorem d_X11_sentence_79 : decode m_X11_sentence.2.1 79 = .ok (.iload_n 1, 1) := by decide +kernel
theorem d_X11_sentence_80 : decode m_X11_sentence.2.1 80 = .ok (.sipush 240, 3) := by decide +kernel
theorem d_X11_sentence_83 : decode m_X11_sentence.2.1 83 = .ok (.if_icmp .ge 25, 3) := by decide +kernel
theorem d_X11_sentence_86 : decode m_X11_sentence.2.1 86 = .ok (.aload_n 0, 1) := by decide +kernel
theorem d_X11_sentence_87 : decode m_X11_sentence.2.1 87 = .ok (.getfield 13, 3) := by decide +kernel
theorem d_X11_sentence_90 : decode m_X11_sentence.2.1 90 = .ok (.sipush 912, 3) := by decide +kernel
theorem d_X11_sentence_93 : decode m_X11_sentence.2.1 93 = .ok (.iload_n 1, 1) := by decide +kernel
theorem d_X11_sentence_94 : decode m_X11_sentence.2.1 94 = .ok (.iadd, 1) := by decide +kernel
theorem d_X11_sentence_95 : decode m_X11_sentence.2.1 95 = .ok (.aload_n 0, 1) := by decide +kernel
theorem d_X11_sentence_96 : decode m_X11_sentence.2.1 96 = .ok (.getfield 103, 3) := by decide +kernel
theorem d_X11_sentence_99 : decode m_X11_sentence.2.1 99 = .ok (.iload_n 1, 1) := by decide +kernel
theorem d_X11_sentence_100 : decode m_X11_sentence.2.1 100 = .ok (.iaload, 1) := by decide +kernel
theorem d_X11_sentence_101 : decode m_X11_sentence.2.1 101 = .ok (.iastore, 1) := by decide +kernel
theorem d_X11_sentence_102 : decode m_X11_sentence.2.1 102 = .ok (.iinc 1 1, 3) := by decide +kernel
theorem d_X11_sentence_105 : decode m_X11_sentence.2.1 105 = .ok (.goto (-26), 3) := by decide +kernel
theorem d_X11_sentence_108 : decode m_X11_sentence.2.1 108 = .ok (.aload_n 0, 1) := by decide +kernel
theorem d_X11_sentence_109 : decode m_X11_sentence.2.1 109 = .ok (.getfield 405, 3) := by decide +kernel
theorem d_X11_sentence_112 : decode m_X11_sentence.2.1 112 = .ok (.ireturn, 1) := by decide +kernel
set_option maxRecDepth 20000 in
theorem e_X11_sentence {E : jm_E} {d : Nat} {μ : jm_M} {Q : Option jm_V → jm_M → Prop}  (h : (∀ v ∈ ([jm_R 133] : List jm_V), jm_ok v) →
  jc E m_X11_begin d [jm_R 133, jm_I 200] μ (fun (o : Option jm_V) (m1 : jm_M) => o = none →
  jc E m_X11_readOr d [jm_R 133] (jm_up (jm_up (jm_up m1 133 54 0) 133 55 0) 133 56 0) (fun (o : Option jm_V) (m2 : jm_M) => ∀ r3 : Int, o = some (jm_I r3) → (r3 = 0 ∨ r3 = 1) →
  ((r3 ≠ 0 →
    ((m2 133 7 = 0 →
      ∀ m7 : jm_M, m7 = (jm_up m2 135 910 1) →
      ∀ m8 : jm_M, m8 = (jm_up m7 135 911 (m7 133 57)) →
      jg E m_X11_sentence d 79 [some (jm_R 133), some (jm_I 0)] [] m8 Q) ∧
     (¬ (m2 133 7 = 0) →
      jc E m_X11_bad d [jm_R 133, jm_I 1] m2 (fun (o : Option jm_V) (m9 : jm_M) => ∀ r10 : Int, o = some (jm_I r10) → (r10 = 0 ∨ r10 = 1) →
      Q (some (jm_I (jm_wr (((-1)) - (m9 133 11))))) m9)))) ∧
   (¬ (r3 ≠ 0) →
    Q (some (jm_I (jm_wr (((-1)) - (m2 133 11))))) m2))))) : jc E m_X11_sentence (d + 1) [jm_R 133] μ Q := by
  refine jm_Cl.of2 (by decide +kernel) (L0 := [some (jm_R 133), none]) rfl (Nat.le_of_ble_eq_true rfl) (fun hok => ?_)
  have h := h hok
  refine jm_aloadn d_X11_sentence_0 rfl ?_
  refine jm_sipush (v := 200) d_X11_sentence_1 rfl (jm_okI (by decide) (by decide)) ?_
  refine jm_invV (n1 := jm_N) (mc := 0) (ms := 0) (av := [jm_I _]) w_X11_begin l_X11_236 d_X11_sentence_4 rfl is_133 ⟨_, _, rfl⟩ ⟨Nat.le_refl _, Nat.le_refl _⟩ (Nat.le_of_ble_eq_true rfl) rfl ?_
  refine jm_Cl.mono h (fun o m1 h hr _ => ?_)
  obtain rfl := jm_rokV hr
  have h := h rfl
  refine jm_aloadn d_X11_sentence_7 rfl ?_
  refine jm_iconst (v := 0) d_X11_sentence_8 rfl (jm_okI (by decide) (by decide)) ?_
  refine jm_putI (k := 54) (ki := 54) cf_X11 (Nat.le_of_ble_eq_true rfl) f_X11_390 d_X11_sentence_9 (fun z => absurd z (by decide)) rfl rfl rfl (fun _ => rfl) is_133 ?_
  refine jm_aloadn d_X11_sentence_12 rfl ?_
  refine jm_iconst (v := 0) d_X11_sentence_13 rfl (jm_okI (by decide) (by decide)) ?_
  refine jm_putI (k := 55) (ki := 55) cf_X11 (Nat.le_of_ble_eq_true rfl) f_X11_405 d_X11_sentence_14 (fun z => absurd z (by decide)) rfl rfl rfl (fun _ => rfl) is_133 ?_
  refine jm_aloadn d_X11_sentence_17 rfl ?_
  refine jm_iconst (v := 0) d_X11_sentence_18 rfl (jm_okI (by decide) (by decide)) ?_
  refine jm_putI (k := 56) (ki := 56) cf_X11 (Nat.le_of_ble_eq_true rfl) f_X11_408 d_X11_sentence_19 (fun z => absurd z (by decide)) rfl rfl rfl (fun _ => rfl) is_133 ?_
  refine jm_aloadn d_X11_sentence_22 rfl ?_
  refine jm_invV (n1 := jm_N) (mc := 0) (ms := 0) (av := []) w_X11_readOr l_X11_423 d_X11_sentence_23 rfl is_133 ⟨_, _, rfl⟩ ⟨Nat.le_refl _, Nat.le_refl _⟩ (Nat.le_of_ble_eq_true rfl) rfl ?_
  refine jm_Cl.mono h (fun o m2 h hr _ => ?_)
  obtain ⟨r3, rfl, z4⟩ := jm_rokZ hr
  have h := h _ rfl z4
  refine jm_if_ne (tgt := 36) d_X11_sentence_26 (by decide) (fun c5 => ?_) (fun c5 => ?_)
  · have h := h.1 c5
    refine jm_aloadn d_X11_sentence_36 rfl ?_
    refine jm_getI (k := 7) (ki := 7) cf_X11 (Nat.le_of_ble_eq_true rfl) f_X11_128 d_X11_sentence_37 rfl rfl is_133 rfl ?_
    refine jm_if_eq (tgt := 56) d_X11_sentence_40 (by decide) (fun c6 => ?_) (fun c6 => ?_)
    · have h := h.1 c6
      refine jm_aloadn d_X11_sentence_56 rfl ?_
      refine jm_getF (k := 14) (ki := 14) rfl cf_X11 (Nat.le_of_ble_eq_true rfl) f_X11_13 d_X11_sentence_57 rfl rfl is_133 fr_133_14 ?_
      refine jm_sipush (v := 910) d_X11_sentence_60 rfl (jm_okI (by decide) (by decide)) ?_
      refine jm_iconst (v := 1) d_X11_sentence_63 rfl (jm_okI (by decide) (by decide)) ?_
      refine jm_iastore d_X11_sentence_64 (ixl_135 (by decide) (by decide)) ?_
      have h := h _ rfl
      refine jm_aloadn d_X11_sentence_65 rfl ?_
      refine jm_getF (k := 14) (ki := 14) rfl cf_X11 (Nat.le_of_ble_eq_true rfl) f_X11_13 d_X11_sentence_66 rfl rfl is_133 fr_133_14 ?_
      refine jm_sipush (v := 911) d_X11_sentence_69 rfl (jm_okI (by decide) (by decide)) ?_
      refine jm_aloadn d_X11_sentence_72 rfl ?_
      refine jm_getI (k := 57) (ki := 57) cf_X11 (Nat.le_of_ble_eq_true rfl) f_X11_396 d_X11_sentence_73 rfl rfl is_133 rfl ?_
      refine jm_iastore d_X11_sentence_76 (ixl_135 (by decide) (by decide)) ?_
      have h := h _ rfl
      refine jm_iconst (v := 0) d_X11_sentence_77 rfl (jm_okI (by decide) (by decide)) ?_
      refine jm_istoren (L' := [some (jm_R _), some (jm_I _)]) d_X11_sentence_78 (Nat.le_of_ble_eq_true rfl) rfl ?_
      exact h
    · have h := h.2 c6
      refine jm_aloadn d_X11_sentence_43 rfl ?_
      refine jm_iconst (v := 1) d_X11_sentence_44 rfl (jm_okI (by decide) (by decide)) ?_
      refine jm_invV (n1 := jm_N) (mc := 0) (ms := 0) (av := [jm_I _]) w_X11_bad l_X11_174 d_X11_sentence_45 rfl is_133 ⟨_, _, rfl⟩ ⟨Nat.le_refl _, Nat.le_refl _⟩ (Nat.le_of_ble_eq_true rfl) rfl ?_
      refine jm_Cl.mono h (fun o m9 h hr _ => ?_)
      obtain ⟨r10, rfl, z11⟩ := jm_rokZ hr
      have h := h _ rfl z11
      refine jm_pop rfl d_X11_sentence_48 ?_
      refine jm_iconst (v := (-1)) d_X11_sentence_49 rfl (jm_okI (by decide) (by decide)) ?_
      refine jm_aloadn d_X11_sentence_50 rfl ?_
      refine jm_getI (k := 11) (ki := 11) cf_X11 (Nat.le_of_ble_eq_true rfl) f_X11_171 d_X11_sentence_51 rfl rfl is_133 rfl ?_
      refine jm_isub d_X11_sentence_54 ?_
      exact jm_ret (o := some (jm_I _)) d_X11_sentence_55 rfl ⟨Nat.le_refl _, Nat.le_refl _⟩ jm_r_I h rfl
  · have h := h.2 c5
    refine jm_iconst (v := (-1)) d_X11_sentence_29 rfl (jm_okI (by decide) (by decide)) ?_
    refine jm_aloadn d_X11_sentence_30 rfl ?_
    refine jm_getI (k := 11) (ki := 11) cf_X11 (Nat.le_of_ble_eq_true rfl) f_X11_171 d_X11_sentence_31 rfl rfl is_133 rfl ?_
    refine jm_isub d_X11_sentence_34 ?_
    exact jm_ret (o := some (jm_I _)) d_X11_sentence_35 rfl ⟨Nat.le_refl _, Nat.le_refl _⟩ jm_r_I h rfl
set_option maxRecDepth 20000 in
theorem r_X11_sentence_79 {E : jm_E} {d : Nat} {μ : jm_M} {Q : Option jm_V → jm_M → Prop} {v1 : Int} (h :
  ((240 ≤ v1 →
    Q (some (jm_I (μ 133 55))) μ) ∧
   (¬ (240 ≤ v1) →
    (0 ≤ v1 ∧ v1 < 240) ∧
    (0 ≤ jm_wr (912 + v1) ∧ jm_wr (912 + v1) < 1152) ∧
    ∀ m4 : jm_M, m4 = (jm_up μ 135 (jm_wr (912 + v1)) (μ 163 v1)) →
    jg E m_X11_sentence d 79 [some (jm_R 133), some (jm_I (jm_wr (v1 + 1)))] [] m4 Q))) : jg E m_X11_sentence d 79 [some (jm_R 133), some (jm_I v1)] [] μ Q := by
  refine jm_iloadn d_X11_sentence_79 rfl ?_
  refine jm_sipush (v := 240) d_X11_sentence_80 rfl (jm_okI (by decide) (by decide)) ?_
  refine jm_icmp_ge (tgt := 108) d_X11_sentence_83 (by decide) (fun c1 => ?_) (fun c1 => ?_)
  · have h := h.1 c1
    refine jm_aloadn d_X11_sentence_108 rfl ?_
    refine jm_getI (k := 55) (ki := 55) cf_X11 (Nat.le_of_ble_eq_true rfl) f_X11_405 d_X11_sentence_109 rfl rfl is_133 rfl ?_
    exact jm_ret (o := some (jm_I _)) d_X11_sentence_112 rfl ⟨Nat.le_refl _, Nat.le_refl _⟩ jm_r_I h rfl
  · have h := h.2 c1
    refine jm_aloadn d_X11_sentence_86 rfl ?_
    refine jm_getF (k := 14) (ki := 14) rfl cf_X11 (Nat.le_of_ble_eq_true rfl) f_X11_13 d_X11_sentence_87 rfl rfl is_133 fr_133_14 ?_
    refine jm_sipush (v := 912) d_X11_sentence_90 rfl (jm_okI (by decide) (by decide)) ?_
    refine jm_iloadn d_X11_sentence_93 rfl ?_
    refine jm_iadd d_X11_sentence_94 ?_
    refine jm_aloadn d_X11_sentence_95 rfl ?_
    refine jm_getF (k := 53) (ki := 53) rfl cf_X11 (Nat.le_of_ble_eq_true rfl) f_X11_103 d_X11_sentence_96 rfl rfl is_133 fr_133_53 ?_
    refine jm_iloadn d_X11_sentence_99 rfl ?_
    obtain ⟨f2, h⟩ := h
    refine jm_iaload d_X11_sentence_100 (ixl_163 f2.1 f2.2) ?_
    obtain ⟨f3, h⟩ := h
    refine jm_iastore d_X11_sentence_101 (ixl_135 f3.1 f3.2) ?_
    have h := h _ rfl
    refine jm_iinc (L' := [some (jm_R _), some (jm_I _)]) d_X11_sentence_102 rfl rfl (Nat.le_of_ble_eq_true rfl) rfl ?_
    refine jm_goto (tgt := 79) d_X11_sentence_105 (by decide) ?_
    exact h
/-! ('CombTableModel', 'valueOf', '(II)I') -/
theorem d_X11_valueOf_0 : decode m_X11_valueOf.2.1 0 = .ok (.iload_n 1, 1) := by decide +kernel
theorem d_X11_valueOf_1 : decode m_X11_valueOf.2.1 1 = .ok (.bipush 50, 2) := by decide +kernel
theorem d_X11_valueOf_3 : decode m_X11_valueOf.2.1 3 = .ok (.isub, 1) := by decide +kernel
theorem d_X11_valueOf_4 : decode m_X11_valueOf.2.1 4 = .ok (.istore_n 3, 1) := by decide +kernel
theorem d_X11_valueOf_5 : decode m_X11_valueOf.2.1 5 = .ok (.iload_n 3, 1) := by decide +kernel
theorem d_X11_valueOf_6 : decode m_X11_valueOf.2.1 6 = .ok (.bipush 21, 2) := by decide +kernel
theorem d_X11_valueOf_8 : decode m_X11_valueOf.2.1 8 = .ok (.if_icmp .ne 7, 3) := by decide +kernel
theorem d_X11_valueOf_11 : decode m_X11_valueOf.2.1 11 = .ok (.iload_n 2, 1) := by decide +kernel
theorem d_X11_valueOf_12 : decode m_X11_valueOf.2.1 12 = .ok (.goto 39, 3) := by decide +kernel
theorem d_X11_valueOf_15 : decode m_X11_valueOf.2.1 15 = .ok (.iload_n 3, 1) := by decide +kernel
theorem d_X11_valueOf_16 : decode m_X11_valueOf.2.1 16 = .ok (.bipush 22, 2) := by decide +kernel
theorem d_X11_valueOf_18 : decode m_X11_valueOf.2.1 18 = .ok (.if_icmp .ne 12, 3) := by decide +kernel
theorem d_X11_valueOf_21 : decode m_X11_valueOf.2.1 21 = .ok (.aload_n 0, 1) := by decide +kernel
theorem d_X11_valueOf_22 : decode m_X11_valueOf.2.1 22 = .ok (.getfield 51, 3) := by decide +kernel
theorem d_X11_valueOf_25 : decode m_X11_valueOf.2.1 25 = .ok (.iload_n 2, 1) := by decide +kernel
theorem d_X11_valueOf_26 : decode m_X11_valueOf.2.1 26 = .ok (.iaload, 1) := by decide +kernel
theorem d_X11_valueOf_27 : decode m_X11_valueOf.2.1 27 = .ok (.goto 24, 3) := by decide +kernel
theorem d_X11_valueOf_30 : decode m_X11_valueOf.2.1 30 = .ok (.iload_n 3, 1) := by decide +kernel
theorem d_X11_valueOf_31 : decode m_X11_valueOf.2.1 31 = .ok (.bipush 23, 2) := by decide +kernel
theorem d_X11_valueOf_33 : decode m_X11_valueOf.2.1 33 = .ok (.if_icmp .ne 12, 3) := by decide +kernel
theorem d_X11_valueOf_36 : decode m_X11_valueOf.2.1 36 = .ok (.aload_n 0, 1) := by decide +kernel
theorem d_X11_valueOf_37 : decode m_X11_valueOf.2.1 37 = .ok (.getfield 54, 3) := by decide +kernel
theorem d_X11_valueOf_40 : decode m_X11_valueOf.2.1 40 = .ok (.iload_n 2, 1) := by decide +kernel
theorem d_X11_valueOf_41 : decode m_X11_valueOf.2.1 41 = .ok (.iaload, 1) := by decide +kernel
theorem d_X11_valueOf_42 : decode m_X11_valueOf.2.1 42 = .ok (.goto 9, 3) := by decide +kernel
theorem d_X11_valueOf_45 : decode m_X11_valueOf.2.1 45 = .ok (.aload_n 0, 1) := by decide +kernel
theorem d_X11_valueOf_46 : decode m_X11_valueOf.2.1 46 = .ok (.iconst 0, 1) := by decide +kernel
theorem d_X11_valueOf_47 : decode m_X11_valueOf.2.1 47 = .ok (.iload_n 2, 1) := by decide +kernel
theorem d_X11_valueOf_48 : decode m_X11_valueOf.2.1 48 = .ok (.invokevirtual 289, 3) := by decide +kernel
theorem d_X11_valueOf_51 : decode m_X11_valueOf.2.1 51 = .ok (.ireturn, 1) := by decide +kernel
set_option maxRecDepth 20000 in
theorem e_X11_valueOf {E : jm_E} {d : Nat} {μ : jm_M} {Q : Option jm_V → jm_M → Prop} {v1 v2 : Int} (h : (∀ v ∈ ([jm_R 133, jm_I v1, jm_I v2] : List jm_V), jm_ok v) →
  ∀ x1 : Int, x1 = jm_wr (v1 - 50) →
  ((x1 ≠ 21 →
    ((x1 ≠ 22 →
      ((x1 ≠ 23 →
        jc E m_X11_stateOf d [jm_R 133, jm_I 0, jm_I v2] μ (fun (o : Option jm_V) (m5 : jm_M) => ∀ r6 : Int, o = some (jm_I r6) →
        Q (some (jm_I r6)) m5)) ∧
       (¬ (x1 ≠ 23) →
        (0 ≤ v2 ∧ v2 < 800) ∧
        Q (some (jm_I (μ 148 v2))) μ))) ∧
     (¬ (x1 ≠ 22) →
      (0 ≤ v2 ∧ v2 < 800) ∧
      Q (some (jm_I (μ 147 v2))) μ))) ∧
   (¬ (x1 ≠ 21) →
    Q (some (jm_I v2)) μ))) : jc E m_X11_valueOf (d + 1) [jm_R 133, jm_I v1, jm_I v2] μ Q := by
  refine jm_Cl.of2 (by decide +kernel) (L0 := [some (jm_R 133), some (jm_I v1), some (jm_I v2), none]) rfl (Nat.le_of_ble_eq_true rfl) (fun hok => ?_)
  have h := h hok
  refine jm_iloadn d_X11_valueOf_0 rfl ?_
  refine jm_bipush (v := 50) d_X11_valueOf_1 rfl (jm_okI (by decide) (by decide)) ?_
  refine jm_isub d_X11_valueOf_3 ?_
  have h := h _ rfl
  refine jm_istoren (L' := [some (jm_R _), some (jm_I _), some (jm_I _), some (jm_I _)]) d_X11_valueOf_4 (Nat.le_of_ble_eq_true rfl) rfl ?_
  refine jm_iloadn d_X11_valueOf_5 rfl ?_
  refine jm_bipush (v := 21) d_X11_valueOf_6 rfl (jm_okI (by decide) (by decide)) ?_
  refine jm_icmp_ne (tgt := 15) d_X11_valueOf_8 (by decide) (fun c2 => ?_) (fun c2 => ?_)
  · have h := h.1 c2
    refine jm_iloadn d_X11_valueOf_15 rfl ?_
    refine jm_bipush (v := 22) d_X11_valueOf_16 rfl (jm_okI (by decide) (by decide)) ?_
    refine jm_icmp_ne (tgt := 30) d_X11_valueOf_18 (by decide) (fun c3 => ?_) (fun c3 => ?_)
    · have h := h.1 c3
      refine jm_iloadn d_X11_valueOf_30 rfl ?_
      refine jm_bipush (v := 23) d_X11_valueOf_31 rfl (jm_okI (by decide) (by decide)) ?_
      refine jm_icmp_ne (tgt := 45) d_X11_valueOf_33 (by decide) (fun c4 => ?_) (fun c4 => ?_)
      · have h := h.1 c4
        refine jm_aloadn d_X11_valueOf_45 rfl ?_
        refine jm_iconst (v := 0) d_X11_valueOf_46 rfl (jm_okI (by decide) (by decide)) ?_
        refine jm_iloadn d_X11_valueOf_47 rfl ?_
        refine jm_invV (n1 := jm_N) (mc := 0) (ms := 0) (av := [jm_I _, jm_I _]) w_X11_stateOf l_X11_289 d_X11_valueOf_48 rfl is_133 ⟨_, _, rfl⟩ ⟨Nat.le_refl _, Nat.le_refl _⟩ (Nat.le_of_ble_eq_true rfl) rfl ?_
        refine jm_Cl.mono h (fun o m5 h hr _ => ?_)
        obtain ⟨r6, rfl⟩ := jm_rokI hr
        have h := h _ rfl
        exact jm_ret (o := some (jm_I _)) d_X11_valueOf_51 rfl ⟨Nat.le_refl _, Nat.le_refl _⟩ jm_r_I h rfl
      · have h := h.2 c4
        refine jm_aloadn d_X11_valueOf_36 rfl ?_
        refine jm_getF (k := 27) (ki := 27) rfl cf_X11 (Nat.le_of_ble_eq_true rfl) f_X11_54 d_X11_valueOf_37 rfl rfl is_133 fr_133_27 ?_
        refine jm_iloadn d_X11_valueOf_40 rfl ?_
        obtain ⟨f7, h⟩ := h
        refine jm_iaload d_X11_valueOf_41 (ixl_148 f7.1 f7.2) ?_
        refine jm_goto (tgt := 51) d_X11_valueOf_42 (by decide) ?_
        exact jm_ret (o := some (jm_I _)) d_X11_valueOf_51 rfl ⟨Nat.le_refl _, Nat.le_refl _⟩ jm_r_I h rfl
    · have h := h.2 c3
      refine jm_aloadn d_X11_valueOf_21 rfl ?_
      refine jm_getF (k := 26) (ki := 26) rfl cf_X11 (Nat.le_of_ble_eq_true rfl) f_X11_51 d_X11_valueOf_22 rfl rfl is_133 fr_133_26 ?_
      refine jm_iloadn d_X11_valueOf_25 rfl ?_
      obtain ⟨f8, h⟩ := h
      refine jm_iaload d_X11_valueOf_26 (ixl_147 f8.1 f8.2) ?_
      refine jm_goto (tgt := 51) d_X11_valueOf_27 (by decide) ?_
      exact jm_ret (o := some (jm_I _)) d_X11_valueOf_51 rfl ⟨Nat.le_refl _, Nat.le_refl _⟩ jm_r_I h rfl
  · have h := h.2 c2
    refine jm_iloadn d_X11_valueOf_11 rfl ?_
    refine jm_goto (tgt := 51) d_X11_valueOf_12 (by decide) ?_
    exact jm_ret (o := some (jm_I _)) d_X11_valueOf_51 rfl ⟨Nat.le_refl _, Nat.le_refl _⟩ jm_r_I h rfl
/-! ('CombTableModel', 'holds', '(II)Z') -/
theorem d_X11_holds_0 : decode m_X11_holds.2.1 0 = .ok (.sipush 912, 3) := by decide +kernel
theorem d_X11_holds_3 : decode m_X11_holds.2.1 3 = .ok (.iconst 4, 1) := by decide +kernel
theorem d_X11_holds_4 : decode m_X11_holds.2.1 4 = .ok (.iload_n 1, 1) := by decide +kernel
theorem d_X11_holds_5 : decode m_X11_holds.2.1 5 = .ok (.imul, 1) := by decide +kernel
theorem d_X11_holds_6 : decode m_X11_holds.2.1 6 = .ok (.iadd, 1) := by decide +kernel
theorem d_X11_holds_7 : decode m_X11_holds.2.1 7 = .ok (.istore_n 3, 1) := by decide +kernel
theorem d_X11_holds_8 : decode m_X11_holds.2.1 8 = .ok (.aload_n 0, 1) := by decide +kernel
theorem d_X11_holds_9 : decode m_X11_holds.2.1 9 = .ok (.getfield 13, 3) := by decide +kernel
theorem d_X11_holds_12 : decode m_X11_holds.2.1 12 = .ok (.iload_n 3, 1) := by decide +kernel
theorem d_X11_holds_13 : decode m_X11_holds.2.1 13 = .ok (.iconst 1, 1) := by decide +kernel
theorem d_X11_holds_14 : decode m_X11_holds.2.1 14 = .ok (.iadd, 1) := by decide +kernel
theorem d_X11_holds_15 : decode m_X11_holds.2.1 15 = .ok (.iaload, 1) := by decide +kernel
theorem d_X11_holds_16 : decode m_X11_holds.2.1 16 = .ok (.istore 4, 2) := by decide +kernel
theorem d_X11_holds_18 : decode m_X11_holds.2.1 18 = .ok (.aload_n 0, 1) := by decide +kernel
theorem d_X11_holds_19 : decode m_X11_holds.2.1 19 = .ok (.getfield 13, 3) := by decide +kernel
theorem d_X11_holds_22 : decode m_X11_holds.2.1 22 = .ok (.iload_n 3, 1) := by decide +kernel
theorem d_X11_holds_23 : decode m_X11_holds.2.1 23 = .ok (.iconst 2, 1) := by decide +kernel
theorem d_X11_holds_24 : decode m_X11_holds.2.1 24 = .ok (.iadd, 1) := by decide +kernel
theorem d_X11_holds_25 : decode m_X11_holds.2.1 25 = .ok (.iaload, 1) := by decide +kernel
theorem d_X11_holds_26 : decode m_X11_holds.2.1 26 = .ok (.istore 5, 2) := by decide +kernel
theorem d_X11_holds_28 : decode m_X11_holds.2.1 28 = .ok (.aload_n 0, 1) := by decide +kernel
theorem d_X11_holds_29 : decode m_X11_holds.2.1 29 = .ok (.getfield 13, 3) := by decide +kernel
theorem d_X11_holds_32 : decode m_X11_holds.2.1 32 = .ok (.iload_n 3, 1) := by decide +kernel
theorem d_X11_holds_33 : decode m_X11_holds.2.1 33 = .ok (.iaload, 1) := by decide +kernel
theorem d_X11_holds_34 : decode m_X11_holds.2.1 34 = .ok (.tableswitch 172 1 6 #[38, 54, 80, 106, 123, 155], 38) := by decide +kernel
theorem d_X11_holds_72 : decode m_X11_holds.2.1 72 = .ok (.aload_n 0, 1) := by decide +kernel
theorem d_X11_holds_73 : decode m_X11_holds.2.1 73 = .ok (.iload 4, 2) := by decide +kernel
theorem d_X11_holds_75 : decode m_X11_holds.2.1 75 = .ok (.iload_n 2, 1) := by decide +kernel
theorem d_X11_holds_76 : decode m_X11_holds.2.1 76 = .ok (.invokevirtual 426, 3) := by decide +kernel
theorem d_X11_holds_79 : decode m_X11_holds.2.1 79 = .ok (.ifCond .ne 7, 3) := by decide +kernel
theorem d_X11_holds_82 : decode m_X11_holds.2.1 82 = .ok (.iconst 1, 1) := by decide +kernel
theorem d_X11_holds_83 : decode m_X11_holds.2.1 83 = .ok (.goto 4, 3) := by decide +kernel
theorem d_X11_holds_86 : decode m_X11_holds.2.1 86 = .ok (.iconst 0, 1) := by decide +kernel
theorem d_X11_holds_87 : decode m_X11_holds.2.1 87 = .ok (.ireturn, 1) := by decide +kernel
theorem d_X11_holds_88 : decode m_X11_holds.2.1 88 = .ok (.aload_n 0, 1) := by decide +kernel
theorem d_X11_holds_89 : decode m_X11_holds.2.1 89 = .ok (.iload 4, 2) := by decide +kernel
theorem d_X11_holds_91 : decode m_X11_holds.2.1 91 = .ok (.iload_n 2, 1) := by decide +kernel
theorem d_X11_holds_92 : decode m_X11_holds.2.1 92 = .ok (.invokevirtual 426, 3) := by decide +kernel
theorem d_X11_holds_95 : decode m_X11_holds.2.1 95 = .ok (.ifCond .eq 17, 3) := by decide +kernel
theorem d_X11_holds_98 : decode m_X11_holds.2.1 98 = .ok (.aload_n 0, 1) := by decide +kernel
theorem d_X11_holds_99 : decode m_X11_holds.2.1 99 = .ok (.iload 5, 2) := by decide +kernel
theorem d_X11_holds_101 : decode m_X11_holds.2.1 101 = .ok (.iload_n 2, 1) := by decide +kernel
theorem d_X11_holds_102 : decode m_X11_holds.2.1 102 = .ok (.invokevirtual 426, 3) := by decide +kernel
theorem d_X11_holds_105 : decode m_X11_holds.2.1 105 = .ok (.ifCond .eq 7, 3) := by decide +kernel
theorem d_X11_holds_108 : decode m_X11_holds.2.1 108 = .ok (.iconst 1, 1) := by decide +kernel
theorem d_X11_holds_109 : decode m_X11_holds.2.1 109 = .ok (.goto 4, 3) := by decide +kernel
theorem d_X11_holds_112 : decode m_X11_holds.2.1 112 = .ok (.iconst 0, 1) := by decide +kernel
theorem d_X11_holds_113 : decode m_X11_holds.2.1 113 = .ok (.ireturn, 1) := by decide +kernel
theorem d_X11_holds_114 : decode m_X11_holds.2.1 114 = .ok (.aload_n 0, 1) := by decide +kernel
theorem d_X11_holds_115 : decode m_X11_holds.2.1 115 = .ok (.iload 4, 2) := by decide +kernel
theorem d_X11_holds_117 : decode m_X11_holds.2.1 117 = .ok (.iload_n 2, 1) := by decide +kernel
theorem d_X11_holds_118 : decode m_X11_holds.2.1 118 = .ok (.invokevirtual 426, 3) := by decide +kernel
theorem d_X11_holds_121 : decode m_X11_holds.2.1 121 = .ok (.ifCond .ne 13, 3) := by decide +kernel
theorem d_X11_holds_124 : decode m_X11_holds.2.1 124 = .ok (.aload_n 0, 1) := by decide +kernel
theorem d_X11_holds_125 : decode m_X11_holds.2.1 125 = .ok (.iload 5, 2) := by decide +kernel
theorem d_X11_holds_127 : decode m_X11_holds.2.1 127 = .ok (.iload_n 2, 1) := by decide +kernel
theorem d_X11_holds_128 : decode m_X11_holds.2.1 128 = .ok (.invokevirtual 426, 3) := by decide +kernel
theorem d_X11_holds_131 : decode m_X11_holds.2.1 131 = .ok (.ifCond .eq 7, 3) := by decide +kernel
theorem d_X11_holds_134 : decode m_X11_holds.2.1 134 = .ok (.iconst 1, 1) := by decide +kernel
theorem d_X11_holds_135 : decode m_X11_holds.2.1 135 = .ok (.goto 4, 3) := by decide +kernel
theorem d_X11_holds_138 : decode m_X11_holds.2.1 138 = .ok (.iconst 0, 1) := by decide +kernel
theorem d_X11_holds_139 : decode m_X11_holds.2.1 139 = .ok (.ireturn, 1) := by decide +kernel
theorem d_X11_holds_140 : decode m_X11_holds.2.1 140 = .ok (.aload_n 0, 1) := by decide +kernel
theorem d_X11_holds_141 : decode m_X11_holds.2.1 141 = .ok (.getfield 42, 3) := by decide +kernel
theorem d_X11_holds_144 : decode m_X11_holds.2.1 144 = .ok (.iload_n 2, 1) := by decide +kernel
theorem d_X11_holds_145 : decode m_X11_holds.2.1 145 = .ok (.iaload, 1) := by decide +kernel
theorem d_X11_holds_146 : decode m_X11_holds.2.1 146 = .ok (.iload 4, 2) := by decide +kernel
theorem d_X11_holds_148 : decode m_X11_holds.2.1 148 = .ok (.if_icmp .ne 7, 3) := by decide +kernel
theorem d_X11_holds_151 : decode m_X11_holds.2.1 151 = .ok (.iconst 1, 1) := by decide +kernel
theorem d_X11_holds_152 : decode m_X11_holds.2.1 152 = .ok (.goto 4, 3) := by decide +kernel
theorem d_X11_holds_155 : decode m_X11_holds.2.1 155 = .ok (.iconst 0, 1) := by decide +kernel
theorem d_X11_holds_156 : decode m_X11_holds.2.1 156 = .ok (.ireturn, 1) := by decide +kernel
theorem d_X11_holds_157 : decode m_X11_holds.2.1 157 = .ok (.aload_n 0, 1) := by decide +kernel
theorem d_X11_holds_158 : decode m_X11_holds.2.1 158 = .ok (.getfield 48, 3) := by decide +kernel
theorem d_X11_holds_161 : decode m_X11_holds.2.1 161 = .ok (.iload_n 2, 1) := by decide +kernel
theorem d_X11_holds_162 : decode m_X11_holds.2.1 162 = .ok (.iaload, 1) := by decide +kernel
theorem d_X11_holds_163 : decode m_X11_holds.2.1 163 = .ok (.iconst (-1), 1) := by decide +kernel
theorem d_X11_holds_164 : decode m_X11_holds.2.1 164 = .ok (.if_icmp .eq 23, 3) := by decide +kernel
theorem d_X11_holds_167 : decode m_X11_holds.2.1 167 = .ok (.aload_n 0, 1) := by decide +kernel
theorem d_X11_holds_168 : decode m_X11_holds.2.1 168 = .ok (.getfield 42, 3) := by decide +kernel
theorem d_X11_holds_171 : decode m_X11_holds.2.1 171 = .ok (.aload_n 0, 1) := by decide +kernel
theorem d_X11_holds_172 : decode m_X11_holds.2.1 172 = .ok (.getfield 48, 3) := by decide +kernel
theorem d_X11_holds_175 : decode m_X11_holds.2.1 175 = .ok (.iload_n 2, 1) := by decide +kernel
theorem d_X11_holds_176 : decode m_X11_holds.2.1 176 = .ok (.iaload, 1) := by decide +kernel
theorem d_X11_holds_177 : decode m_X11_holds.2.1 177 = .ok (.iaload, 1) := by decide +kernel
theorem d_X11_holds_178 : decode m_X11_holds.2.1 178 = .ok (.iload 4, 2) := by decide +kernel
theorem d_X11_holds_180 : decode m_X11_holds.2.1 180 = .ok (.if_icmp .ne 7, 3) := by decide +kernel
theorem d_X11_holds_183 : decode m_X11_holds.2.1 183 = .ok (.iconst 1, 1) := by decide +kernel
theorem d_X11_holds_184 : decode m_X11_holds.2.1 184 = .ok (.goto 4, 3) := by decide +kernel
theorem d_X11_holds_187 : decode m_X11_holds.2.1 187 = .ok (.iconst 0, 1) := by decide +kernel
theorem d_X11_holds_188 : decode m_X11_holds.2.1 188 = .ok (.ireturn, 1) := by decide +kernel
theorem d_X11_holds_189 : decode m_X11_holds.2.1 189 = .ok (.aload_n 0, 1) := by decide +kernel
theorem d_X11_holds_190 : decode m_X11_holds.2.1 190 = .ok (.getfield 45, 3) := by decide +kernel
theorem d_X11_holds_193 : decode m_X11_holds.2.1 193 = .ok (.iload_n 2, 1) := by decide +kernel
theorem d_X11_holds_194 : decode m_X11_holds.2.1 194 = .ok (.iaload, 1) := by decide +kernel
theorem d_X11_holds_195 : decode m_X11_holds.2.1 195 = .ok (.iload 4, 2) := by decide +kernel
theorem d_X11_holds_197 : decode m_X11_holds.2.1 197 = .ok (.if_icmp .ne 7, 3) := by decide +kernel
theorem d_X11_holds_200 : decode m_X11_holds.2.1 200 = .ok (.iconst 1, 1) := by decide +kernel
theorem d_X11_holds_201 : decode m_X11_holds.2.1 201 = .ok (.goto 4, 3) := by decide +kernel
theorem d_X11_holds_204 : decode m_X11_holds.2.1 204 = .ok (.iconst 0, 1) := by decide +kernel
theorem d_X11_holds_205 : decode m_X11_holds.2.1 205 = .ok (.ireturn, 1) := by decide +kernel
theorem d_X11_holds_206 : decode m_X11_holds.2.1 206 = .ok (.aload_n 0, 1) := by decide +kernel
theorem d_X11_holds_207 : decode m_X11_holds.2.1 207 = .ok (.aload_n 0, 1) := by decide +kernel
theorem d_X11_holds_208 : decode m_X11_holds.2.1 208 = .ok (.getfield 13, 3) := by decide +kernel
theorem d_X11_holds_211 : decode m_X11_holds.2.1 211 = .ok (.iload_n 3, 1) := by decide +kernel
theorem d_X11_holds_212 : decode m_X11_holds.2.1 212 = .ok (.iaload, 1) := by decide +kernel
theorem d_X11_holds_213 : decode m_X11_holds.2.1 213 = .ok (.iload_n 2, 1) := by decide +kernel
theorem d_X11_holds_214 : decode m_X11_holds.2.1 214 = .ok (.invokevirtual 429, 3) := by decide +kernel
theorem d_X11_holds_217 : decode m_X11_holds.2.1 217 = .ok (.istore 6, 2) := by decide +kernel
theorem d_X11_holds_219 : decode m_X11_holds.2.1 219 = .ok (.aload_n 0, 1) := by decide +kernel
theorem d_X11_holds_220 : decode m_X11_holds.2.1 220 = .ok (.getfield 13, 3) := by decide +kernel
theorem d_X11_holds_223 : decode m_X11_holds.2.1 223 = .ok (.iload_n 3, 1) := by decide +kernel
theorem d_X11_holds_224 : decode m_X11_holds.2.1 224 = .ok (.iconst 3, 1) := by decide +kernel
theorem d_X11_holds_225 : decode m_X11_holds.2.1 225 = .ok (.iadd, 1) := by decide +kernel
theorem d_X11_holds_226 : decode m_X11_holds.2.1 226 = .ok (.iaload, 1) := by decide +kernel
theorem d_X11_holds_227 : decode m_X11_holds.2.1 227 = .ok (.bipush 60, 2) := by decide +kernel
theorem d_X11_holds_229 : decode m_X11_holds.2.1 229 = .ok (.if_icmp .ne 18, 3) := by decide +kernel
theorem d_X11_holds_232 : decode m_X11_holds.2.1 232 = .ok (.iload 6, 2) := by decide +kernel
theorem d_X11_holds_234 : decode m_X11_holds.2.1 234 = .ok (.iload 5, 2) := by decide +kernel
theorem d_X11_holds_236 : decode m_X11_holds.2.1 236 = .ok (.if_icmp .ge 7, 3) := by decide +kernel
theorem d_X11_holds_239 : decode m_X11_holds.2.1 239 = .ok (.iconst 1, 1) := by decide +kernel
theorem d_X11_holds_240 : decode m_X11_holds.2.1 240 = .ok (.goto 47, 3) := by decide +kernel
theorem d_X11_holds_243 : decode m_X11_holds.2.1 243 = .ok (.iconst 0, 1) := by decide +kernel
theorem d_X11_holds_244 : decode m_X11_holds.2.1 244 = .ok (.goto 43, 3) := by decide +kernel
theorem d_X11_holds_247 : decode m_X11_holds.2.1 247 = .ok (.aload_n 0, 1) := by decide +kernel
theorem d_X11_holds_248 : decode m_X11_holds.2.1 248 = .ok (.getfield 13, 3) := by decide +kernel
theorem d_X11_holds_251 : decode m_X11_holds.2.1 251 = .ok (.iload_n 3, 1) := by decide +kernel
theorem d_X11_holds_252 : decode m_X11_holds.2.1 252 = .ok (.iconst 3, 1) := by decide +kernel
theorem d_X11_holds_253 : decode m_X11_holds.2.1 253 = .ok (.iadd, 1) := by decide +kernel
theorem d_X11_holds_254 : decode m_X11_holds.2.1 254 = .ok (.iaload, 1) := by decide +kernel
theorem d_X11_holds_255 : decode m_X11_holds.2.1 255 = .ok (.bipush 61, 2) := by decide +kernel
theorem d_X11_holds_257 : decode m_X11_holds.2.1 257 = .ok (.if_icmp .ne 18, 3) := by decide +kernel
theorem d_X11_holds_260 : decode m_X11_holds.2.1 260 = .ok (.iload 6, 2) := by decide +kernel
theorem d_X11_holds_262 : decode m_X11_holds.2.1 262 = .ok (.iload 5, 2) := by decide +kernel
theorem d_X11_holds_264 : decode m_X11_holds.2.1 264 = .ok (.if_icmp .ne 7, 3) := by decide +kernel
theorem d_X11_holds_267 : decode m_X11_holds.2.1 267 = .ok (.iconst 1, 1) := by decide +kernel
theorem d_X11_holds_268 : decode m_X11_holds.2.1 268 = .ok (.goto 19, 3) := by decide +kernel
theorem d_X11_holds_271 : decode m_X11_holds.2.1 271 = .ok (.iconst 0, 1) := by decide +kernel
theorem d_X11_holds_272 : decode m_X11_holds.2.1 272 = .ok (.goto 15, 3) := by decide +kernel
theorem d_X11_holds_275 : decode m_X11_holds.2.1 275 = .ok (.iload 6, 2) := by decide +kernel
theorem d_X11_holds_277 : decode m_X11_holds.2.1 277 = .ok (.iload 5, 2) := by decide +kernel
theorem d_X11_holds_279 : decode m_X11_holds.2.1 279 = .ok (.if_icmp .le 7, 3) := by decide +kernel
theorem d_X11_holds_282 : decode m_X11_holds.2.1 282 = .ok (.iconst 1, 1) := by decide +kernel
theorem d_X11_holds_283 : decode m_X11_holds.2.1 283 = .ok (.goto 4, 3) := by decide +kernel
theorem d_X11_holds_286 : decode m_X11_holds.2.1 286 = .ok (.iconst 0, 1) := by decide +kernel
theorem d_X11_holds_287 : decode m_X11_holds.2.1 287 = .ok (.ireturn, 1) := by decide +kernel
set_option maxRecDepth 20000 in
theorem e_X11_holds {E : jm_E} {d : Nat} {μ : jm_M} {Q : Option jm_V → jm_M → Prop} {v1 v2 : Int} (h : (∀ v ∈ ([jm_R 133, jm_I v1, jm_I v2] : List jm_V), jm_ok v) →
  ∀ x1 : Int, x1 = jm_wr (912 + (jm_wr (4 * v1))) →
  (0 ≤ jm_wr (x1 + 1) ∧ jm_wr (x1 + 1) < 1152) ∧
  ∀ x3 : Int, x3 = μ 135 (jm_wr (x1 + 1)) →
  (0 ≤ jm_wr (x1 + 2) ∧ jm_wr (x1 + 2) < 1152) ∧
  ∀ x5 : Int, x5 = μ 135 (jm_wr (x1 + 2)) →
  (0 ≤ x1 ∧ x1 < 1152) ∧
  ∀ x7 : Int, x7 = μ 135 x1 →
  ((x7 = 1 →
    jc E m_X11_holds d [jm_R 133, jm_I x3, jm_I v2] μ (fun (o : Option jm_V) (m9 : jm_M) => ∀ r10 : Int, o = some (jm_I r10) → (r10 = 0 ∨ r10 = 1) →
    ((r10 ≠ 0 →
      Q (some (jm_I 0)) m9) ∧
     (¬ (r10 ≠ 0) →
      Q (some (jm_I 1)) m9)))) ∧
   (¬ (x7 = 1) →
    ((x7 = 2 →
      jc E m_X11_holds d [jm_R 133, jm_I x3, jm_I v2] μ (fun (o : Option jm_V) (m14 : jm_M) => ∀ r15 : Int, o = some (jm_I r15) → (r15 = 0 ∨ r15 = 1) →
      ((r15 = 0 →
        Q (some (jm_I 0)) m14) ∧
       (¬ (r15 = 0) →
        jc E m_X11_holds d [jm_R 133, jm_I x5, jm_I v2] m14 (fun (o : Option jm_V) (m18 : jm_M) => ∀ r19 : Int, o = some (jm_I r19) → (r19 = 0 ∨ r19 = 1) →
        ((r19 = 0 →
          Q (some (jm_I 0)) m18) ∧
         (¬ (r19 = 0) →
          Q (some (jm_I 1)) m18))))))) ∧
     (¬ (x7 = 2) →
      ((x7 = 3 →
        jc E m_X11_holds d [jm_R 133, jm_I x3, jm_I v2] μ (fun (o : Option jm_V) (m23 : jm_M) => ∀ r24 : Int, o = some (jm_I r24) → (r24 = 0 ∨ r24 = 1) →
        ((r24 ≠ 0 →
          Q (some (jm_I 1)) m23) ∧
         (¬ (r24 ≠ 0) →
          jc E m_X11_holds d [jm_R 133, jm_I x5, jm_I v2] m23 (fun (o : Option jm_V) (m27 : jm_M) => ∀ r28 : Int, o = some (jm_I r28) → (r28 = 0 ∨ r28 = 1) →
          ((r28 = 0 →
            Q (some (jm_I 0)) m27) ∧
           (¬ (r28 = 0) →
            Q (some (jm_I 1)) m27))))))) ∧
       (¬ (x7 = 3) →
        ((x7 = 4 →
          (0 ≤ v2 ∧ v2 < 800) ∧
          ((μ 144 v2 ≠ x3 →
            Q (some (jm_I 0)) μ) ∧
           (¬ (μ 144 v2 ≠ x3) →
            Q (some (jm_I 1)) μ))) ∧
         (¬ (x7 = 4) →
          ((x7 = 5 →
            (0 ≤ v2 ∧ v2 < 800) ∧
            ((μ 146 v2 = ((-1)) →
              Q (some (jm_I 0)) μ) ∧
             (¬ (μ 146 v2 = ((-1))) →
              (0 ≤ μ 146 v2 ∧ μ 146 v2 < 800) ∧
              (((μ 144 (μ 146 v2)) ≠ x3 →
                Q (some (jm_I 0)) μ) ∧
               (¬ ((μ 144 (μ 146 v2)) ≠ x3) →
                Q (some (jm_I 1)) μ))))) ∧
           (¬ (x7 = 5) →
            ((x7 = 6 →
              (0 ≤ v2 ∧ v2 < 800) ∧
              ((μ 145 v2 ≠ x3 →
                Q (some (jm_I 0)) μ) ∧
               (¬ (μ 145 v2 ≠ x3) →
                Q (some (jm_I 1)) μ))) ∧
             (¬ (x7 = 6) →
              jc E m_X11_valueOf d [jm_R 133, jm_I (μ 135 x1), jm_I v2] μ (fun (o : Option jm_V) (m42 : jm_M) => ∀ r43 : Int, o = some (jm_I r43) →
              (0 ≤ jm_wr (x1 + 3) ∧ jm_wr (x1 + 3) < 1152) ∧
              (((m42 135 (jm_wr (x1 + 3))) ≠ 60 →
                (((m42 135 (jm_wr (x1 + 3))) ≠ 61 →
                  ((r43 ≤ x5 →
                    Q (some (jm_I 0)) m42) ∧
                   (¬ (r43 ≤ x5) →
                    Q (some (jm_I 1)) m42))) ∧
                 (¬ ((m42 135 (jm_wr (x1 + 3))) ≠ 61) →
                  ((r43 ≠ x5 →
                    Q (some (jm_I 0)) m42) ∧
                   (¬ (r43 ≠ x5) →
                    Q (some (jm_I 1)) m42))))) ∧
               (¬ ((m42 135 (jm_wr (x1 + 3))) ≠ 60) →
                ((x5 ≤ r43 →
                  Q (some (jm_I 0)) m42) ∧
                 (¬ (x5 ≤ r43) →
                  Q (some (jm_I 1)) m42)))))))))))))))))) : jc E m_X11_holds (d + 1) [jm_R 133, jm_I v1, jm_I v2] μ Q := by
  refine jm_Cl.of2 (by decide +kernel) (L0 := [some (jm_R 133), some (jm_I v1), some (jm_I v2), none, none, none, none]) rfl (Nat.le_of_ble_eq_true rfl) (fun hok => ?_)
  have h := h hok
  refine jm_sipush (v := 912) d_X11_holds_0 rfl (jm_okI (by decide) (by decide)) ?_
  refine jm_iconst (v := 4) d_X11_holds_3 rfl (jm_okI (by decide) (by decide)) ?_
  refine jm_iloadn d_X11_holds_4 rfl ?_
  refine jm_imul d_X11_holds_5 ?_
  refine jm_iadd d_X11_holds_6 ?_
  have h := h _ rfl
  refine jm_istoren (L' := [some (jm_R _), some (jm_I _), some (jm_I _), some (jm_I _), none, none, none]) d_X11_holds_7 (Nat.le_of_ble_eq_true rfl) rfl ?_
  refine jm_aloadn d_X11_holds_8 rfl ?_
  refine jm_getF (k := 14) (ki := 14) rfl cf_X11 (Nat.le_of_ble_eq_true rfl) f_X11_13 d_X11_holds_9 rfl rfl is_133 fr_133_14 ?_
  refine jm_iloadn d_X11_holds_12 rfl ?_
  refine jm_iconst (v := 1) d_X11_holds_13 rfl (jm_okI (by decide) (by decide)) ?_
  refine jm_iadd d_X11_holds_14 ?_
  obtain ⟨f2, h⟩ := h
  refine jm_iaload d_X11_holds_15 (ixl_135 f2.1 f2.2) ?_
  have h := h _ rfl
  refine jm_istore (L' := [some (jm_R _), some (jm_I _), some (jm_I _), some (jm_I _), some (jm_I _), none, none]) d_X11_holds_16 (Nat.le_of_ble_eq_true rfl) rfl ?_
  refine jm_aloadn d_X11_holds_18 rfl ?_
  refine jm_getF (k := 14) (ki := 14) rfl cf_X11 (Nat.le_of_ble_eq_true rfl) f_X11_13 d_X11_holds_19 rfl rfl is_133 fr_133_14 ?_
  refine jm_iloadn d_X11_holds_22 rfl ?_
  refine jm_iconst (v := 2) d_X11_holds_23 rfl (jm_okI (by decide) (by decide)) ?_
  refine jm_iadd d_X11_holds_24 ?_
  obtain ⟨f4, h⟩ := h
  refine jm_iaload d_X11_holds_25 (ixl_135 f4.1 f4.2) ?_
  have h := h _ rfl
  refine jm_istore (L' := [some (jm_R _), some (jm_I _), some (jm_I _), some (jm_I _), some (jm_I _), some (jm_I _), none]) d_X11_holds_26 (Nat.le_of_ble_eq_true rfl) rfl ?_
  refine jm_aloadn d_X11_holds_28 rfl ?_
  refine jm_getF (k := 14) (ki := 14) rfl cf_X11 (Nat.le_of_ble_eq_true rfl) f_X11_13 d_X11_holds_29 rfl rfl is_133 fr_133_14 ?_
  refine jm_iloadn d_X11_holds_32 rfl ?_
  obtain ⟨f6, h⟩ := h
  refine jm_iaload d_X11_holds_33 (ixl_135 f6.1 f6.2) ?_
  refine jm_nmI (fun x7 hx7 => ?_)
  have h := h _ hx7
  by_cases c8 : x7 = 1
  · have h := h.1 c8
    refine jm_table (tgt := 72) (off := 38) d_X11_holds_34 (by rw [c8]; decide) (by rw [c8]; decide) (by rw [c8]; rfl) (by decide) ?_
    refine jm_aloadn d_X11_holds_72 rfl ?_
    refine jm_iload d_X11_holds_73 rfl ?_
    refine jm_iloadn d_X11_holds_75 rfl ?_
    refine jm_invV (n1 := jm_N) (mc := 0) (ms := 0) (av := [jm_I _, jm_I _]) w_X11_holds l_X11_426 d_X11_holds_76 rfl is_133 ⟨_, _, rfl⟩ ⟨Nat.le_refl _, Nat.le_refl _⟩ (Nat.le_of_ble_eq_true rfl) rfl ?_
    refine jm_Cl.mono h (fun o m9 h hr _ => ?_)
    obtain ⟨r10, rfl, z11⟩ := jm_rokZ hr
    have h := h _ rfl z11
    refine jm_if_ne (tgt := 86) d_X11_holds_79 (by decide) (fun c12 => ?_) (fun c12 => ?_)
    · have h := h.1 c12
      refine jm_iconst (v := 0) d_X11_holds_86 rfl (jm_okI (by decide) (by decide)) ?_
      exact jm_ret (o := some (jm_I _)) d_X11_holds_87 rfl ⟨Nat.le_refl _, Nat.le_refl _⟩ (jm_r_Z (by decide)) h rfl
    · have h := h.2 c12
      refine jm_iconst (v := 1) d_X11_holds_82 rfl (jm_okI (by decide) (by decide)) ?_
      refine jm_goto (tgt := 87) d_X11_holds_83 (by decide) ?_
      exact jm_ret (o := some (jm_I _)) d_X11_holds_87 rfl ⟨Nat.le_refl _, Nat.le_refl _⟩ (jm_r_Z (by decide)) h rfl
  · have h := h.2 c8
    by_cases c13 : x7 = 2
    · have h := h.1 c13
      refine jm_table (tgt := 88) (off := 54) d_X11_holds_34 (by rw [c13]; decide) (by rw [c13]; decide) (by rw [c13]; rfl) (by decide) ?_
      refine jm_aloadn d_X11_holds_88 rfl ?_
      refine jm_iload d_X11_holds_89 rfl ?_
      refine jm_iloadn d_X11_holds_91 rfl ?_
      refine jm_invV (n1 := jm_N) (mc := 0) (ms := 0) (av := [jm_I _, jm_I _]) w_X11_holds l_X11_426 d_X11_holds_92 rfl is_133 ⟨_, _, rfl⟩ ⟨Nat.le_refl _, Nat.le_refl _⟩ (Nat.le_of_ble_eq_true rfl) rfl ?_
      refine jm_Cl.mono h (fun o m14 h hr _ => ?_)
      obtain ⟨r15, rfl, z16⟩ := jm_rokZ hr
      have h := h _ rfl z16
      refine jm_if_eq (tgt := 112) d_X11_holds_95 (by decide) (fun c17 => ?_) (fun c17 => ?_)
      · have h := h.1 c17
        refine jm_iconst (v := 0) d_X11_holds_112 rfl (jm_okI (by decide) (by decide)) ?_
        exact jm_ret (o := some (jm_I _)) d_X11_holds_113 rfl ⟨Nat.le_refl _, Nat.le_refl _⟩ (jm_r_Z (by decide)) h rfl
      · have h := h.2 c17
        refine jm_aloadn d_X11_holds_98 rfl ?_
        refine jm_iload d_X11_holds_99 rfl ?_
        refine jm_iloadn d_X11_holds_101 rfl ?_
        refine jm_invV (n1 := jm_N) (mc := 0) (ms := 0) (av := [jm_I _, jm_I _]) w_X11_holds l_X11_426 d_X11_holds_102 rfl is_133 ⟨_, _, rfl⟩ ⟨Nat.le_refl _, Nat.le_refl _⟩ (Nat.le_of_ble_eq_true rfl) rfl ?_
        refine jm_Cl.mono h (fun o m18 h hr _ => ?_)
        obtain ⟨r19, rfl, z20⟩ := jm_rokZ hr
        have h := h _ rfl z20
        refine jm_if_eq (tgt := 112) d_X11_holds_105 (by decide) (fun c21 => ?_) (fun c21 => ?_)
        · have h := h.1 c21
          refine jm_iconst (v := 0) d_X11_holds_112 rfl (jm_okI (by decide) (by decide)) ?_
          exact jm_ret (o := some (jm_I _)) d_X11_holds_113 rfl ⟨Nat.le_refl _, Nat.le_refl _⟩ (jm_r_Z (by decide)) h rfl
        · have h := h.2 c21
          refine jm_iconst (v := 1) d_X11_holds_108 rfl (jm_okI (by decide) (by decide)) ?_
          refine jm_goto (tgt := 113) d_X11_holds_109 (by decide) ?_
          exact jm_ret (o := some (jm_I _)) d_X11_holds_113 rfl ⟨Nat.le_refl _, Nat.le_refl _⟩ (jm_r_Z (by decide)) h rfl
    · have h := h.2 c13
      by_cases c22 : x7 = 3
      · have h := h.1 c22
        refine jm_table (tgt := 114) (off := 80) d_X11_holds_34 (by rw [c22]; decide) (by rw [c22]; decide) (by rw [c22]; rfl) (by decide) ?_
        refine jm_aloadn d_X11_holds_114 rfl ?_
        refine jm_iload d_X11_holds_115 rfl ?_
        refine jm_iloadn d_X11_holds_117 rfl ?_
        refine jm_invV (n1 := jm_N) (mc := 0) (ms := 0) (av := [jm_I _, jm_I _]) w_X11_holds l_X11_426 d_X11_holds_118 rfl is_133 ⟨_, _, rfl⟩ ⟨Nat.le_refl _, Nat.le_refl _⟩ (Nat.le_of_ble_eq_true rfl) rfl ?_
        refine jm_Cl.mono h (fun o m23 h hr _ => ?_)
        obtain ⟨r24, rfl, z25⟩ := jm_rokZ hr
        have h := h _ rfl z25
        refine jm_if_ne (tgt := 134) d_X11_holds_121 (by decide) (fun c26 => ?_) (fun c26 => ?_)
        · have h := h.1 c26
          refine jm_iconst (v := 1) d_X11_holds_134 rfl (jm_okI (by decide) (by decide)) ?_
          refine jm_goto (tgt := 139) d_X11_holds_135 (by decide) ?_
          exact jm_ret (o := some (jm_I _)) d_X11_holds_139 rfl ⟨Nat.le_refl _, Nat.le_refl _⟩ (jm_r_Z (by decide)) h rfl
        · have h := h.2 c26
          refine jm_aloadn d_X11_holds_124 rfl ?_
          refine jm_iload d_X11_holds_125 rfl ?_
          refine jm_iloadn d_X11_holds_127 rfl ?_
          refine jm_invV (n1 := jm_N) (mc := 0) (ms := 0) (av := [jm_I _, jm_I _]) w_X11_holds l_X11_426 d_X11_holds_128 rfl is_133 ⟨_, _, rfl⟩ ⟨Nat.le_refl _, Nat.le_refl _⟩ (Nat.le_of_ble_eq_true rfl) rfl ?_
          refine jm_Cl.mono h (fun o m27 h hr _ => ?_)
          obtain ⟨r28, rfl, z29⟩ := jm_rokZ hr
          have h := h _ rfl z29
          refine jm_if_eq (tgt := 138) d_X11_holds_131 (by decide) (fun c30 => ?_) (fun c30 => ?_)
          · have h := h.1 c30
            refine jm_iconst (v := 0) d_X11_holds_138 rfl (jm_okI (by decide) (by decide)) ?_
            exact jm_ret (o := some (jm_I _)) d_X11_holds_139 rfl ⟨Nat.le_refl _, Nat.le_refl _⟩ (jm_r_Z (by decide)) h rfl
          · have h := h.2 c30
            refine jm_iconst (v := 1) d_X11_holds_134 rfl (jm_okI (by decide) (by decide)) ?_
            refine jm_goto (tgt := 139) d_X11_holds_135 (by decide) ?_
            exact jm_ret (o := some (jm_I _)) d_X11_holds_139 rfl ⟨Nat.le_refl _, Nat.le_refl _⟩ (jm_r_Z (by decide)) h rfl
      · have h := h.2 c22
        by_cases c31 : x7 = 4
        · have h := h.1 c31
          refine jm_table (tgt := 140) (off := 106) d_X11_holds_34 (by rw [c31]; decide) (by rw [c31]; decide) (by rw [c31]; rfl) (by decide) ?_
          refine jm_aloadn d_X11_holds_140 rfl ?_
          refine jm_getF (k := 23) (ki := 23) rfl cf_X11 (Nat.le_of_ble_eq_true rfl) f_X11_42 d_X11_holds_141 rfl rfl is_133 fr_133_23 ?_
          refine jm_iloadn d_X11_holds_144 rfl ?_
          obtain ⟨f32, h⟩ := h
          refine jm_iaload d_X11_holds_145 (ixl_144 f32.1 f32.2) ?_
          refine jm_iload d_X11_holds_146 rfl ?_
          refine jm_icmp_ne (tgt := 155) d_X11_holds_148 (by decide) (fun c33 => ?_) (fun c33 => ?_)
          · have h := h.1 c33
            refine jm_iconst (v := 0) d_X11_holds_155 rfl (jm_okI (by decide) (by decide)) ?_
            exact jm_ret (o := some (jm_I _)) d_X11_holds_156 rfl ⟨Nat.le_refl _, Nat.le_refl _⟩ (jm_r_Z (by decide)) h rfl
          · have h := h.2 c33
            refine jm_iconst (v := 1) d_X11_holds_151 rfl (jm_okI (by decide) (by decide)) ?_
            refine jm_goto (tgt := 156) d_X11_holds_152 (by decide) ?_
            exact jm_ret (o := some (jm_I _)) d_X11_holds_156 rfl ⟨Nat.le_refl _, Nat.le_refl _⟩ (jm_r_Z (by decide)) h rfl
        · have h := h.2 c31
          by_cases c34 : x7 = 5
          · have h := h.1 c34
            refine jm_table (tgt := 157) (off := 123) d_X11_holds_34 (by rw [c34]; decide) (by rw [c34]; decide) (by rw [c34]; rfl) (by decide) ?_
            refine jm_aloadn d_X11_holds_157 rfl ?_
            refine jm_getF (k := 25) (ki := 25) rfl cf_X11 (Nat.le_of_ble_eq_true rfl) f_X11_48 d_X11_holds_158 rfl rfl is_133 fr_133_25 ?_
            refine jm_iloadn d_X11_holds_161 rfl ?_
            obtain ⟨f35, h⟩ := h
            refine jm_iaload d_X11_holds_162 (ixl_146 f35.1 f35.2) ?_
            refine jm_iconst (v := (-1)) d_X11_holds_163 rfl (jm_okI (by decide) (by decide)) ?_
            refine jm_icmp_eq (tgt := 187) d_X11_holds_164 (by decide) (fun c36 => ?_) (fun c36 => ?_)
            · have h := h.1 c36
              refine jm_iconst (v := 0) d_X11_holds_187 rfl (jm_okI (by decide) (by decide)) ?_
              exact jm_ret (o := some (jm_I _)) d_X11_holds_188 rfl ⟨Nat.le_refl _, Nat.le_refl _⟩ (jm_r_Z (by decide)) h rfl
            · have h := h.2 c36
              refine jm_aloadn d_X11_holds_167 rfl ?_
              refine jm_getF (k := 23) (ki := 23) rfl cf_X11 (Nat.le_of_ble_eq_true rfl) f_X11_42 d_X11_holds_168 rfl rfl is_133 fr_133_23 ?_
              refine jm_aloadn d_X11_holds_171 rfl ?_
              refine jm_getF (k := 25) (ki := 25) rfl cf_X11 (Nat.le_of_ble_eq_true rfl) f_X11_48 d_X11_holds_172 rfl rfl is_133 fr_133_25 ?_
              refine jm_iloadn d_X11_holds_175 rfl ?_
              refine jm_iaload d_X11_holds_176 (ixl_146 f35.1 f35.2) ?_
              obtain ⟨f37, h⟩ := h
              refine jm_iaload d_X11_holds_177 (ixl_144 f37.1 f37.2) ?_
              refine jm_iload d_X11_holds_178 rfl ?_
              refine jm_icmp_ne (tgt := 187) d_X11_holds_180 (by decide) (fun c38 => ?_) (fun c38 => ?_)
              · have h := h.1 c38
                refine jm_iconst (v := 0) d_X11_holds_187 rfl (jm_okI (by decide) (by decide)) ?_
                exact jm_ret (o := some (jm_I _)) d_X11_holds_188 rfl ⟨Nat.le_refl _, Nat.le_refl _⟩ (jm_r_Z (by decide)) h rfl
              · have h := h.2 c38
                refine jm_iconst (v := 1) d_X11_holds_183 rfl (jm_okI (by decide) (by decide)) ?_
                refine jm_goto (tgt := 188) d_X11_holds_184 (by decide) ?_
                exact jm_ret (o := some (jm_I _)) d_X11_holds_188 rfl ⟨Nat.le_refl _, Nat.le_refl _⟩ (jm_r_Z (by decide)) h rfl
          · have h := h.2 c34
            by_cases c39 : x7 = 6
            · have h := h.1 c39
              refine jm_table (tgt := 189) (off := 155) d_X11_holds_34 (by rw [c39]; decide) (by rw [c39]; decide) (by rw [c39]; rfl) (by decide) ?_
              refine jm_aloadn d_X11_holds_189 rfl ?_
              refine jm_getF (k := 24) (ki := 24) rfl cf_X11 (Nat.le_of_ble_eq_true rfl) f_X11_45 d_X11_holds_190 rfl rfl is_133 fr_133_24 ?_
              refine jm_iloadn d_X11_holds_193 rfl ?_
              obtain ⟨f40, h⟩ := h
              refine jm_iaload d_X11_holds_194 (ixl_145 f40.1 f40.2) ?_
              refine jm_iload d_X11_holds_195 rfl ?_
              refine jm_icmp_ne (tgt := 204) d_X11_holds_197 (by decide) (fun c41 => ?_) (fun c41 => ?_)
              · have h := h.1 c41
                refine jm_iconst (v := 0) d_X11_holds_204 rfl (jm_okI (by decide) (by decide)) ?_
                exact jm_ret (o := some (jm_I _)) d_X11_holds_205 rfl ⟨Nat.le_refl _, Nat.le_refl _⟩ (jm_r_Z (by decide)) h rfl
              · have h := h.2 c41
                refine jm_iconst (v := 1) d_X11_holds_200 rfl (jm_okI (by decide) (by decide)) ?_
                refine jm_goto (tgt := 205) d_X11_holds_201 (by decide) ?_
                exact jm_ret (o := some (jm_I _)) d_X11_holds_205 rfl ⟨Nat.le_refl _, Nat.le_refl _⟩ (jm_r_Z (by decide)) h rfl
            · have h := h.2 c39
              refine jm_tableD (tgt := 206) d_X11_holds_34 (jm_tb2 (jm_tb1 (jm_tb1 (jm_tb1 (jm_tb1 (jm_tb1 (jm_tb1 (jm_tb0 1) c8) c13) c22) c31) c34) c39) rfl) (by decide) ?_
              refine jm_aloadn d_X11_holds_206 rfl ?_
              refine jm_aloadn d_X11_holds_207 rfl ?_
              refine jm_getF (k := 14) (ki := 14) rfl cf_X11 (Nat.le_of_ble_eq_true rfl) f_X11_13 d_X11_holds_208 rfl rfl is_133 fr_133_14 ?_
              refine jm_iloadn d_X11_holds_211 rfl ?_
              refine jm_iaload d_X11_holds_212 (ixl_135 f6.1 f6.2) ?_
              refine jm_iloadn d_X11_holds_213 rfl ?_
              refine jm_invV (n1 := jm_N) (mc := 0) (ms := 0) (av := [jm_I _, jm_I _]) w_X11_valueOf l_X11_429 d_X11_holds_214 rfl is_133 ⟨_, _, rfl⟩ ⟨Nat.le_refl _, Nat.le_refl _⟩ (Nat.le_of_ble_eq_true rfl) rfl ?_
              refine jm_Cl.mono h (fun o m42 h hr _ => ?_)
              obtain ⟨r43, rfl⟩ := jm_rokI hr
              have h := h _ rfl
              refine jm_istore (L' := [some (jm_R _), some (jm_I _), some (jm_I _), some (jm_I _), some (jm_I _), some (jm_I _), some (jm_I _)]) d_X11_holds_217 (Nat.le_of_ble_eq_true rfl) rfl ?_
              refine jm_aloadn d_X11_holds_219 rfl ?_
              refine jm_getF (k := 14) (ki := 14) rfl cf_X11 (Nat.le_of_ble_eq_true rfl) f_X11_13 d_X11_holds_220 rfl rfl is_133 fr_133_14 ?_
              refine jm_iloadn d_X11_holds_223 rfl ?_
              refine jm_iconst (v := 3) d_X11_holds_224 rfl (jm_okI (by decide) (by decide)) ?_
              refine jm_iadd d_X11_holds_225 ?_
              obtain ⟨f44, h⟩ := h
              refine jm_iaload d_X11_holds_226 (ixl_135 f44.1 f44.2) ?_
              refine jm_bipush (v := 60) d_X11_holds_227 rfl (jm_okI (by decide) (by decide)) ?_
              refine jm_icmp_ne (tgt := 247) d_X11_holds_229 (by decide) (fun c45 => ?_) (fun c45 => ?_)
              · have h := h.1 c45
                refine jm_aloadn d_X11_holds_247 rfl ?_
                refine jm_getF (k := 14) (ki := 14) rfl cf_X11 (Nat.le_of_ble_eq_true rfl) f_X11_13 d_X11_holds_248 rfl rfl is_133 fr_133_14 ?_
                refine jm_iloadn d_X11_holds_251 rfl ?_
                refine jm_iconst (v := 3) d_X11_holds_252 rfl (jm_okI (by decide) (by decide)) ?_
                refine jm_iadd d_X11_holds_253 ?_
                refine jm_iaload d_X11_holds_254 (ixl_135 f44.1 f44.2) ?_
                refine jm_bipush (v := 61) d_X11_holds_255 rfl (jm_okI (by decide) (by decide)) ?_
                refine jm_icmp_ne (tgt := 275) d_X11_holds_257 (by decide) (fun c46 => ?_) (fun c46 => ?_)
                · have h := h.1 c46
                  refine jm_iload d_X11_holds_275 rfl ?_
                  refine jm_iload d_X11_holds_277 rfl ?_
                  refine jm_icmp_le (tgt := 286) d_X11_holds_279 (by decide) (fun c47 => ?_) (fun c47 => ?_)
                  · have h := h.1 c47
                    refine jm_iconst (v := 0) d_X11_holds_286 rfl (jm_okI (by decide) (by decide)) ?_
                    exact jm_ret (o := some (jm_I _)) d_X11_holds_287 rfl ⟨Nat.le_refl _, Nat.le_refl _⟩ (jm_r_Z (by decide)) h rfl
                  · have h := h.2 c47
                    refine jm_iconst (v := 1) d_X11_holds_282 rfl (jm_okI (by decide) (by decide)) ?_
                    refine jm_goto (tgt := 287) d_X11_holds_283 (by decide) ?_
                    exact jm_ret (o := some (jm_I _)) d_X11_holds_287 rfl ⟨Nat.le_refl _, Nat.le_refl _⟩ (jm_r_Z (by decide)) h rfl
                · have h := h.2 c46
                  refine jm_iload d_X11_holds_260 rfl ?_
                  refine jm_iload d_X11_holds_262 rfl ?_
                  refine jm_icmp_ne (tgt := 271) d_X11_holds_264 (by decide) (fun c48 => ?_) (fun c48 => ?_)
                  · have h := h.1 c48
                    refine jm_iconst (v := 0) d_X11_holds_271 rfl (jm_okI (by decide) (by decide)) ?_
                    refine jm_goto (tgt := 287) d_X11_holds_272 (by decide) ?_
                    exact jm_ret (o := some (jm_I _)) d_X11_holds_287 rfl ⟨Nat.le_refl _, Nat.le_refl _⟩ (jm_r_Z (by decide)) h rfl
                  · have h := h.2 c48
                    refine jm_iconst (v := 1) d_X11_holds_267 rfl (jm_okI (by decide) (by decide)) ?_
                    refine jm_goto (tgt := 287) d_X11_holds_268 (by decide) ?_
                    exact jm_ret (o := some (jm_I _)) d_X11_holds_287 rfl ⟨Nat.le_refl _, Nat.le_refl _⟩ (jm_r_Z (by decide)) h rfl
              · have h := h.2 c45
                refine jm_iload d_X11_holds_232 rfl ?_
                refine jm_iload d_X11_holds_234 rfl ?_
                refine jm_icmp_ge (tgt := 243) d_X11_holds_236 (by decide) (fun c49 => ?_) (fun c49 => ?_)
                · have h := h.1 c49
                  refine jm_iconst (v := 0) d_X11_holds_243 rfl (jm_okI (by decide) (by decide)) ?_
                  refine jm_goto (tgt := 287) d_X11_holds_244 (by decide) ?_
                  exact jm_ret (o := some (jm_I _)) d_X11_holds_287 rfl ⟨Nat.le_refl _, Nat.le_refl _⟩ (jm_r_Z (by decide)) h rfl
                · have h := h.2 c49
                  refine jm_iconst (v := 1) d_X11_holds_239 rfl (jm_okI (by decide) (by decide)) ?_
                  refine jm_goto (tgt := 287) d_X11_holds_240 (by decide) ?_
                  exact jm_ret (o := some (jm_I _)) d_X11_holds_287 rfl ⟨Nat.le_refl _, Nat.le_refl _⟩ (jm_r_Z (by decide)) h rfl
/-! ('CombTableModel', 'said', '(I)I') -/
theorem d_X11_said_0 : decode m_X11_said.2.1 0 = .ok (.aload_n 0, 1) := by decide +kernel
theorem d_X11_said_1 : decode m_X11_said.2.1 1 = .ok (.iconst 0, 1) := by decide +kernel
theorem d_X11_said_2 : decode m_X11_said.2.1 2 = .ok (.putfield 106, 3) := by decide +kernel
theorem d_X11_said_5 : decode m_X11_said.2.1 5 = .ok (.aload_n 0, 1) := by decide +kernel
theorem d_X11_said_6 : decode m_X11_said.2.1 6 = .ok (.getfield 13, 3) := by decide +kernel
theorem d_X11_said_9 : decode m_X11_said.2.1 9 = .ok (.sipush 910, 3) := by decide +kernel
theorem d_X11_said_12 : decode m_X11_said.2.1 12 = .ok (.iaload, 1) := by decide +kernel
theorem d_X11_said_13 : decode m_X11_said.2.1 13 = .ok (.ifCond .ne 5, 3) := by decide +kernel
theorem d_X11_said_16 : decode m_X11_said.2.1 16 = .ok (.iconst (-1), 1) := by decide +kernel
theorem d_X11_said_17 : decode m_X11_said.2.1 17 = .ok (.ireturn, 1) := by decide +kernel
theorem d_X11_said_18 : decode m_X11_said.2.1 18 = .ok (.aload_n 0, 1) := by decide +kernel
theorem d_X11_said_19 : decode m_X11_said.2.1 19 = .ok (.invokevirtual 270, 3) := by decide +kernel
theorem d_X11_said_22 : decode m_X11_said.2.1 22 = .ok (.iconst 0, 1) := by decide +kernel
theorem d_X11_said_23 : decode m_X11_said.2.1 23 = .ok (.istore_n 2, 1) := by decide +kernel
theorem d_X11_said_24 : decode m_X11_said.2.1 24 = .ok (.iconst 0, 1) := by decide +kernel
theorem d_X11_said_25 : decode m_X11_said.2.1 25 = .ok (.istore_n 3, 1) := by decide +kernel
theorem d_X11_said_26 : decode m_X11_said.2.1 26 = .ok (.iload_n 3, 1) := by decide +kernel
theorem d_X11_said_27 : decode m_X11_said.2.1 27 = .ok (.aload_n 0, 1) := by decide +kernel
theorem d_X11_said_28 : decode m_X11_said.2.1 28 = .ok (.getfield 60, 3) := by decide +kernel
theorem d_X11_said_31 : decode m_X11_said.2.1 31 = .ok (.iconst 0, 1) := by decide +kernel
theorem d_X11_said_32 : decode m_X11_said.2.1 32 = .ok (.iaload, 1) := by decide +kernel
theorem d_X11_said_33 : decode m_X11_said.2.1 33 = .ok (.if_icmp .ge 38, 3) := by decide +kernel
theorem d_X11_said_36 : decode m_X11_said.2.1 36 = .ok (.aload_n 0, 1) := by decide +kernel
theorem d_X11_said_37 : decode m_X11_said.2.1 37 = .ok (.aload_n 0, 1) := by decide +kernel
theorem d_X11_said_38 : decode m_X11_said.2.1 38 = .ok (.getfield 13, 3) := by decide +kernel
theorem d_X11_said_41 : decode m_X11_said.2.1 41 = .ok (.sipush 911, 3) := by decide +kernel
theorem d_X11_said_44 : decode m_X11_said.2.1 44 = .ok (.iaload, 1) := by decide +kernel
theorem d_X11_said_45 : decode m_X11_said.2.1 45 = .ok (.iload_n 3, 1) := by decide +kernel
theorem d_X11_said_46 : decode m_X11_said.2.1 46 = .ok (.invokevirtual 426, 3) := by decide +kernel
theorem d_X11_said_49 : decode m_X11_said.2.1 49 = .ok (.ifCond .ne 6, 3) := by decide +kernel
theorem d_X11_said_52 : decode m_X11_said.2.1 52 = .ok (.goto 13, 3) := by decide +kernel
theorem d_X11_said_55 : decode m_X11_said.2.1 55 = .ok (.iload_n 2, 1) := by decide +kernel
theorem d_X11_said_56 : decode m_X11_said.2.1 56 = .ok (.iload_n 1, 1) := by decide +kernel
theorem d_X11_said_57 : decode m_X11_said.2.1 57 = .ok (.if_icmp .ne 5, 3) := by decide +kernel
theorem d_X11_said_60 : decode m_X11_said.2.1 60 = .ok (.iload_n 3, 1) := by decide +kernel
theorem d_X11_said_61 : decode m_X11_said.2.1 61 = .ok (.ireturn, 1) := by decide +kernel
theorem d_X11_said_62 : decode m_X11_said.2.1 62 = .ok (.iinc 2 1, 3) := by decide +kernel
theorem d_X11_said_65 : decode m_X11_said.2.1 65 = .ok (.iinc 3 1, 3) := by decide +kernel
theorem d_X11_said_68 : decode m_X11_said.2.1 68 = .ok (.goto (-42), 3) := by decide +kernel
theorem d_X11_said_71 : decode m_X11_said.2.1 71 = .ok (.iload_n 1, 1) := by decide +kernel
theorem d_X11_said_72 : decode m_X11_said.2.1 72 = .ok (.iconst (-1), 1) := by decide +kernel
theorem d_X11_said_73 : decode m_X11_said.2.1 73 = .ok (.if_icmp .ne 7, 3) := by decide +kernel
theorem d_X11_said_76 : decode m_X11_said.2.1 76 = .ok (.iload_n 2, 1) := by decide +kernel
theorem d_X11_said_77 : decode m_X11_said.2.1 77 = .ok (.goto 4, 3) := by decide +kernel
theorem d_X11_said_80 : decode m_X11_said.2.1 80 = .ok (.iconst (-1), 1) := by decide +kernel
theorem d_X11_said_81 : decode m_X11_said.2.1 81 = .ok (.ireturn, 1) := by decide +kernel
set_option maxRecDepth 20000 in
theorem e_X11_said {E : jm_E} {d : Nat} {μ : jm_M} {Q : Option jm_V → jm_M → Prop} {v1 : Int} (h : (∀ v ∈ ([jm_R 133, jm_I v1] : List jm_V), jm_ok v) →
  ((μ 135 910 ≠ 0 →
    jc E m_X11_lay d [jm_R 133] (jm_up μ 133 0 0) (fun (o : Option jm_V) (m2 : jm_M) => o = none →
    jg E m_X11_said d 26 [some (jm_R 133), some (jm_I v1), some (jm_I 0), some (jm_I 0)] [] m2 Q)) ∧
   (¬ (μ 135 910 ≠ 0) →
    Q (some (jm_I ((-1)))) (jm_up μ 133 0 0)))) : jc E m_X11_said (d + 1) [jm_R 133, jm_I v1] μ Q := by
  refine jm_Cl.of2 (by decide +kernel) (L0 := [some (jm_R 133), some (jm_I v1), none, none]) rfl (Nat.le_of_ble_eq_true rfl) (fun hok => ?_)
  have h := h hok
  refine jm_aloadn d_X11_said_0 rfl ?_
  refine jm_iconst (v := 0) d_X11_said_1 rfl (jm_okI (by decide) (by decide)) ?_
  refine jm_putI (k := 0) (ki := 0) cf_X11 (Nat.le_of_ble_eq_true rfl) f_X11_106 d_X11_said_2 (fun z => absurd z (by decide)) rfl rfl rfl (fun _ => rfl) is_133 ?_
  refine jm_aloadn d_X11_said_5 rfl ?_
  refine jm_getF (k := 14) (ki := 14) rfl cf_X11 (Nat.le_of_ble_eq_true rfl) f_X11_13 d_X11_said_6 rfl rfl is_133 fr_133_14 ?_
  refine jm_sipush (v := 910) d_X11_said_9 rfl (jm_okI (by decide) (by decide)) ?_
  refine jm_ialoadv d_X11_said_12 (ixl_135 (by decide) (by decide)) ((jm_up_i (by decide)).trans rfl) ?_
  refine jm_if_ne (tgt := 18) d_X11_said_13 (by decide) (fun c1 => ?_) (fun c1 => ?_)
  · have h := h.1 c1
    refine jm_aloadn d_X11_said_18 rfl ?_
    refine jm_invV (n1 := jm_N) (mc := 0) (ms := 0) (av := []) w_X11_lay l_X11_270 d_X11_said_19 rfl is_133 ⟨_, _, rfl⟩ ⟨Nat.le_refl _, Nat.le_refl _⟩ (Nat.le_of_ble_eq_true rfl) rfl ?_
    refine jm_Cl.mono h (fun o m2 h hr _ => ?_)
    obtain rfl := jm_rokV hr
    have h := h rfl
    refine jm_iconst (v := 0) d_X11_said_22 rfl (jm_okI (by decide) (by decide)) ?_
    refine jm_istoren (L' := [some (jm_R _), some (jm_I _), some (jm_I _), none]) d_X11_said_23 (Nat.le_of_ble_eq_true rfl) rfl ?_
    refine jm_iconst (v := 0) d_X11_said_24 rfl (jm_okI (by decide) (by decide)) ?_
    refine jm_istoren (L' := [some (jm_R _), some (jm_I _), some (jm_I _), some (jm_I _)]) d_X11_said_25 (Nat.le_of_ble_eq_true rfl) rfl ?_
    exact h
  · have h := h.2 c1
    refine jm_iconst (v := (-1)) d_X11_said_16 rfl (jm_okI (by decide) (by decide)) ?_
    exact jm_ret (o := some (jm_I _)) d_X11_said_17 rfl ⟨Nat.le_refl _, Nat.le_refl _⟩ jm_r_I h rfl
set_option maxRecDepth 20000 in
theorem r_X11_said_26 {E : jm_E} {d : Nat} {μ : jm_M} {Q : Option jm_V → jm_M → Prop} {v1 v2 v3 : Int} (h :
  ((μ 150 0 ≤ v3 →
    ((v1 ≠ ((-1)) →
      Q (some (jm_I ((-1)))) μ) ∧
     (¬ (v1 ≠ ((-1))) →
      Q (some (jm_I v2)) μ))) ∧
   (¬ (μ 150 0 ≤ v3) →
    jc E m_X11_holds d [jm_R 133, jm_I (μ 135 911), jm_I v3] μ (fun (o : Option jm_V) (m3 : jm_M) => ∀ r4 : Int, o = some (jm_I r4) → (r4 = 0 ∨ r4 = 1) →
    ((r4 ≠ 0 →
      ((v2 ≠ v1 →
        jg E m_X11_said d 26 [some (jm_R 133), some (jm_I v1), some (jm_I (jm_wr (v2 + 1))), some (jm_I (jm_wr (v3 + 1)))] [] m3 Q) ∧
       (¬ (v2 ≠ v1) →
        Q (some (jm_I v3)) m3))) ∧
     (¬ (r4 ≠ 0) →
      jg E m_X11_said d 26 [some (jm_R 133), some (jm_I v1), some (jm_I v2), some (jm_I (jm_wr (v3 + 1)))] [] m3 Q)))))) : jg E m_X11_said d 26 [some (jm_R 133), some (jm_I v1), some (jm_I v2), some (jm_I v3)] [] μ Q := by
  refine jm_iloadn d_X11_said_26 rfl ?_
  refine jm_aloadn d_X11_said_27 rfl ?_
  refine jm_getF (k := 29) (ki := 29) rfl cf_X11 (Nat.le_of_ble_eq_true rfl) f_X11_60 d_X11_said_28 rfl rfl is_133 fr_133_29 ?_
  refine jm_iconst (v := 0) d_X11_said_31 rfl (jm_okI (by decide) (by decide)) ?_
  refine jm_iaload d_X11_said_32 (ixl_150 (by decide) (by decide)) ?_
  refine jm_icmp_ge (tgt := 71) d_X11_said_33 (by decide) (fun c1 => ?_) (fun c1 => ?_)
  · have h := h.1 c1
    refine jm_iloadn d_X11_said_71 rfl ?_
    refine jm_iconst (v := (-1)) d_X11_said_72 rfl (jm_okI (by decide) (by decide)) ?_
    refine jm_icmp_ne (tgt := 80) d_X11_said_73 (by decide) (fun c2 => ?_) (fun c2 => ?_)
    · have h := h.1 c2
      refine jm_iconst (v := (-1)) d_X11_said_80 rfl (jm_okI (by decide) (by decide)) ?_
      exact jm_ret (o := some (jm_I _)) d_X11_said_81 rfl ⟨Nat.le_refl _, Nat.le_refl _⟩ jm_r_I h rfl
    · have h := h.2 c2
      refine jm_iloadn d_X11_said_76 rfl ?_
      refine jm_goto (tgt := 81) d_X11_said_77 (by decide) ?_
      exact jm_ret (o := some (jm_I _)) d_X11_said_81 rfl ⟨Nat.le_refl _, Nat.le_refl _⟩ jm_r_I h rfl
  · have h := h.2 c1
    refine jm_aloadn d_X11_said_36 rfl ?_
    refine jm_aloadn d_X11_said_37 rfl ?_
    refine jm_getF (k := 14) (ki := 14) rfl cf_X11 (Nat.le_of_ble_eq_true rfl) f_X11_13 d_X11_said_38 rfl rfl is_133 fr_133_14 ?_
    refine jm_sipush (v := 911) d_X11_said_41 rfl (jm_okI (by decide) (by decide)) ?_
    refine jm_iaload d_X11_said_44 (ixl_135 (by decide) (by decide)) ?_
    refine jm_iloadn d_X11_said_45 rfl ?_
    refine jm_invV (n1 := jm_N) (mc := 0) (ms := 0) (av := [jm_I _, jm_I _]) w_X11_holds l_X11_426 d_X11_said_46 rfl is_133 ⟨_, _, rfl⟩ ⟨Nat.le_refl _, Nat.le_refl _⟩ (Nat.le_of_ble_eq_true rfl) rfl ?_
    refine jm_Cl.mono h (fun o m3 h hr _ => ?_)
    obtain ⟨r4, rfl, z5⟩ := jm_rokZ hr
    have h := h _ rfl z5
    refine jm_if_ne (tgt := 55) d_X11_said_49 (by decide) (fun c6 => ?_) (fun c6 => ?_)
    · have h := h.1 c6
      refine jm_iloadn d_X11_said_55 rfl ?_
      refine jm_iloadn d_X11_said_56 rfl ?_
      refine jm_icmp_ne (tgt := 62) d_X11_said_57 (by decide) (fun c7 => ?_) (fun c7 => ?_)
      · have h := h.1 c7
        refine jm_iinc (L' := [some (jm_R _), some (jm_I _), some (jm_I _), some (jm_I _)]) d_X11_said_62 rfl rfl (Nat.le_of_ble_eq_true rfl) rfl ?_
        refine jm_iinc (L' := [some (jm_R _), some (jm_I _), some (jm_I _), some (jm_I _)]) d_X11_said_65 rfl rfl (Nat.le_of_ble_eq_true rfl) rfl ?_
        refine jm_goto (tgt := 26) d_X11_said_68 (by decide) ?_
        exact h
      · have h := h.2 c7
        refine jm_iloadn d_X11_said_60 rfl ?_
        exact jm_ret (o := some (jm_I _)) d_X11_said_61 rfl ⟨Nat.le_refl _, Nat.le_refl _⟩ jm_r_I h rfl
    · have h := h.2 c6
      refine jm_goto (tgt := 65) d_X11_said_52 (by decide) ?_
      refine jm_iinc (L' := [some (jm_R _), some (jm_I _), some (jm_I _), some (jm_I _)]) d_X11_said_65 rfl rfl (Nat.le_of_ble_eq_true rfl) rfl ?_
      refine jm_goto (tgt := 26) d_X11_said_68 (by decide) ?_
      exact h
/-! ('CombTableModel', 'image', '(I)Z') -/
theorem d_X11_image_0 : decode m_X11_image.2.1 0 = .ok (.aload_n 0, 1) := by decide +kernel
theorem d_X11_image_1 : decode m_X11_image.2.1 1 = .ok (.iconst 0, 1) := by decide +kernel
theorem d_X11_image_2 : decode m_X11_image.2.1 2 = .ok (.putfield 106, 3) := by decide +kernel
theorem d_X11_image_5 : decode m_X11_image.2.1 5 = .ok (.iload_n 1, 1) := by decide +kernel
theorem d_X11_image_6 : decode m_X11_image.2.1 6 = .ok (.iconst 0, 1) := by decide +kernel
theorem d_X11_image_7 : decode m_X11_image.2.1 7 = .ok (.iconst 1, 1) := by decide +kernel
theorem d_X11_image_8 : decode m_X11_image.2.1 8 = .ok (.invokestatic 177, 3) := by decide +kernel
theorem d_X11_image_11 : decode m_X11_image.2.1 11 = .ok (.ifCond .ne 5, 3) := by decide +kernel
theorem d_X11_image_14 : decode m_X11_image.2.1 14 = .ok (.iconst 0, 1) := by decide +kernel
theorem d_X11_image_15 : decode m_X11_image.2.1 15 = .ok (.ireturn, 1) := by decide +kernel
theorem d_X11_image_16 : decode m_X11_image.2.1 16 = .ok (.iconst 0, 1) := by decide +kernel
theorem d_X11_image_17 : decode m_X11_image.2.1 17 = .ok (.istore_n 2, 1) := by decide +kernel
theorem d_X11_image_18 : decode m_X11_image.2.1 18 = .ok (.iload_n 2, 1) := by decide +kernel
theorem d_X11_image_19 : decode m_X11_image.2.1 19 = .ok (.sipush 1152, 3) := by decide +kernel
theorem d_X11_image_22 : decode m_X11_image.2.1 22 = .ok (.if_icmp .ge 27, 3) := by decide +kernel
theorem d_X11_image_25 : decode m_X11_image.2.1 25 = .ok (.aload_n 0, 1) := by decide +kernel
theorem d_X11_image_26 : decode m_X11_image.2.1 26 = .ok (.getfield 19, 3) := by decide +kernel
theorem d_X11_image_29 : decode m_X11_image.2.1 29 = .ok (.sipush 1152, 3) := by decide +kernel
theorem d_X11_image_32 : decode m_X11_image.2.1 32 = .ok (.iload_n 1, 1) := by decide +kernel
theorem d_X11_image_33 : decode m_X11_image.2.1 33 = .ok (.imul, 1) := by decide +kernel
theorem d_X11_image_34 : decode m_X11_image.2.1 34 = .ok (.iload_n 2, 1) := by decide +kernel
theorem d_X11_image_35 : decode m_X11_image.2.1 35 = .ok (.iadd, 1) := by decide +kernel
theorem d_X11_image_36 : decode m_X11_image.2.1 36 = .ok (.aload_n 0, 1) := by decide +kernel
theorem d_X11_image_37 : decode m_X11_image.2.1 37 = .ok (.getfield 13, 3) := by decide +kernel
theorem d_X11_image_40 : decode m_X11_image.2.1 40 = .ok (.iload_n 2, 1) := by decide +kernel
theorem d_X11_image_41 : decode m_X11_image.2.1 41 = .ok (.iaload, 1) := by decide +kernel
theorem d_X11_image_42 : decode m_X11_image.2.1 42 = .ok (.iastore, 1) := by decide +kernel
theorem d_X11_image_43 : decode m_X11_image.2.1 43 = .ok (.iinc 2 1, 3) := by decide +kernel
theorem d_X11_image_46 : decode m_X11_image.2.1 46 = .ok (.goto (-28), 3) := by decide +kernel
theorem d_X11_image_49 : decode m_X11_image.2.1 49 = .ok (.iconst 0, 1) := by decide +kernel
theorem d_X11_image_50 : decode m_X11_image.2.1 50 = .ok (.istore_n 2, 1) := by decide +kernel
theorem d_X11_image_51 : decode m_X11_image.2.1 51 = .ok (.iload_n 2, 1) := by decide +kernel
theorem d_X11_image_52 : decode m_X11_image.2.1 52 = .ok (.bipush 18, 2) := by decide +kernel
theorem d_X11_image_54 : decode m_X11_image.2.1 54 = .ok (.if_icmp .ge 26, 3) := by decide +kernel
theorem d_X11_image_57 : decode m_X11_image.2.1 57 = .ok (.aload_n 0, 1) := by decide +kernel
theorem d_X11_image_58 : decode m_X11_image.2.1 58 = .ok (.getfield 32, 3) := by decide +kernel
theorem d_X11_image_61 : decode m_X11_image.2.1 61 = .ok (.bipush 18, 2) := by decide +kernel
theorem d_X11_image_63 : decode m_X11_image.2.1 63 = .ok (.iload_n 1, 1) := by decide +kernel
theorem d_X11_image_64 : decode m_X11_image.2.1 64 = .ok (.imul, 1) := by decide +kernel
theorem d_X11_image_65 : decode m_X11_image.2.1 65 = .ok (.iload_n 2, 1) := by decide +kernel
theorem d_X11_image_66 : decode m_X11_image.2.1 66 = .ok (.iadd, 1) := by decide +kernel
theorem d_X11_image_67 : decode m_X11_image.2.1 67 = .ok (.aload_n 0, 1) := by decide +kernel
theorem d_X11_image_68 : decode m_X11_image.2.1 68 = .ok (.getfield 25, 3) := by decide +kernel
theorem d_X11_image_71 : decode m_X11_image.2.1 71 = .ok (.iload_n 2, 1) := by decide +kernel
theorem d_X11_image_72 : decode m_X11_image.2.1 72 = .ok (.laload, 1) := by decide +kernel
theorem d_X11_image_73 : decode m_X11_image.2.1 73 = .ok (.lastore, 1) := by decide +kernel
theorem d_X11_image_74 : decode m_X11_image.2.1 74 = .ok (.iinc 2 1, 3) := by decide +kernel
theorem d_X11_image_77 : decode m_X11_image.2.1 77 = .ok (.goto (-26), 3) := by decide +kernel
theorem d_X11_image_80 : decode m_X11_image.2.1 80 = .ok (.aload_n 0, 1) := by decide +kernel
theorem d_X11_image_81 : decode m_X11_image.2.1 81 = .ok (.getfield 35, 3) := by decide +kernel
theorem d_X11_image_84 : decode m_X11_image.2.1 84 = .ok (.iload_n 1, 1) := by decide +kernel
theorem d_X11_image_85 : decode m_X11_image.2.1 85 = .ok (.iconst 1, 1) := by decide +kernel
theorem d_X11_image_86 : decode m_X11_image.2.1 86 = .ok (.bastore, 1) := by decide +kernel
theorem d_X11_image_87 : decode m_X11_image.2.1 87 = .ok (.iconst 1, 1) := by decide +kernel
theorem d_X11_image_88 : decode m_X11_image.2.1 88 = .ok (.ireturn, 1) := by decide +kernel
set_option maxRecDepth 20000 in
theorem e_X11_image {E : jm_E} {d : Nat} {μ : jm_M} {Q : Option jm_V → jm_M → Prop} {v1 : Int} (h : (∀ v ∈ ([jm_R 133, jm_I v1] : List jm_V), jm_ok v) →
  jc E m_X11_isIn d [jm_I v1, jm_I 0, jm_I 1] (jm_up μ 133 0 0) (fun (o : Option jm_V) (m1 : jm_M) => ∀ r2 : Int, o = some (jm_I r2) → (r2 = 0 ∨ r2 = 1) →
  ((r2 ≠ 0 →
    jg E m_X11_image d 18 [some (jm_R 133), some (jm_I v1), some (jm_I 0)] [] m1 Q) ∧
   (¬ (r2 ≠ 0) →
    Q (some (jm_I 0)) m1)))) : jc E m_X11_image (d + 1) [jm_R 133, jm_I v1] μ Q := by
  refine jm_Cl.of2 (by decide +kernel) (L0 := [some (jm_R 133), some (jm_I v1), none]) rfl (Nat.le_of_ble_eq_true rfl) (fun hok => ?_)
  have h := h hok
  refine jm_aloadn d_X11_image_0 rfl ?_
  refine jm_iconst (v := 0) d_X11_image_1 rfl (jm_okI (by decide) (by decide)) ?_
  refine jm_putI (k := 0) (ki := 0) cf_X11 (Nat.le_of_ble_eq_true rfl) f_X11_106 d_X11_image_2 (fun z => absurd z (by decide)) rfl rfl rfl (fun _ => rfl) is_133 ?_
  refine jm_iloadn d_X11_image_5 rfl ?_
  refine jm_iconst (v := 0) d_X11_image_6 rfl (jm_okI (by decide) (by decide)) ?_
  refine jm_iconst (v := 1) d_X11_image_7 rfl (jm_okI (by decide) (by decide)) ?_
  refine jm_invS (n1 := jm_N) (mc := 0) (ms := 0) (av := [jm_I _, jm_I _, jm_I _]) w_X11_isIn l_X11_177 d_X11_image_8 rfl ⟨Nat.le_refl _, Nat.le_refl _⟩ (Nat.le_of_ble_eq_true rfl) rfl ?_
  refine jm_Cl.mono h (fun o m1 h hr _ => ?_)
  obtain ⟨r2, rfl, z3⟩ := jm_rokZ hr
  have h := h _ rfl z3
  refine jm_if_ne (tgt := 16) d_X11_image_11 (by decide) (fun c4 => ?_) (fun c4 => ?_)
  · have h := h.1 c4
    refine jm_iconst (v := 0) d_X11_image_16 rfl (jm_okI (by decide) (by decide)) ?_
    refine jm_istoren (L' := [some (jm_R _), some (jm_I _), some (jm_I _)]) d_X11_image_17 (Nat.le_of_ble_eq_true rfl) rfl ?_
    exact h
  · have h := h.2 c4
    refine jm_iconst (v := 0) d_X11_image_14 rfl (jm_okI (by decide) (by decide)) ?_
    exact jm_ret (o := some (jm_I _)) d_X11_image_15 rfl ⟨Nat.le_refl _, Nat.le_refl _⟩ (jm_r_Z (by decide)) h rfl
set_option maxRecDepth 20000 in
theorem r_X11_image_18 {E : jm_E} {d : Nat} {μ : jm_M} {Q : Option jm_V → jm_M → Prop} {v1 v2 : Int} (h :
  ((1152 ≤ v2 →
    jg E m_X11_image d 51 [some (jm_R 133), some (jm_I v1), some (jm_I 0)] [] μ Q) ∧
   (¬ (1152 ≤ v2) →
    (0 ≤ v2 ∧ v2 < 1152) ∧
    (0 ≤ jm_wr ((jm_wr (1152 * v1)) + v2) ∧ jm_wr ((jm_wr (1152 * v1)) + v2) < 2304) ∧
    ∀ m4 : jm_M, m4 = (jm_up μ 137 (jm_wr ((jm_wr (1152 * v1)) + v2)) (μ 135 v2)) →
    jg E m_X11_image d 18 [some (jm_R 133), some (jm_I v1), some (jm_I (jm_wr (v2 + 1)))] [] m4 Q))) : jg E m_X11_image d 18 [some (jm_R 133), some (jm_I v1), some (jm_I v2)] [] μ Q := by
  refine jm_iloadn d_X11_image_18 rfl ?_
  refine jm_sipush (v := 1152) d_X11_image_19 rfl (jm_okI (by decide) (by decide)) ?_
  refine jm_icmp_ge (tgt := 49) d_X11_image_22 (by decide) (fun c1 => ?_) (fun c1 => ?_)
  · have h := h.1 c1
    refine jm_iconst (v := 0) d_X11_image_49 rfl (jm_okI (by decide) (by decide)) ?_
    refine jm_istoren (L' := [some (jm_R _), some (jm_I _), some (jm_I _)]) d_X11_image_50 (Nat.le_of_ble_eq_true rfl) rfl ?_
    exact h
  · have h := h.2 c1
    refine jm_aloadn d_X11_image_25 rfl ?_
    refine jm_getF (k := 16) (ki := 16) rfl cf_X11 (Nat.le_of_ble_eq_true rfl) f_X11_19 d_X11_image_26 rfl rfl is_133 fr_133_16 ?_
    refine jm_sipush (v := 1152) d_X11_image_29 rfl (jm_okI (by decide) (by decide)) ?_
    refine jm_iloadn d_X11_image_32 rfl ?_
    refine jm_imul d_X11_image_33 ?_
    refine jm_iloadn d_X11_image_34 rfl ?_
    refine jm_iadd d_X11_image_35 ?_
    refine jm_aloadn d_X11_image_36 rfl ?_
    refine jm_getF (k := 14) (ki := 14) rfl cf_X11 (Nat.le_of_ble_eq_true rfl) f_X11_13 d_X11_image_37 rfl rfl is_133 fr_133_14 ?_
    refine jm_iloadn d_X11_image_40 rfl ?_
    obtain ⟨f2, h⟩ := h
    refine jm_iaload d_X11_image_41 (ixl_135 f2.1 f2.2) ?_
    obtain ⟨f3, h⟩ := h
    refine jm_iastore d_X11_image_42 (ixl_137 f3.1 f3.2) ?_
    have h := h _ rfl
    refine jm_iinc (L' := [some (jm_R _), some (jm_I _), some (jm_I _)]) d_X11_image_43 rfl rfl (Nat.le_of_ble_eq_true rfl) rfl ?_
    refine jm_goto (tgt := 18) d_X11_image_46 (by decide) ?_
    exact h
set_option maxRecDepth 20000 in
theorem r_X11_image_51 {E : jm_E} {d : Nat} {μ : jm_M} {Q : Option jm_V → jm_M → Prop} {v1 v2 : Int} (h :
  ((18 ≤ v2 →
    (0 ≤ v1 ∧ v1 < 2) ∧
    ∀ m3 : jm_M, m3 = (jm_up μ 142 v1 1) →
    Q (some (jm_I 1)) m3) ∧
   (¬ (18 ≤ v2) →
    (0 ≤ v2 ∧ v2 < 18) ∧
    (0 ≤ jm_wr ((jm_wr (18 * v1)) + v2) ∧ jm_wr ((jm_wr (18 * v1)) + v2) < 36) ∧
    ∀ m6 : jm_M, m6 = (jm_up μ 141 (jm_wr ((jm_wr (18 * v1)) + v2)) (μ 139 v2)) →
    jg E m_X11_image d 51 [some (jm_R 133), some (jm_I v1), some (jm_I (jm_wr (v2 + 1)))] [] m6 Q))) : jg E m_X11_image d 51 [some (jm_R 133), some (jm_I v1), some (jm_I v2)] [] μ Q := by
  refine jm_iloadn d_X11_image_51 rfl ?_
  refine jm_bipush (v := 18) d_X11_image_52 rfl (jm_okI (by decide) (by decide)) ?_
  refine jm_icmp_ge (tgt := 80) d_X11_image_54 (by decide) (fun c1 => ?_) (fun c1 => ?_)
  · have h := h.1 c1
    refine jm_aloadn d_X11_image_80 rfl ?_
    refine jm_getF (k := 21) (ki := 21) rfl cf_X11 (Nat.le_of_ble_eq_true rfl) f_X11_35 d_X11_image_81 rfl rfl is_133 fr_133_21 ?_
    refine jm_iloadn d_X11_image_84 rfl ?_
    refine jm_iconst (v := 1) d_X11_image_85 rfl (jm_okI (by decide) (by decide)) ?_
    obtain ⟨f2, h⟩ := h
    refine jm_zastore d_X11_image_86 (ixl_142 f2.1 f2.2) (by decide) ?_
    have h := h _ rfl
    refine jm_iconst (v := 1) d_X11_image_87 rfl (jm_okI (by decide) (by decide)) ?_
    exact jm_ret (o := some (jm_I _)) d_X11_image_88 rfl ⟨Nat.le_refl _, Nat.le_refl _⟩ (jm_r_Z (by decide)) h rfl
  · have h := h.2 c1
    refine jm_aloadn d_X11_image_57 rfl ?_
    refine jm_getF (k := 20) (ki := 20) rfl cf_X11 (Nat.le_of_ble_eq_true rfl) f_X11_32 d_X11_image_58 rfl rfl is_133 fr_133_20 ?_
    refine jm_bipush (v := 18) d_X11_image_61 rfl (jm_okI (by decide) (by decide)) ?_
    refine jm_iloadn d_X11_image_63 rfl ?_
    refine jm_imul d_X11_image_64 ?_
    refine jm_iloadn d_X11_image_65 rfl ?_
    refine jm_iadd d_X11_image_66 ?_
    refine jm_aloadn d_X11_image_67 rfl ?_
    refine jm_getF (k := 18) (ki := 18) rfl cf_X11 (Nat.le_of_ble_eq_true rfl) f_X11_25 d_X11_image_68 rfl rfl is_133 fr_133_18 ?_
    refine jm_iloadn d_X11_image_71 rfl ?_
    obtain ⟨f4, h⟩ := h
    refine jm_laload d_X11_image_72 (ixl_139 f4.1 f4.2) ?_
    obtain ⟨f5, h⟩ := h
    refine jm_lastore d_X11_image_73 (ixl_141 f5.1 f5.2) ?_
    have h := h _ rfl
    refine jm_iinc (L' := [some (jm_R _), some (jm_I _), some (jm_I _)]) d_X11_image_74 rfl rfl (Nat.le_of_ble_eq_true rfl) rfl ?_
    refine jm_goto (tgt := 51) d_X11_image_77 (by decide) ?_
    exact h
/-! ('CombTableModel', 'restore', '(I)Z') -/
theorem d_X11_restore_0 : decode m_X11_restore.2.1 0 = .ok (.aload_n 0, 1) := by decide +kernel
theorem d_X11_restore_1 : decode m_X11_restore.2.1 1 = .ok (.iconst 0, 1) := by decide +kernel
theorem d_X11_restore_2 : decode m_X11_restore.2.1 2 = .ok (.putfield 106, 3) := by decide +kernel
theorem d_X11_restore_5 : decode m_X11_restore.2.1 5 = .ok (.iload_n 1, 1) := by decide +kernel
theorem d_X11_restore_6 : decode m_X11_restore.2.1 6 = .ok (.iconst 0, 1) := by decide +kernel
theorem d_X11_restore_7 : decode m_X11_restore.2.1 7 = .ok (.iconst 1, 1) := by decide +kernel
theorem d_X11_restore_8 : decode m_X11_restore.2.1 8 = .ok (.invokestatic 177, 3) := by decide +kernel
theorem d_X11_restore_11 : decode m_X11_restore.2.1 11 = .ok (.ifCond .eq 12, 3) := by decide +kernel
theorem d_X11_restore_14 : decode m_X11_restore.2.1 14 = .ok (.aload_n 0, 1) := by decide +kernel
theorem d_X11_restore_15 : decode m_X11_restore.2.1 15 = .ok (.getfield 35, 3) := by decide +kernel
theorem d_X11_restore_18 : decode m_X11_restore.2.1 18 = .ok (.iload_n 1, 1) := by decide +kernel
theorem d_X11_restore_19 : decode m_X11_restore.2.1 19 = .ok (.baload, 1) := by decide +kernel
theorem d_X11_restore_20 : decode m_X11_restore.2.1 20 = .ok (.ifCond .ne 5, 3) := by decide +kernel
theorem d_X11_restore_23 : decode m_X11_restore.2.1 23 = .ok (.iconst 0, 1) := by decide +kernel
theorem d_X11_restore_24 : decode m_X11_restore.2.1 24 = .ok (.ireturn, 1) := by decide +kernel
theorem d_X11_restore_25 : decode m_X11_restore.2.1 25 = .ok (.iconst 0, 1) := by decide +kernel
theorem d_X11_restore_26 : decode m_X11_restore.2.1 26 = .ok (.istore_n 2, 1) := by decide +kernel
theorem d_X11_restore_27 : decode m_X11_restore.2.1 27 = .ok (.iload_n 2, 1) := by decide +kernel
theorem d_X11_restore_28 : decode m_X11_restore.2.1 28 = .ok (.sipush 1152, 3) := by decide +kernel
theorem d_X11_restore_31 : decode m_X11_restore.2.1 31 = .ok (.if_icmp .ge 27, 3) := by decide +kernel
theorem d_X11_restore_34 : decode m_X11_restore.2.1 34 = .ok (.aload_n 0, 1) := by decide +kernel
theorem d_X11_restore_35 : decode m_X11_restore.2.1 35 = .ok (.getfield 13, 3) := by decide +kernel
theorem d_X11_restore_38 : decode m_X11_restore.2.1 38 = .ok (.iload_n 2, 1) := by decide +kernel
theorem d_X11_restore_39 : decode m_X11_restore.2.1 39 = .ok (.aload_n 0, 1) := by decide +kernel
theorem d_X11_restore_40 : decode m_X11_restore.2.1 40 = .ok (.getfield 19, 3) := by decide +kernel
theorem d_X11_restore_43 : decode m_X11_restore.2.1 43 = .ok (.sipush 1152, 3) := by decide +kernel
theorem d_X11_restore_46 : decode m_X11_restore.2.1 46 = .ok (.iload_n 1, 1) := by decide +kernel
theorem d_X11_restore_47 : decode m_X11_restore.2.1 47 = .ok (.imul, 1) := by decide +kernel
theorem d_X11_restore_48 : decode m_X11_restore.2.1 48 = .ok (.iload_n 2, 1) := by decide +kernel
theorem d_X11_restore_49 : decode m_X11_restore.2.1 49 = .ok (.iadd, 1) := by decide +kernel
theorem d_X11_restore_50 : decode m_X11_restore.2.1 50 = .ok (.iaload, 1) := by decide +kernel
theorem d_X11_restore_51 : decode m_X11_restore.2.1 51 = .ok (.iastore, 1) := by decide +kernel
theorem d_X11_restore_52 : decode m_X11_restore.2.1 52 = .ok (.iinc 2 1, 3) := by decide +kernel
theorem d_X11_restore_55 : decode m_X11_restore.2.1 55 = .ok (.goto (-28), 3) := by decide +kernel
theorem d_X11_restore_58 : decode m_X11_restore.2.1 58 = .ok (.iconst 0, 1) := by decide +kernel
theorem d_X11_restore_59 : decode m_X11_restore.2.1 59 = .ok (.istore_n 2, 1) := by decide +kernel
theorem d_X11_restore_60 : decode m_X11_restore.2.1 60 = .ok (.iload_n 2, 1) := by decide +kernel
theorem d_X11_restore_61 : decode m_X11_restore.2.1 61 = .ok (.bipush 18, 2) := by decide +kernel
theorem d_X11_restore_63 : decode m_X11_restore.2.1 63 = .ok (.if_icmp .ge 26, 3) := by decide +kernel
theorem d_X11_restore_66 : decode m_X11_restore.2.1 66 = .ok (.aload_n 0, 1) := by decide +kernel
theorem d_X11_restore_67 : decode m_X11_restore.2.1 67 = .ok (.getfield 25, 3) := by decide +kernel
theorem d_X11_restore_70 : decode m_X11_restore.2.1 70 = .ok (.iload_n 2, 1) := by decide +kernel
theorem d_X11_restore_71 : decode m_X11_restore.2.1 71 = .ok (.aload_n 0, 1) := by decide +kernel
theorem d_X11_restore_72 : decode m_X11_restore.2.1 72 = .ok (.getfield 32, 3) := by decide +kernel
theorem d_X11_restore_75 : decode m_X11_restore.2.1 75 = .ok (.bipush 18, 2) := by decide +kernel
theorem d_X11_restore_77 : decode m_X11_restore.2.1 77 = .ok (.iload_n 1, 1) := by decide +kernel
theorem d_X11_restore_78 : decode m_X11_restore.2.1 78 = .ok (.imul, 1) := by decide +kernel
theorem d_X11_restore_79 : decode m_X11_restore.2.1 79 = .ok (.iload_n 2, 1) := by decide +kernel
theorem d_X11_restore_80 : decode m_X11_restore.2.1 80 = .ok (.iadd, 1) := by decide +kernel
theorem d_X11_restore_81 : decode m_X11_restore.2.1 81 = .ok (.laload, 1) := by decide +kernel
theorem d_X11_restore_82 : decode m_X11_restore.2.1 82 = .ok (.lastore, 1) := by decide +kernel
theorem d_X11_restore_83 : decode m_X11_restore.2.1 83 = .ok (.iinc 2 1, 3) := by decide +kernel
theorem d_X11_restore_86 : decode m_X11_restore.2.1 86 = .ok (.goto (-26), 3) := by decide +kernel
theorem d_X11_restore_89 : decode m_X11_restore.2.1 89 = .ok (.iconst 1, 1) := by decide +kernel
theorem d_X11_restore_90 : decode m_X11_restore.2.1 90 = .ok (.ireturn, 1) := by decide +kernel
set_option maxRecDepth 20000 in
theorem e_X11_restore {E : jm_E} {d : Nat} {μ : jm_M} {Q : Option jm_V → jm_M → Prop} {v1 : Int} (h : (∀ v ∈ ([jm_R 133, jm_I v1] : List jm_V), jm_ok v) →
  jc E m_X11_isIn d [jm_I v1, jm_I 0, jm_I 1] (jm_up μ 133 0 0) (fun (o : Option jm_V) (m1 : jm_M) => ∀ r2 : Int, o = some (jm_I r2) → (r2 = 0 ∨ r2 = 1) →
  ((r2 = 0 →
    Q (some (jm_I 0)) m1) ∧
   (¬ (r2 = 0) →
    (0 ≤ v1 ∧ v1 < 2) ∧
    ((m1 142 v1 ≠ 0 →
      jg E m_X11_restore d 27 [some (jm_R 133), some (jm_I v1), some (jm_I 0)] [] m1 Q) ∧
     (¬ (m1 142 v1 ≠ 0) →
      Q (some (jm_I 0)) m1)))))) : jc E m_X11_restore (d + 1) [jm_R 133, jm_I v1] μ Q := by
  refine jm_Cl.of2 (by decide +kernel) (L0 := [some (jm_R 133), some (jm_I v1), none]) rfl (Nat.le_of_ble_eq_true rfl) (fun hok => ?_)
  have h := h hok
  refine jm_aloadn d_X11_restore_0 rfl ?_
  refine jm_iconst (v := 0) d_X11_restore_1 rfl (jm_okI (by decide) (by decide)) ?_
  refine jm_putI (k := 0) (ki := 0) cf_X11 (Nat.le_of_ble_eq_true rfl) f_X11_106 d_X11_restore_2 (fun z => absurd z (by decide)) rfl rfl rfl (fun _ => rfl) is_133 ?_
  refine jm_iloadn d_X11_restore_5 rfl ?_
  refine jm_iconst (v := 0) d_X11_restore_6 rfl (jm_okI (by decide) (by decide)) ?_
  refine jm_iconst (v := 1) d_X11_restore_7 rfl (jm_okI (by decide) (by decide)) ?_
  refine jm_invS (n1 := jm_N) (mc := 0) (ms := 0) (av := [jm_I _, jm_I _, jm_I _]) w_X11_isIn l_X11_177 d_X11_restore_8 rfl ⟨Nat.le_refl _, Nat.le_refl _⟩ (Nat.le_of_ble_eq_true rfl) rfl ?_
  refine jm_Cl.mono h (fun o m1 h hr _ => ?_)
  obtain ⟨r2, rfl, z3⟩ := jm_rokZ hr
  have h := h _ rfl z3
  refine jm_if_eq (tgt := 23) d_X11_restore_11 (by decide) (fun c4 => ?_) (fun c4 => ?_)
  · have h := h.1 c4
    refine jm_iconst (v := 0) d_X11_restore_23 rfl (jm_okI (by decide) (by decide)) ?_
    exact jm_ret (o := some (jm_I _)) d_X11_restore_24 rfl ⟨Nat.le_refl _, Nat.le_refl _⟩ (jm_r_Z (by decide)) h rfl
  · have h := h.2 c4
    refine jm_aloadn d_X11_restore_14 rfl ?_
    refine jm_getF (k := 21) (ki := 21) rfl cf_X11 (Nat.le_of_ble_eq_true rfl) f_X11_35 d_X11_restore_15 rfl rfl is_133 fr_133_21 ?_
    refine jm_iloadn d_X11_restore_18 rfl ?_
    obtain ⟨f5, h⟩ := h
    refine jm_zaload d_X11_restore_19 (ixl_142 f5.1 f5.2) ?_
    refine jm_if_ne (tgt := 25) d_X11_restore_20 (by decide) (fun c6 => ?_) (fun c6 => ?_)
    · have h := h.1 c6
      refine jm_iconst (v := 0) d_X11_restore_25 rfl (jm_okI (by decide) (by decide)) ?_
      refine jm_istoren (L' := [some (jm_R _), some (jm_I _), some (jm_I _)]) d_X11_restore_26 (Nat.le_of_ble_eq_true rfl) rfl ?_
      exact h
    · have h := h.2 c6
      refine jm_iconst (v := 0) d_X11_restore_23 rfl (jm_okI (by decide) (by decide)) ?_
      exact jm_ret (o := some (jm_I _)) d_X11_restore_24 rfl ⟨Nat.le_refl _, Nat.le_refl _⟩ (jm_r_Z (by decide)) h rfl
set_option maxRecDepth 20000 in
theorem r_X11_restore_27 {E : jm_E} {d : Nat} {μ : jm_M} {Q : Option jm_V → jm_M → Prop} {v1 v2 : Int} (h :
  ((1152 ≤ v2 →
    jg E m_X11_restore d 60 [some (jm_R 133), some (jm_I v1), some (jm_I 0)] [] μ Q) ∧
   (¬ (1152 ≤ v2) →
    (0 ≤ jm_wr ((jm_wr (1152 * v1)) + v2) ∧ jm_wr ((jm_wr (1152 * v1)) + v2) < 2304) ∧
    (0 ≤ v2 ∧ v2 < 1152) ∧
    ∀ m4 : jm_M, m4 = (jm_up μ 135 v2 (μ 137 (jm_wr ((jm_wr (1152 * v1)) + v2)))) →
    jg E m_X11_restore d 27 [some (jm_R 133), some (jm_I v1), some (jm_I (jm_wr (v2 + 1)))] [] m4 Q))) : jg E m_X11_restore d 27 [some (jm_R 133), some (jm_I v1), some (jm_I v2)] [] μ Q := by
  refine jm_iloadn d_X11_restore_27 rfl ?_
  refine jm_sipush (v := 1152) d_X11_restore_28 rfl (jm_okI (by decide) (by decide)) ?_
  refine jm_icmp_ge (tgt := 58) d_X11_restore_31 (by decide) (fun c1 => ?_) (fun c1 => ?_)
  · have h := h.1 c1
    refine jm_iconst (v := 0) d_X11_restore_58 rfl (jm_okI (by decide) (by decide)) ?_
    refine jm_istoren (L' := [some (jm_R _), some (jm_I _), some (jm_I _)]) d_X11_restore_59 (Nat.le_of_ble_eq_true rfl) rfl ?_
    exact h
  · have h := h.2 c1
    refine jm_aloadn d_X11_restore_34 rfl ?_
    refine jm_getF (k := 14) (ki := 14) rfl cf_X11 (Nat.le_of_ble_eq_true rfl) f_X11_13 d_X11_restore_35 rfl rfl is_133 fr_133_14 ?_
    refine jm_iloadn d_X11_restore_38 rfl ?_
    refine jm_aloadn d_X11_restore_39 rfl ?_
    refine jm_getF (k := 16) (ki := 16) rfl cf_X11 (Nat.le_of_ble_eq_true rfl) f_X11_19 d_X11_restore_40 rfl rfl is_133 fr_133_16 ?_
    refine jm_sipush (v := 1152) d_X11_restore_43 rfl (jm_okI (by decide) (by decide)) ?_
    refine jm_iloadn d_X11_restore_46 rfl ?_
    refine jm_imul d_X11_restore_47 ?_
    refine jm_iloadn d_X11_restore_48 rfl ?_
    refine jm_iadd d_X11_restore_49 ?_
    obtain ⟨f2, h⟩ := h
    refine jm_iaload d_X11_restore_50 (ixl_137 f2.1 f2.2) ?_
    obtain ⟨f3, h⟩ := h
    refine jm_iastore d_X11_restore_51 (ixl_135 f3.1 f3.2) ?_
    have h := h _ rfl
    refine jm_iinc (L' := [some (jm_R _), some (jm_I _), some (jm_I _)]) d_X11_restore_52 rfl rfl (Nat.le_of_ble_eq_true rfl) rfl ?_
    refine jm_goto (tgt := 27) d_X11_restore_55 (by decide) ?_
    exact h
set_option maxRecDepth 20000 in
theorem r_X11_restore_60 {E : jm_E} {d : Nat} {μ : jm_M} {Q : Option jm_V → jm_M → Prop} {v1 v2 : Int} (h :
  ((18 ≤ v2 →
    Q (some (jm_I 1)) μ) ∧
   (¬ (18 ≤ v2) →
    (0 ≤ jm_wr ((jm_wr (18 * v1)) + v2) ∧ jm_wr ((jm_wr (18 * v1)) + v2) < 36) ∧
    (0 ≤ v2 ∧ v2 < 18) ∧
    ∀ m4 : jm_M, m4 = (jm_up μ 139 v2 (μ 141 (jm_wr ((jm_wr (18 * v1)) + v2)))) →
    jg E m_X11_restore d 60 [some (jm_R 133), some (jm_I v1), some (jm_I (jm_wr (v2 + 1)))] [] m4 Q))) : jg E m_X11_restore d 60 [some (jm_R 133), some (jm_I v1), some (jm_I v2)] [] μ Q := by
  refine jm_iloadn d_X11_restore_60 rfl ?_
  refine jm_bipush (v := 18) d_X11_restore_61 rfl (jm_okI (by decide) (by decide)) ?_
  refine jm_icmp_ge (tgt := 89) d_X11_restore_63 (by decide) (fun c1 => ?_) (fun c1 => ?_)
  · have h := h.1 c1
    refine jm_iconst (v := 1) d_X11_restore_89 rfl (jm_okI (by decide) (by decide)) ?_
    exact jm_ret (o := some (jm_I _)) d_X11_restore_90 rfl ⟨Nat.le_refl _, Nat.le_refl _⟩ (jm_r_Z (by decide)) h rfl
  · have h := h.2 c1
    refine jm_aloadn d_X11_restore_66 rfl ?_
    refine jm_getF (k := 18) (ki := 18) rfl cf_X11 (Nat.le_of_ble_eq_true rfl) f_X11_25 d_X11_restore_67 rfl rfl is_133 fr_133_18 ?_
    refine jm_iloadn d_X11_restore_70 rfl ?_
    refine jm_aloadn d_X11_restore_71 rfl ?_
    refine jm_getF (k := 20) (ki := 20) rfl cf_X11 (Nat.le_of_ble_eq_true rfl) f_X11_32 d_X11_restore_72 rfl rfl is_133 fr_133_20 ?_
    refine jm_bipush (v := 18) d_X11_restore_75 rfl (jm_okI (by decide) (by decide)) ?_
    refine jm_iloadn d_X11_restore_77 rfl ?_
    refine jm_imul d_X11_restore_78 ?_
    refine jm_iloadn d_X11_restore_79 rfl ?_
    refine jm_iadd d_X11_restore_80 ?_
    obtain ⟨f2, h⟩ := h
    refine jm_laload d_X11_restore_81 (ixl_141 f2.1 f2.2) ?_
    obtain ⟨f3, h⟩ := h
    refine jm_lastore d_X11_restore_82 (ixl_139 f3.1 f3.2) ?_
    have h := h _ rfl
    refine jm_iinc (L' := [some (jm_R _), some (jm_I _), some (jm_I _)]) d_X11_restore_83 rfl rfl (Nat.le_of_ble_eq_true rfl) rfl ?_
    refine jm_goto (tgt := 60) d_X11_restore_86 (by decide) ?_
    exact h
/-! ('CombTableModel', 'count', '(I)I') -/
theorem d_X11_count_0 : decode m_X11_count.2.1 0 = .ok (.aload_n 0, 1) := by decide +kernel
theorem d_X11_count_1 : decode m_X11_count.2.1 1 = .ok (.iconst 0, 1) := by decide +kernel
theorem d_X11_count_2 : decode m_X11_count.2.1 2 = .ok (.putfield 106, 3) := by decide +kernel
theorem d_X11_count_5 : decode m_X11_count.2.1 5 = .ok (.iload_n 1, 1) := by decide +kernel
theorem d_X11_count_6 : decode m_X11_count.2.1 6 = .ok (.tableswitch 127 0 8 #[50, 57, 64, 71, 91, 98, 105, 113, 122], 50) := by decide +kernel
theorem d_X11_count_56 : decode m_X11_count.2.1 56 = .ok (.aload_n 0, 1) := by decide +kernel
theorem d_X11_count_57 : decode m_X11_count.2.1 57 = .ok (.getfield 13, 3) := by decide +kernel
theorem d_X11_count_60 : decode m_X11_count.2.1 60 = .ok (.iconst 0, 1) := by decide +kernel
theorem d_X11_count_61 : decode m_X11_count.2.1 61 = .ok (.iaload, 1) := by decide +kernel
theorem d_X11_count_62 : decode m_X11_count.2.1 62 = .ok (.ireturn, 1) := by decide +kernel
theorem d_X11_count_63 : decode m_X11_count.2.1 63 = .ok (.aload_n 0, 1) := by decide +kernel
theorem d_X11_count_64 : decode m_X11_count.2.1 64 = .ok (.getfield 13, 3) := by decide +kernel
theorem d_X11_count_67 : decode m_X11_count.2.1 67 = .ok (.iconst 1, 1) := by decide +kernel
theorem d_X11_count_68 : decode m_X11_count.2.1 68 = .ok (.iaload, 1) := by decide +kernel
theorem d_X11_count_69 : decode m_X11_count.2.1 69 = .ok (.ireturn, 1) := by decide +kernel
theorem d_X11_count_70 : decode m_X11_count.2.1 70 = .ok (.aload_n 0, 1) := by decide +kernel
theorem d_X11_count_71 : decode m_X11_count.2.1 71 = .ok (.getfield 13, 3) := by decide +kernel
theorem d_X11_count_74 : decode m_X11_count.2.1 74 = .ok (.iconst 2, 1) := by decide +kernel
theorem d_X11_count_75 : decode m_X11_count.2.1 75 = .ok (.iaload, 1) := by decide +kernel
theorem d_X11_count_76 : decode m_X11_count.2.1 76 = .ok (.ireturn, 1) := by decide +kernel
theorem d_X11_count_77 : decode m_X11_count.2.1 77 = .ok (.aload_n 0, 1) := by decide +kernel
theorem d_X11_count_78 : decode m_X11_count.2.1 78 = .ok (.getfield 13, 3) := by decide +kernel
theorem d_X11_count_81 : decode m_X11_count.2.1 81 = .ok (.iconst 3, 1) := by decide +kernel
theorem d_X11_count_82 : decode m_X11_count.2.1 82 = .ok (.iaload, 1) := by decide +kernel
theorem d_X11_count_83 : decode m_X11_count.2.1 83 = .ok (.ifCond .ne 7, 3) := by decide +kernel
theorem d_X11_count_86 : decode m_X11_count.2.1 86 = .ok (.iconst 1, 1) := by decide +kernel
theorem d_X11_count_87 : decode m_X11_count.2.1 87 = .ok (.goto 9, 3) := by decide +kernel
theorem d_X11_count_90 : decode m_X11_count.2.1 90 = .ok (.aload_n 0, 1) := by decide +kernel
theorem d_X11_count_91 : decode m_X11_count.2.1 91 = .ok (.getfield 13, 3) := by decide +kernel
theorem d_X11_count_94 : decode m_X11_count.2.1 94 = .ok (.iconst 3, 1) := by decide +kernel
theorem d_X11_count_95 : decode m_X11_count.2.1 95 = .ok (.iaload, 1) := by decide +kernel
theorem d_X11_count_96 : decode m_X11_count.2.1 96 = .ok (.ireturn, 1) := by decide +kernel
theorem d_X11_count_97 : decode m_X11_count.2.1 97 = .ok (.aload_n 0, 1) := by decide +kernel
theorem d_X11_count_98 : decode m_X11_count.2.1 98 = .ok (.getfield 13, 3) := by decide +kernel
theorem d_X11_count_101 : decode m_X11_count.2.1 101 = .ok (.iconst 4, 1) := by decide +kernel
theorem d_X11_count_102 : decode m_X11_count.2.1 102 = .ok (.iaload, 1) := by decide +kernel
theorem d_X11_count_103 : decode m_X11_count.2.1 103 = .ok (.ireturn, 1) := by decide +kernel
theorem d_X11_count_104 : decode m_X11_count.2.1 104 = .ok (.aload_n 0, 1) := by decide +kernel
theorem d_X11_count_105 : decode m_X11_count.2.1 105 = .ok (.getfield 13, 3) := by decide +kernel
theorem d_X11_count_108 : decode m_X11_count.2.1 108 = .ok (.iconst 5, 1) := by decide +kernel
theorem d_X11_count_109 : decode m_X11_count.2.1 109 = .ok (.iaload, 1) := by decide +kernel
theorem d_X11_count_110 : decode m_X11_count.2.1 110 = .ok (.ireturn, 1) := by decide +kernel
theorem d_X11_count_111 : decode m_X11_count.2.1 111 = .ok (.aload_n 0, 1) := by decide +kernel
theorem d_X11_count_112 : decode m_X11_count.2.1 112 = .ok (.getfield 13, 3) := by decide +kernel
theorem d_X11_count_115 : decode m_X11_count.2.1 115 = .ok (.bipush 60, 2) := by decide +kernel
theorem d_X11_count_117 : decode m_X11_count.2.1 117 = .ok (.iaload, 1) := by decide +kernel
theorem d_X11_count_118 : decode m_X11_count.2.1 118 = .ok (.ireturn, 1) := by decide +kernel
theorem d_X11_count_119 : decode m_X11_count.2.1 119 = .ok (.aload_n 0, 1) := by decide +kernel
theorem d_X11_count_120 : decode m_X11_count.2.1 120 = .ok (.getfield 13, 3) := by decide +kernel
theorem d_X11_count_123 : decode m_X11_count.2.1 123 = .ok (.sipush 861, 3) := by decide +kernel
theorem d_X11_count_126 : decode m_X11_count.2.1 126 = .ok (.iaload, 1) := by decide +kernel
theorem d_X11_count_127 : decode m_X11_count.2.1 127 = .ok (.ireturn, 1) := by decide +kernel
theorem d_X11_count_128 : decode m_X11_count.2.1 128 = .ok (.aload_n 0, 1) := by decide +kernel
theorem d_X11_count_129 : decode m_X11_count.2.1 129 = .ok (.getfield 109, 3) := by decide +kernel
theorem d_X11_count_132 : decode m_X11_count.2.1 132 = .ok (.ireturn, 1) := by decide +kernel
theorem d_X11_count_133 : decode m_X11_count.2.1 133 = .ok (.iconst (-1), 1) := by decide +kernel
theorem d_X11_count_134 : decode m_X11_count.2.1 134 = .ok (.ireturn, 1) := by decide +kernel
set_option maxRecDepth 20000 in
theorem e_X11_count {E : jm_E} {d : Nat} {μ : jm_M} {Q : Option jm_V → jm_M → Prop} {v1 : Int} (h : (∀ v ∈ ([jm_R 133, jm_I v1] : List jm_V), jm_ok v) →
  ((v1 = 0 →
    Q (some (jm_I (μ 135 0))) (jm_up μ 133 0 0)) ∧
   (¬ (v1 = 0) →
    ((v1 = 1 →
      Q (some (jm_I (μ 135 1))) (jm_up μ 133 0 0)) ∧
     (¬ (v1 = 1) →
      ((v1 = 2 →
        Q (some (jm_I (μ 135 2))) (jm_up μ 133 0 0)) ∧
       (¬ (v1 = 2) →
        ((v1 = 3 →
          ((μ 135 3 ≠ 0 →
            Q (some (jm_I (μ 135 3))) (jm_up μ 133 0 0)) ∧
           (¬ (μ 135 3 ≠ 0) →
            Q (some (jm_I 1)) (jm_up μ 133 0 0)))) ∧
         (¬ (v1 = 3) →
          ((v1 = 4 →
            Q (some (jm_I (μ 135 4))) (jm_up μ 133 0 0)) ∧
           (¬ (v1 = 4) →
            ((v1 = 5 →
              Q (some (jm_I (μ 135 5))) (jm_up μ 133 0 0)) ∧
             (¬ (v1 = 5) →
              ((v1 = 6 →
                Q (some (jm_I (μ 135 60))) (jm_up μ 133 0 0)) ∧
               (¬ (v1 = 6) →
                ((v1 = 7 →
                  Q (some (jm_I (μ 135 861))) (jm_up μ 133 0 0)) ∧
                 (¬ (v1 = 7) →
                  ((v1 = 8 →
                    Q (some (jm_I (μ 133 2))) (jm_up μ 133 0 0)) ∧
                   (¬ (v1 = 8) →
                    Q (some (jm_I ((-1)))) (jm_up μ 133 0 0)))))))))))))))))))) : jc E m_X11_count (d + 1) [jm_R 133, jm_I v1] μ Q := by
  refine jm_Cl.of2 (by decide +kernel) (L0 := [some (jm_R 133), some (jm_I v1)]) rfl (Nat.le_of_ble_eq_true rfl) (fun hok => ?_)
  have h := h hok
  refine jm_aloadn d_X11_count_0 rfl ?_
  refine jm_iconst (v := 0) d_X11_count_1 rfl (jm_okI (by decide) (by decide)) ?_
  refine jm_putI (k := 0) (ki := 0) cf_X11 (Nat.le_of_ble_eq_true rfl) f_X11_106 d_X11_count_2 (fun z => absurd z (by decide)) rfl rfl rfl (fun _ => rfl) is_133 ?_
  refine jm_iloadn d_X11_count_5 rfl ?_
  by_cases c1 : v1 = 0
  · have h := h.1 c1
    refine jm_table (tgt := 56) (off := 50) d_X11_count_6 (by rw [c1]; decide) (by rw [c1]; decide) (by rw [c1]; rfl) (by decide) ?_
    refine jm_aloadn d_X11_count_56 rfl ?_
    refine jm_getF (k := 14) (ki := 14) rfl cf_X11 (Nat.le_of_ble_eq_true rfl) f_X11_13 d_X11_count_57 rfl rfl is_133 fr_133_14 ?_
    refine jm_iconst (v := 0) d_X11_count_60 rfl (jm_okI (by decide) (by decide)) ?_
    refine jm_ialoadv d_X11_count_61 (ixl_135 (by decide) (by decide)) ((jm_up_lj (by decide)).trans rfl) ?_
    exact jm_ret (o := some (jm_I _)) d_X11_count_62 rfl ⟨Nat.le_refl _, Nat.le_refl _⟩ jm_r_I h rfl
  · have h := h.2 c1
    by_cases c2 : v1 = 1
    · have h := h.1 c2
      refine jm_table (tgt := 63) (off := 57) d_X11_count_6 (by rw [c2]; decide) (by rw [c2]; decide) (by rw [c2]; rfl) (by decide) ?_
      refine jm_aloadn d_X11_count_63 rfl ?_
      refine jm_getF (k := 14) (ki := 14) rfl cf_X11 (Nat.le_of_ble_eq_true rfl) f_X11_13 d_X11_count_64 rfl rfl is_133 fr_133_14 ?_
      refine jm_iconst (v := 1) d_X11_count_67 rfl (jm_okI (by decide) (by decide)) ?_
      refine jm_ialoadv d_X11_count_68 (ixl_135 (by decide) (by decide)) ((jm_up_i (by decide)).trans rfl) ?_
      exact jm_ret (o := some (jm_I _)) d_X11_count_69 rfl ⟨Nat.le_refl _, Nat.le_refl _⟩ jm_r_I h rfl
    · have h := h.2 c2
      by_cases c3 : v1 = 2
      · have h := h.1 c3
        refine jm_table (tgt := 70) (off := 64) d_X11_count_6 (by rw [c3]; decide) (by rw [c3]; decide) (by rw [c3]; rfl) (by decide) ?_
        refine jm_aloadn d_X11_count_70 rfl ?_
        refine jm_getF (k := 14) (ki := 14) rfl cf_X11 (Nat.le_of_ble_eq_true rfl) f_X11_13 d_X11_count_71 rfl rfl is_133 fr_133_14 ?_
        refine jm_iconst (v := 2) d_X11_count_74 rfl (jm_okI (by decide) (by decide)) ?_
        refine jm_ialoadv d_X11_count_75 (ixl_135 (by decide) (by decide)) ((jm_up_i (by decide)).trans rfl) ?_
        exact jm_ret (o := some (jm_I _)) d_X11_count_76 rfl ⟨Nat.le_refl _, Nat.le_refl _⟩ jm_r_I h rfl
      · have h := h.2 c3
        by_cases c4 : v1 = 3
        · have h := h.1 c4
          refine jm_table (tgt := 77) (off := 71) d_X11_count_6 (by rw [c4]; decide) (by rw [c4]; decide) (by rw [c4]; rfl) (by decide) ?_
          refine jm_aloadn d_X11_count_77 rfl ?_
          refine jm_getF (k := 14) (ki := 14) rfl cf_X11 (Nat.le_of_ble_eq_true rfl) f_X11_13 d_X11_count_78 rfl rfl is_133 fr_133_14 ?_
          refine jm_iconst (v := 3) d_X11_count_81 rfl (jm_okI (by decide) (by decide)) ?_
          refine jm_ialoadv d_X11_count_82 (ixl_135 (by decide) (by decide)) ((jm_up_i (by decide)).trans rfl) ?_
          refine jm_if_ne (tgt := 90) d_X11_count_83 (by decide) (fun c5 => ?_) (fun c5 => ?_)
          · have h := h.1 c5
            refine jm_aloadn d_X11_count_90 rfl ?_
            refine jm_getF (k := 14) (ki := 14) rfl cf_X11 (Nat.le_of_ble_eq_true rfl) f_X11_13 d_X11_count_91 rfl rfl is_133 fr_133_14 ?_
            refine jm_iconst (v := 3) d_X11_count_94 rfl (jm_okI (by decide) (by decide)) ?_
            refine jm_ialoadv d_X11_count_95 (ixl_135 (by decide) (by decide)) ((jm_up_i (by decide)).trans rfl) ?_
            exact jm_ret (o := some (jm_I _)) d_X11_count_96 rfl ⟨Nat.le_refl _, Nat.le_refl _⟩ jm_r_I h rfl
          · have h := h.2 c5
            refine jm_iconst (v := 1) d_X11_count_86 rfl (jm_okI (by decide) (by decide)) ?_
            refine jm_goto (tgt := 96) d_X11_count_87 (by decide) ?_
            exact jm_ret (o := some (jm_I _)) d_X11_count_96 rfl ⟨Nat.le_refl _, Nat.le_refl _⟩ jm_r_I h rfl
        · have h := h.2 c4
          by_cases c6 : v1 = 4
          · have h := h.1 c6
            refine jm_table (tgt := 97) (off := 91) d_X11_count_6 (by rw [c6]; decide) (by rw [c6]; decide) (by rw [c6]; rfl) (by decide) ?_
            refine jm_aloadn d_X11_count_97 rfl ?_
            refine jm_getF (k := 14) (ki := 14) rfl cf_X11 (Nat.le_of_ble_eq_true rfl) f_X11_13 d_X11_count_98 rfl rfl is_133 fr_133_14 ?_
            refine jm_iconst (v := 4) d_X11_count_101 rfl (jm_okI (by decide) (by decide)) ?_
            refine jm_ialoadv d_X11_count_102 (ixl_135 (by decide) (by decide)) ((jm_up_i (by decide)).trans rfl) ?_
            exact jm_ret (o := some (jm_I _)) d_X11_count_103 rfl ⟨Nat.le_refl _, Nat.le_refl _⟩ jm_r_I h rfl
          · have h := h.2 c6
            by_cases c7 : v1 = 5
            · have h := h.1 c7
              refine jm_table (tgt := 104) (off := 98) d_X11_count_6 (by rw [c7]; decide) (by rw [c7]; decide) (by rw [c7]; rfl) (by decide) ?_
              refine jm_aloadn d_X11_count_104 rfl ?_
              refine jm_getF (k := 14) (ki := 14) rfl cf_X11 (Nat.le_of_ble_eq_true rfl) f_X11_13 d_X11_count_105 rfl rfl is_133 fr_133_14 ?_
              refine jm_iconst (v := 5) d_X11_count_108 rfl (jm_okI (by decide) (by decide)) ?_
              refine jm_ialoadv d_X11_count_109 (ixl_135 (by decide) (by decide)) ((jm_up_i (by decide)).trans rfl) ?_
              exact jm_ret (o := some (jm_I _)) d_X11_count_110 rfl ⟨Nat.le_refl _, Nat.le_refl _⟩ jm_r_I h rfl
            · have h := h.2 c7
              by_cases c8 : v1 = 6
              · have h := h.1 c8
                refine jm_table (tgt := 111) (off := 105) d_X11_count_6 (by rw [c8]; decide) (by rw [c8]; decide) (by rw [c8]; rfl) (by decide) ?_
                refine jm_aloadn d_X11_count_111 rfl ?_
                refine jm_getF (k := 14) (ki := 14) rfl cf_X11 (Nat.le_of_ble_eq_true rfl) f_X11_13 d_X11_count_112 rfl rfl is_133 fr_133_14 ?_
                refine jm_bipush (v := 60) d_X11_count_115 rfl (jm_okI (by decide) (by decide)) ?_
                refine jm_ialoadv d_X11_count_117 (ixl_135 (by decide) (by decide)) ((jm_up_i (by decide)).trans rfl) ?_
                exact jm_ret (o := some (jm_I _)) d_X11_count_118 rfl ⟨Nat.le_refl _, Nat.le_refl _⟩ jm_r_I h rfl
              · have h := h.2 c8
                by_cases c9 : v1 = 7
                · have h := h.1 c9
                  refine jm_table (tgt := 119) (off := 113) d_X11_count_6 (by rw [c9]; decide) (by rw [c9]; decide) (by rw [c9]; rfl) (by decide) ?_
                  refine jm_aloadn d_X11_count_119 rfl ?_
                  refine jm_getF (k := 14) (ki := 14) rfl cf_X11 (Nat.le_of_ble_eq_true rfl) f_X11_13 d_X11_count_120 rfl rfl is_133 fr_133_14 ?_
                  refine jm_sipush (v := 861) d_X11_count_123 rfl (jm_okI (by decide) (by decide)) ?_
                  refine jm_ialoadv d_X11_count_126 (ixl_135 (by decide) (by decide)) ((jm_up_i (by decide)).trans rfl) ?_
                  exact jm_ret (o := some (jm_I _)) d_X11_count_127 rfl ⟨Nat.le_refl _, Nat.le_refl _⟩ jm_r_I h rfl
                · have h := h.2 c9
                  by_cases c10 : v1 = 8
                  · have h := h.1 c10
                    refine jm_table (tgt := 128) (off := 122) d_X11_count_6 (by rw [c10]; decide) (by rw [c10]; decide) (by rw [c10]; rfl) (by decide) ?_
                    refine jm_aloadn d_X11_count_128 rfl ?_
                    refine jm_getI (k := 2) (ki := 2) cf_X11 (Nat.le_of_ble_eq_true rfl) f_X11_109 d_X11_count_129 rfl rfl is_133 ((jm_up_i (by decide)).trans rfl) ?_
                    exact jm_ret (o := some (jm_I _)) d_X11_count_132 rfl ⟨Nat.le_refl _, Nat.le_refl _⟩ jm_r_I h rfl
                  · have h := h.2 c10
                    refine jm_tableD (tgt := 133) d_X11_count_6 (jm_tb2 (jm_tb1 (jm_tb1 (jm_tb1 (jm_tb1 (jm_tb1 (jm_tb1 (jm_tb1 (jm_tb1 (jm_tb1 (jm_tb0 0) c1) c2) c3) c4) c6) c7) c8) c9) c10) rfl) (by decide) ?_
                    refine jm_iconst (v := (-1)) d_X11_count_133 rfl (jm_okI (by decide) (by decide)) ?_
                    exact jm_ret (o := some (jm_I _)) d_X11_count_134 rfl ⟨Nat.le_refl _, Nat.le_refl _⟩ jm_r_I h rfl
