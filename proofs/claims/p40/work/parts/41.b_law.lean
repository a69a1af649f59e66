/-! the law's body, by program (gen_lw.py) -/
theorem jm_Ch.mono {E : jm_E} {Y : jm_Y} {hh : List (Nat × Nat × Nat × Nat)} {d : Nat} {av : List jm_V} {μ : jm_M} {Q Q' : Option jm_V → jm_M → Prop} (h : jm_Ch E Y hh d av μ Q) (hq : ∀ o m, Q o m → jm_rok Y.2.2.2 o → Q' o m) : jm_Ch E Y hh d av μ Q' := by
  intro hav p e h1 h2 h3 s m args below h4 h5 h6 h7
  obtain ⟨k, o, a1, a2, a3, ⟨r, m1, b1, b2, b3, b4, b5⟩, a5⟩ := h hav p e h1 h2 h3 s m args below h4 h5 h6 h7
  exact ⟨k, o, a1, a2, a3, ⟨r, m1, b1, b2, b3, hq r m1 b4 b3, b5⟩, a5⟩
theorem jm_goodInW {y : MethodName} {b : ByteArray} {k : Nat} {r : Option FieldType} {hh : List (Nat × Nat × Nat × Nat)} {own : String} {idx : Nat} (h : Cond.codeWith y b k r hh ∈ jm_tbl) (h1 : Cond.methodLink own idx y ∈ jm_tbl) (h2 : Cond.static y ∈ jm_tbl) (h3 : Cond.initialized y.cls ∈ jm_tbl) : GoodIn jm_tbl (va_wsS own idx y (Cond.codeWith y b k r hh :: jm_tbl)) := by
  intro w hw
  have hm : w ∈ jm_tbl := by
    unfold va_wsS at hw
    rcases List.mem_append.mp hw with q | q
    · rcases List.mem_cons.mp q with rfl | q
      · exact h1
      · rcases List.mem_cons.mp q with rfl | q
        · exact h2
        · rcases List.mem_cons.mp q with rfl | q
          · exact h3
          · cases q
    · rcases List.mem_cons.mp q with rfl | q
      · exact h
      · exact q
  exact ⟨hm, good_of_word (List.mem_filter.mp hm).2⟩
section LW
variable {E : jm_E} {Y : jm_Y} {R : Room} {n' n cs sl pc C2 S2 : Nat} {L : List (Option jm_V)} {st : List jm_V} {μ : jm_M} {Q : Option jm_V → jm_M → Prop}
theorem jm_invH {Y' : jm_Y} {hh : List (Nat × Nat × Nat × Nat)} {idx k d : Nat} {av : List jm_V} {stf : List jm_V} (hcw : Cond.codeWith Y'.1 Y'.2.1 Y'.2.2.1 Y'.2.2.2 hh ∈ jm_tbl) (hsta : Cond.static Y'.1 ∈ jm_tbl) (hini : Cond.initialized Y'.1.cls ∈ jm_tbl) (hy : Y'.1.cls ≠ "java/lang/invoke/MethodHandle" ∧ Y'.1.cls ≠ "java/lang/invoke/VarHandle" ∧ (parseMethodDescriptor Y'.1.desc).map (fun d => d.parameters.length) = some k) (hml : Y'.2.2.1 ≤ 25)
    (hlink : Cond.methodLink Y.1.cls idx Y'.1 ∈ jm_tbl) (hd : decode Y.2.1 pc = .ok (.invokestatic idx, 3)) (hlen : av.length = k) (hroom : cs + 1 ≤ C2 ∧ sl + 6 ≤ S2) (hrest : st.length ≤ 4) (hst : stf = av.reverse ++ st)
    (h : jm_Ch E Y' hh d av μ (fun o m1 => jm_rok Y'.2.2.2 o → jm_G E Y (jm_rm (d + 1) C2 S2) n' jm_N (cs + 1) (sl + 6) (pc + 3) L (o.toList ++ st) m1 Q)) : jm_G E Y (jm_rm (d + 1) C2 S2) n' jm_N cs sl pc L stf μ Q := by
  subst hst
  intro p e s m args below meth c Z H locs ls C hZ hR hS hl hL hst
  have hts := C.2.2.2.2.1
  have hM := h (fun w hw => hst w (List.mem_append_left _ (List.mem_reverse.mpr hw)))
  rw [List.map_append, List.map_reverse]
  refine jm_after (vx_runSW (As := av.map (jm_cv E)) (rest := st.map (jm_cv E)) ⟨C.1, C.2.1, C.2.2.1, C.2.2.2.1, hts⟩ hM (vx_cwSW k hts (jm_goodInW hcw hlink hsta hini) rfl rfl rfl hy ⟨Nat.le_refl _, by show 8 + (Y'.2.2.1 + 11) + 44 * d ≤ 44 * (d + 1); omega⟩) ⟨jm_blind, jm_enter C hR hS⟩ rfl (by rw [List.length_map]; exact hlen) hl.1 rfl (lv_room (jm_catsum st hrest)) hd hroom) hS (fun o m1 H1 locs1 hQ ho hrok hR1 hS1 => ?_)
  have h2 := hQ hrok p e s m args below meth c Z H1 locs1 ls C hZ hR1 hS1 hl hL (jm_okst hst ho)
  rw [List.map_append] at h2
  have e1 : (o.map (jm_cv E)).toList = o.toList.map (jm_cv E) := by cases o <;> rfl
  rw [e1]
  exact h2
theorem jm_wid {cs' sl' : Nat} (h1 : cs ≤ cs') (h2 : sl ≤ sl') (h : jm_G E Y R n' n cs' sl' pc L st μ Q) : jm_G E Y R n' n cs sl pc L st μ Q := fun p e s m args below meth c Z H locs ls C hZ hR hS hl hL hst => W.widen h1 h2 (h p e s m args below meth c Z H locs ls C hZ hR hS hl hL hst)
end LW
set_option maxRecDepth 20000 in
theorem r_L_law_30 {E : jm_E} {d C2 S2 cs sl : Nat} {μ : jm_M} {Q : Option jm_V → jm_M → Prop} (hc : cs + 9 ≤ C2) (hs : sl + 120 ≤ S2) (h :
  jc E m_X10_count d [jm_R 0, jm_I 0] μ (fun (o : Option jm_V) (m1 : jm_M) => ∀ r2 : Int, o = some (jm_I r2) →
  ((r2 ≠ 0 →
    Q (some (jm_I 0)) m1) ∧
   (¬ (r2 ≠ 0) →
    jc E m_X10_count d [jm_R 0, jm_I 3] m1 (fun (o : Option jm_V) (m4 : jm_M) => ∀ r5 : Int, o = some (jm_I r5) →
    ((r5 ≠ 1 →
      Q (some (jm_I 0)) m4) ∧
     (¬ (r5 ≠ 1) →
      jc E m_X10_count d [jm_R 0, jm_I 6] m4 (fun (o : Option jm_V) (m7 : jm_M) => ∀ r8 : Int, o = some (jm_I r8) →
      ((r8 ≠ 0 →
        Q (some (jm_I 0)) m7) ∧
       (¬ (r8 ≠ 0) →
        jc E m_X10_threads d [jm_R 0] m7 (fun (o : Option jm_V) (m10 : jm_M) => ∀ r11 : Int, o = some (jm_I r11) →
        ((r11 ≠ 0 →
          Q (some (jm_I 0)) m10) ∧
         (¬ (r11 ≠ 0) →
          jc E m_X10_undo d [jm_R 0] m10 (fun (o : Option jm_V) (m13 : jm_M) => ∀ r14 : Int, o = some (jm_I r14) →
          ((r14 ≠ ((-1)) →
            Q (some (jm_I 0)) m13) ∧
           (¬ (r14 ≠ ((-1))) →
            jc E m_X10_say d [jm_R 0, jm_I 0, jm_I 0] m13 (fun (o : Option jm_V) (m16 : jm_M) => ∀ r17 : Int, o = some (jm_I r17) →
            ((r17 ≠ ((-1)) →
              Q (some (jm_I 0)) m16) ∧
             (¬ (r17 ≠ ((-1))) →
              jc E m_X10_may d [jm_R 0, jm_I 0] m16 (fun (o : Option jm_V) (m19 : jm_M) => ∀ r20 : Int, o = some (jm_I r20) →
              ((r20 ≠ ((-1)) →
                Q (some (jm_I 0)) m19) ∧
               (¬ (r20 ≠ ((-1))) →
                jc E m_X10_why d [jm_R 0] m19 (fun (o : Option jm_V) (m22 : jm_M) => ∀ r23 : Int, o = some (jm_I r23) →
                ((r23 ≠ 0 →
                  Q (some (jm_I 0)) m22) ∧
                 (¬ (r23 ≠ 0) →
                  jc E m_X10_wholes d [jm_R 0, jm_I 0] m22 (fun (o : Option jm_V) (m25 : jm_M) => ∀ r26 : Int, o = some (jm_I r26) →
                  ((r26 ≠ 1 →
                    Q (some (jm_I 0)) m25) ∧
                   (¬ (r26 ≠ 1) →
                    jc E m_X10_wholes d [jm_R 0, jm_I 1] m25 (fun (o : Option jm_V) (m28 : jm_M) => ∀ r29 : Int, o = some (jm_I r29) →
                    ((r29 ≠ 0 →
                      Q (some (jm_I 0)) m28) ∧
                     (¬ (r29 ≠ 0) →
                      jc E m_X10_wholes d [jm_R 0, jm_I 3] m28 (fun (o : Option jm_V) (m31 : jm_M) => ∀ r32 : Int, o = some (jm_I r32) →
                      ((r32 ≠ ((-1)) →
                        Q (some (jm_I 0)) m31) ∧
                       (¬ (r32 ≠ ((-1))) →
                        jc E m_X10_mended d [jm_R 0] m31 (fun (o : Option jm_V) (m34 : jm_M) => ∀ r35 : Int, o = some (jm_I r35) →
                        ((r35 ≠ ((-1)) →
                          Q (some (jm_I 0)) m34) ∧
                         (¬ (r35 ≠ ((-1))) →
                          jc E m_X10_orders d [jm_R 0] m34 (fun (o : Option jm_V) (m37 : jm_M) => ∀ r38 : Int, o = some (jm_I r38) →
                          ((r38 ≠ 1 →
                            Q (some (jm_I 0)) m37) ∧
                           (¬ (r38 ≠ 1) →
                            jc E m_X10_said d [jm_R 0, jm_I ((-1))] m37 (fun (o : Option jm_V) (m40 : jm_M) => ∀ r41 : Int, o = some (jm_I r41) →
                            ((r41 ≠ ((-1)) →
                              Q (some (jm_I 0)) m40) ∧
                             (¬ (r41 ≠ ((-1))) →
                              jc E m_X10_spoke d [jm_R 0, jm_I ((-1)), jm_I ((-1))] m40 (fun (o : Option jm_V) (m43 : jm_M) => ∀ r44 : Int, o = some (jm_I r44) →
                              ((r44 ≠ 0 →
                                Q (some (jm_I 0)) m43) ∧
                               (¬ (r44 ≠ 0) →
                                jc E m_X10_drawn d [jm_R 0, jm_I 5, jm_I 1] m43 (fun (o : Option jm_V) (m46 : jm_M) => ∀ r47 : Int, o = some (jm_I r47) →
                                ((r47 = 0 →
                                  (jm_sL E < 2147483648) ∧
                                  ((((jm_sL E : Int)) ≤ 0 →
                                    ((((jm_sL E : Int)) ≤ 1 →
                                      jc E m_L_told d [jm_R 0, jm_R 133, jm_R 134, jm_I 16417, jm_I 19088743] m46 (fun (o : Option jm_V) (m52 : jm_M) => ∀ r53 : Int, o = some (jm_I r53) → (r53 = 0 ∨ r53 = 1) →
                                      ((r53 ≠ 0 →
                                        jm_G E m_L_law (jm_rm (d + 1) C2 S2) jm_N jm_N (cs + 0) (sl + 0) 210 [some (jm_R ((-2))), some (jm_R 0), none, some (jm_R 134), some (jm_R 135), some (jm_R 136), some (jm_I 0), none, none, none, none, none, none, none, none] [] m52 Q) ∧
                                       (¬ (r53 ≠ 0) →
                                        Q (some (jm_I 0)) m52)))) ∧
                                     (¬ (((jm_sL E : Int)) ≤ 1) →
                                      ((0 : Int) ≤ 1 ∧ 1 < (jm_sL E : Int)) ∧
                                      jc E m_L_told d [jm_R 0, jm_R 133, jm_R 134, jm_I 16417, jm_I ((jm_sx E (1 : Int).toNat).toInt)] m46 (fun (o : Option jm_V) (m57 : jm_M) => ∀ r58 : Int, o = some (jm_I r58) → (r58 = 0 ∨ r58 = 1) →
                                      ((r58 ≠ 0 →
                                        jm_G E m_L_law (jm_rm (d + 1) C2 S2) jm_N jm_N (cs + 0) (sl + 0) 210 [some (jm_R ((-2))), some (jm_R 0), none, some (jm_R 134), some (jm_R 135), some (jm_R 136), some (jm_I 0), none, none, none, none, none, none, none, none] [] m57 Q) ∧
                                       (¬ (r58 ≠ 0) →
                                        Q (some (jm_I 0)) m57)))))) ∧
                                   (¬ (((jm_sL E : Int)) ≤ 0) →
                                    ((0 : Int) ≤ 0 ∧ 0 < (jm_sL E : Int)) ∧
                                    ((((jm_sL E : Int)) ≤ 1 →
                                      jc E m_L_told d [jm_R 0, jm_R 133, jm_R 134, jm_I ((jm_sx E (0 : Int).toNat).toInt), jm_I 19088743] m46 (fun (o : Option jm_V) (m63 : jm_M) => ∀ r64 : Int, o = some (jm_I r64) → (r64 = 0 ∨ r64 = 1) →
                                      ((r64 ≠ 0 →
                                        jm_G E m_L_law (jm_rm (d + 1) C2 S2) jm_N jm_N (cs + 0) (sl + 0) 210 [some (jm_R ((-2))), some (jm_R 0), none, some (jm_R 134), some (jm_R 135), some (jm_R 136), some (jm_I 0), none, none, none, none, none, none, none, none] [] m63 Q) ∧
                                       (¬ (r64 ≠ 0) →
                                        Q (some (jm_I 0)) m63)))) ∧
                                     (¬ (((jm_sL E : Int)) ≤ 1) →
                                      ((0 : Int) ≤ 1 ∧ 1 < (jm_sL E : Int)) ∧
                                      jc E m_L_told d [jm_R 0, jm_R 133, jm_R 134, jm_I ((jm_sx E (0 : Int).toNat).toInt), jm_I ((jm_sx E (1 : Int).toNat).toInt)] m46 (fun (o : Option jm_V) (m68 : jm_M) => ∀ r69 : Int, o = some (jm_I r69) → (r69 = 0 ∨ r69 = 1) →
                                      ((r69 ≠ 0 →
                                        jm_G E m_L_law (jm_rm (d + 1) C2 S2) jm_N jm_N (cs + 0) (sl + 0) 210 [some (jm_R ((-2))), some (jm_R 0), none, some (jm_R 134), some (jm_R 135), some (jm_R 136), some (jm_I 0), none, none, none, none, none, none, none, none] [] m68 Q) ∧
                                       (¬ (r69 ≠ 0) →
                                        Q (some (jm_I 0)) m68)))))))) ∧
                                 (¬ (r47 = 0) →
                                  Q (some (jm_I 0)) m46))))))))))))))))))))))))))))))))))))))))))))))))) : jm_G E m_L_law (jm_rm (d + 1) C2 S2) jm_N jm_N cs sl 30 [some (jm_R ((-2))), some (jm_R 0), some (jm_R 133), some (jm_R 134), some (jm_R 135), some (jm_R 136), none, none, none, none, none, none, none, none, none] [] μ Q := by
  refine jm_aloadn d_L_law_30 rfl ?_
  refine jm_iconst (v := 0) d_L_law_31 rfl (jm_okI (by decide) (by decide)) ?_
  refine jm_invV (n1 := jm_N) (mc := 0) (ms := 0) (av := [jm_I _]) w_X10_count l_L_90 d_L_law_32 rfl is_0 ⟨_, _, rfl⟩ ⟨by show _ ≤ C2; omega, by show _ ≤ S2; omega⟩ (Nat.le_of_ble_eq_true rfl) rfl ?_
  refine jm_Cl.mono h (fun o m1 h hr _ => ?_)
  obtain ⟨r2, rfl⟩ := jm_rokI hr
  have h := h _ rfl
  refine jm_if_ne (tgt := 166) d_L_law_35 (by decide) (fun c3 => ?_) (fun c3 => ?_)
  · have h := h.1 c3
    refine jm_iconst (v := 0) d_L_law_166 rfl (jm_okI (by decide) (by decide)) ?_
    exact jm_ret (o := some (jm_I _)) d_L_law_167 rfl ⟨by show _ ≤ C2; omega, by show _ ≤ S2; omega⟩ (jm_r_Z (by decide)) h rfl
  · have h := h.2 c3
    refine jm_aloadn d_L_law_38 rfl ?_
    refine jm_iconst (v := 3) d_L_law_39 rfl (jm_okI (by decide) (by decide)) ?_
    refine jm_invV (n1 := jm_N) (mc := 0) (ms := 0) (av := [jm_I _]) w_X10_count l_L_90 d_L_law_40 rfl is_0 ⟨_, _, rfl⟩ ⟨by show _ ≤ C2; omega, by show _ ≤ S2; omega⟩ (Nat.le_of_ble_eq_true rfl) rfl ?_
    refine jm_Cl.mono h (fun o m4 h hr _ => ?_)
    obtain ⟨r5, rfl⟩ := jm_rokI hr
    have h := h _ rfl
    refine jm_iconst (v := 1) d_L_law_43 rfl (jm_okI (by decide) (by decide)) ?_
    refine jm_icmp_ne (tgt := 166) d_L_law_44 (by decide) (fun c6 => ?_) (fun c6 => ?_)
    · have h := h.1 c6
      refine jm_iconst (v := 0) d_L_law_166 rfl (jm_okI (by decide) (by decide)) ?_
      exact jm_ret (o := some (jm_I _)) d_L_law_167 rfl ⟨by show _ ≤ C2; omega, by show _ ≤ S2; omega⟩ (jm_r_Z (by decide)) h rfl
    · have h := h.2 c6
      refine jm_aloadn d_L_law_47 rfl ?_
      refine jm_bipush (v := 6) d_L_law_48 rfl (jm_okI (by decide) (by decide)) ?_
      refine jm_invV (n1 := jm_N) (mc := 0) (ms := 0) (av := [jm_I _]) w_X10_count l_L_90 d_L_law_50 rfl is_0 ⟨_, _, rfl⟩ ⟨by show _ ≤ C2; omega, by show _ ≤ S2; omega⟩ (Nat.le_of_ble_eq_true rfl) rfl ?_
      refine jm_Cl.mono h (fun o m7 h hr _ => ?_)
      obtain ⟨r8, rfl⟩ := jm_rokI hr
      have h := h _ rfl
      refine jm_if_ne (tgt := 166) d_L_law_53 (by decide) (fun c9 => ?_) (fun c9 => ?_)
      · have h := h.1 c9
        refine jm_iconst (v := 0) d_L_law_166 rfl (jm_okI (by decide) (by decide)) ?_
        exact jm_ret (o := some (jm_I _)) d_L_law_167 rfl ⟨by show _ ≤ C2; omega, by show _ ≤ S2; omega⟩ (jm_r_Z (by decide)) h rfl
      · have h := h.2 c9
        refine jm_aloadn d_L_law_56 rfl ?_
        refine jm_invV (n1 := jm_N) (mc := 0) (ms := 0) (av := []) w_X10_threads l_L_105 d_L_law_57 rfl is_0 ⟨_, _, rfl⟩ ⟨by show _ ≤ C2; omega, by show _ ≤ S2; omega⟩ (Nat.le_of_ble_eq_true rfl) rfl ?_
        refine jm_Cl.mono h (fun o m10 h hr _ => ?_)
        obtain ⟨r11, rfl⟩ := jm_rokI hr
        have h := h _ rfl
        refine jm_if_ne (tgt := 166) d_L_law_60 (by decide) (fun c12 => ?_) (fun c12 => ?_)
        · have h := h.1 c12
          refine jm_iconst (v := 0) d_L_law_166 rfl (jm_okI (by decide) (by decide)) ?_
          exact jm_ret (o := some (jm_I _)) d_L_law_167 rfl ⟨by show _ ≤ C2; omega, by show _ ≤ S2; omega⟩ (jm_r_Z (by decide)) h rfl
        · have h := h.2 c12
          refine jm_aloadn d_L_law_63 rfl ?_
          refine jm_invV (n1 := jm_N) (mc := 0) (ms := 0) (av := []) w_X10_undo l_L_108 d_L_law_64 rfl is_0 ⟨_, _, rfl⟩ ⟨by show _ ≤ C2; omega, by show _ ≤ S2; omega⟩ (Nat.le_of_ble_eq_true rfl) rfl ?_
          refine jm_Cl.mono h (fun o m13 h hr _ => ?_)
          obtain ⟨r14, rfl⟩ := jm_rokI hr
          have h := h _ rfl
          refine jm_iconst (v := (-1)) d_L_law_67 rfl (jm_okI (by decide) (by decide)) ?_
          refine jm_icmp_ne (tgt := 166) d_L_law_68 (by decide) (fun c15 => ?_) (fun c15 => ?_)
          · have h := h.1 c15
            refine jm_iconst (v := 0) d_L_law_166 rfl (jm_okI (by decide) (by decide)) ?_
            exact jm_ret (o := some (jm_I _)) d_L_law_167 rfl ⟨by show _ ≤ C2; omega, by show _ ≤ S2; omega⟩ (jm_r_Z (by decide)) h rfl
          · have h := h.2 c15
            refine jm_aloadn d_L_law_71 rfl ?_
            refine jm_iconst (v := 0) d_L_law_72 rfl (jm_okI (by decide) (by decide)) ?_
            refine jm_iconst (v := 0) d_L_law_73 rfl (jm_okI (by decide) (by decide)) ?_
            refine jm_invV (n1 := jm_N) (mc := 0) (ms := 0) (av := [jm_I _, jm_I _]) w_X10_say l_L_101 d_L_law_74 rfl is_0 ⟨_, _, rfl⟩ ⟨by show _ ≤ C2; omega, by show _ ≤ S2; omega⟩ (Nat.le_of_ble_eq_true rfl) rfl ?_
            refine jm_Cl.mono h (fun o m16 h hr _ => ?_)
            obtain ⟨r17, rfl⟩ := jm_rokI hr
            have h := h _ rfl
            refine jm_iconst (v := (-1)) d_L_law_77 rfl (jm_okI (by decide) (by decide)) ?_
            refine jm_icmp_ne (tgt := 166) d_L_law_78 (by decide) (fun c18 => ?_) (fun c18 => ?_)
            · have h := h.1 c18
              refine jm_iconst (v := 0) d_L_law_166 rfl (jm_okI (by decide) (by decide)) ?_
              exact jm_ret (o := some (jm_I _)) d_L_law_167 rfl ⟨by show _ ≤ C2; omega, by show _ ≤ S2; omega⟩ (jm_r_Z (by decide)) h rfl
            · have h := h.2 c18
              refine jm_aloadn d_L_law_81 rfl ?_
              refine jm_iconst (v := 0) d_L_law_82 rfl (jm_okI (by decide) (by decide)) ?_
              refine jm_invV (n1 := jm_N) (mc := 0) (ms := 0) (av := [jm_I _]) w_X10_may l_L_111 d_L_law_83 rfl is_0 ⟨_, _, rfl⟩ ⟨by show _ ≤ C2; omega, by show _ ≤ S2; omega⟩ (Nat.le_of_ble_eq_true rfl) rfl ?_
              refine jm_Cl.mono h (fun o m19 h hr _ => ?_)
              obtain ⟨r20, rfl⟩ := jm_rokI hr
              have h := h _ rfl
              refine jm_iconst (v := (-1)) d_L_law_86 rfl (jm_okI (by decide) (by decide)) ?_
              refine jm_icmp_ne (tgt := 166) d_L_law_87 (by decide) (fun c21 => ?_) (fun c21 => ?_)
              · have h := h.1 c21
                refine jm_iconst (v := 0) d_L_law_166 rfl (jm_okI (by decide) (by decide)) ?_
                exact jm_ret (o := some (jm_I _)) d_L_law_167 rfl ⟨by show _ ≤ C2; omega, by show _ ≤ S2; omega⟩ (jm_r_Z (by decide)) h rfl
              · have h := h.2 c21
                refine jm_aloadn d_L_law_90 rfl ?_
                refine jm_invV (n1 := jm_N) (mc := 0) (ms := 0) (av := []) w_X10_why l_L_114 d_L_law_91 rfl is_0 ⟨_, _, rfl⟩ ⟨by show _ ≤ C2; omega, by show _ ≤ S2; omega⟩ (Nat.le_of_ble_eq_true rfl) rfl ?_
                refine jm_Cl.mono h (fun o m22 h hr _ => ?_)
                obtain ⟨r23, rfl⟩ := jm_rokI hr
                have h := h _ rfl
                refine jm_if_ne (tgt := 166) d_L_law_94 (by decide) (fun c24 => ?_) (fun c24 => ?_)
                · have h := h.1 c24
                  refine jm_iconst (v := 0) d_L_law_166 rfl (jm_okI (by decide) (by decide)) ?_
                  exact jm_ret (o := some (jm_I _)) d_L_law_167 rfl ⟨by show _ ≤ C2; omega, by show _ ≤ S2; omega⟩ (jm_r_Z (by decide)) h rfl
                · have h := h.2 c24
                  refine jm_aloadn d_L_law_97 rfl ?_
                  refine jm_iconst (v := 0) d_L_law_98 rfl (jm_okI (by decide) (by decide)) ?_
                  refine jm_invV (n1 := jm_N) (mc := 0) (ms := 0) (av := [jm_I _]) w_X10_wholes l_L_117 d_L_law_99 rfl is_0 ⟨_, _, rfl⟩ ⟨by show _ ≤ C2; omega, by show _ ≤ S2; omega⟩ (Nat.le_of_ble_eq_true rfl) rfl ?_
                  refine jm_Cl.mono h (fun o m25 h hr _ => ?_)
                  obtain ⟨r26, rfl⟩ := jm_rokI hr
                  have h := h _ rfl
                  refine jm_iconst (v := 1) d_L_law_102 rfl (jm_okI (by decide) (by decide)) ?_
                  refine jm_icmp_ne (tgt := 166) d_L_law_103 (by decide) (fun c27 => ?_) (fun c27 => ?_)
                  · have h := h.1 c27
                    refine jm_iconst (v := 0) d_L_law_166 rfl (jm_okI (by decide) (by decide)) ?_
                    exact jm_ret (o := some (jm_I _)) d_L_law_167 rfl ⟨by show _ ≤ C2; omega, by show _ ≤ S2; omega⟩ (jm_r_Z (by decide)) h rfl
                  · have h := h.2 c27
                    refine jm_aloadn d_L_law_106 rfl ?_
                    refine jm_iconst (v := 1) d_L_law_107 rfl (jm_okI (by decide) (by decide)) ?_
                    refine jm_invV (n1 := jm_N) (mc := 0) (ms := 0) (av := [jm_I _]) w_X10_wholes l_L_117 d_L_law_108 rfl is_0 ⟨_, _, rfl⟩ ⟨by show _ ≤ C2; omega, by show _ ≤ S2; omega⟩ (Nat.le_of_ble_eq_true rfl) rfl ?_
                    refine jm_Cl.mono h (fun o m28 h hr _ => ?_)
                    obtain ⟨r29, rfl⟩ := jm_rokI hr
                    have h := h _ rfl
                    refine jm_if_ne (tgt := 166) d_L_law_111 (by decide) (fun c30 => ?_) (fun c30 => ?_)
                    · have h := h.1 c30
                      refine jm_iconst (v := 0) d_L_law_166 rfl (jm_okI (by decide) (by decide)) ?_
                      exact jm_ret (o := some (jm_I _)) d_L_law_167 rfl ⟨by show _ ≤ C2; omega, by show _ ≤ S2; omega⟩ (jm_r_Z (by decide)) h rfl
                    · have h := h.2 c30
                      refine jm_aloadn d_L_law_114 rfl ?_
                      refine jm_iconst (v := 3) d_L_law_115 rfl (jm_okI (by decide) (by decide)) ?_
                      refine jm_invV (n1 := jm_N) (mc := 0) (ms := 0) (av := [jm_I _]) w_X10_wholes l_L_117 d_L_law_116 rfl is_0 ⟨_, _, rfl⟩ ⟨by show _ ≤ C2; omega, by show _ ≤ S2; omega⟩ (Nat.le_of_ble_eq_true rfl) rfl ?_
                      refine jm_Cl.mono h (fun o m31 h hr _ => ?_)
                      obtain ⟨r32, rfl⟩ := jm_rokI hr
                      have h := h _ rfl
                      refine jm_iconst (v := (-1)) d_L_law_119 rfl (jm_okI (by decide) (by decide)) ?_
                      refine jm_icmp_ne (tgt := 166) d_L_law_120 (by decide) (fun c33 => ?_) (fun c33 => ?_)
                      · have h := h.1 c33
                        refine jm_iconst (v := 0) d_L_law_166 rfl (jm_okI (by decide) (by decide)) ?_
                        exact jm_ret (o := some (jm_I _)) d_L_law_167 rfl ⟨by show _ ≤ C2; omega, by show _ ≤ S2; omega⟩ (jm_r_Z (by decide)) h rfl
                      · have h := h.2 c33
                        refine jm_aloadn d_L_law_123 rfl ?_
                        refine jm_invV (n1 := jm_N) (mc := 0) (ms := 0) (av := []) w_X10_mended l_L_120 d_L_law_124 rfl is_0 ⟨_, _, rfl⟩ ⟨by show _ ≤ C2; omega, by show _ ≤ S2; omega⟩ (Nat.le_of_ble_eq_true rfl) rfl ?_
                        refine jm_Cl.mono h (fun o m34 h hr _ => ?_)
                        obtain ⟨r35, rfl⟩ := jm_rokI hr
                        have h := h _ rfl
                        refine jm_iconst (v := (-1)) d_L_law_127 rfl (jm_okI (by decide) (by decide)) ?_
                        refine jm_icmp_ne (tgt := 166) d_L_law_128 (by decide) (fun c36 => ?_) (fun c36 => ?_)
                        · have h := h.1 c36
                          refine jm_iconst (v := 0) d_L_law_166 rfl (jm_okI (by decide) (by decide)) ?_
                          exact jm_ret (o := some (jm_I _)) d_L_law_167 rfl ⟨by show _ ≤ C2; omega, by show _ ≤ S2; omega⟩ (jm_r_Z (by decide)) h rfl
                        · have h := h.2 c36
                          refine jm_aloadn d_L_law_131 rfl ?_
                          refine jm_invV (n1 := jm_N) (mc := 0) (ms := 0) (av := []) w_X10_orders l_L_123 d_L_law_132 rfl is_0 ⟨_, _, rfl⟩ ⟨by show _ ≤ C2; omega, by show _ ≤ S2; omega⟩ (Nat.le_of_ble_eq_true rfl) rfl ?_
                          refine jm_Cl.mono h (fun o m37 h hr _ => ?_)
                          obtain ⟨r38, rfl⟩ := jm_rokI hr
                          have h := h _ rfl
                          refine jm_iconst (v := 1) d_L_law_135 rfl (jm_okI (by decide) (by decide)) ?_
                          refine jm_icmp_ne (tgt := 166) d_L_law_136 (by decide) (fun c39 => ?_) (fun c39 => ?_)
                          · have h := h.1 c39
                            refine jm_iconst (v := 0) d_L_law_166 rfl (jm_okI (by decide) (by decide)) ?_
                            exact jm_ret (o := some (jm_I _)) d_L_law_167 rfl ⟨by show _ ≤ C2; omega, by show _ ≤ S2; omega⟩ (jm_r_Z (by decide)) h rfl
                          · have h := h.2 c39
                            refine jm_aloadn d_L_law_139 rfl ?_
                            refine jm_iconst (v := (-1)) d_L_law_140 rfl (jm_okI (by decide) (by decide)) ?_
                            refine jm_invV (n1 := jm_N) (mc := 0) (ms := 0) (av := [jm_I _]) w_X10_said l_L_126 d_L_law_141 rfl is_0 ⟨_, _, rfl⟩ ⟨by show _ ≤ C2; omega, by show _ ≤ S2; omega⟩ (Nat.le_of_ble_eq_true rfl) rfl ?_
                            refine jm_Cl.mono h (fun o m40 h hr _ => ?_)
                            obtain ⟨r41, rfl⟩ := jm_rokI hr
                            have h := h _ rfl
                            refine jm_iconst (v := (-1)) d_L_law_144 rfl (jm_okI (by decide) (by decide)) ?_
                            refine jm_icmp_ne (tgt := 166) d_L_law_145 (by decide) (fun c42 => ?_) (fun c42 => ?_)
                            · have h := h.1 c42
                              refine jm_iconst (v := 0) d_L_law_166 rfl (jm_okI (by decide) (by decide)) ?_
                              exact jm_ret (o := some (jm_I _)) d_L_law_167 rfl ⟨by show _ ≤ C2; omega, by show _ ≤ S2; omega⟩ (jm_r_Z (by decide)) h rfl
                            · have h := h.2 c42
                              refine jm_aloadn d_L_law_148 rfl ?_
                              refine jm_iconst (v := (-1)) d_L_law_149 rfl (jm_okI (by decide) (by decide)) ?_
                              refine jm_iconst (v := (-1)) d_L_law_150 rfl (jm_okI (by decide) (by decide)) ?_
                              refine jm_invV (n1 := jm_N) (mc := 0) (ms := 0) (av := [jm_I _, jm_I _]) w_X10_spoke l_L_129 d_L_law_151 rfl is_0 ⟨_, _, rfl⟩ ⟨by show _ ≤ C2; omega, by show _ ≤ S2; omega⟩ (Nat.le_of_ble_eq_true rfl) rfl ?_
                              refine jm_Cl.mono h (fun o m43 h hr _ => ?_)
                              obtain ⟨r44, rfl⟩ := jm_rokI hr
                              have h := h _ rfl
                              refine jm_if_ne (tgt := 166) d_L_law_154 (by decide) (fun c45 => ?_) (fun c45 => ?_)
                              · have h := h.1 c45
                                refine jm_iconst (v := 0) d_L_law_166 rfl (jm_okI (by decide) (by decide)) ?_
                                exact jm_ret (o := some (jm_I _)) d_L_law_167 rfl ⟨by show _ ≤ C2; omega, by show _ ≤ S2; omega⟩ (jm_r_Z (by decide)) h rfl
                              · have h := h.2 c45
                                refine jm_aloadn d_L_law_157 rfl ?_
                                refine jm_iconst (v := 5) d_L_law_158 rfl (jm_okI (by decide) (by decide)) ?_
                                refine jm_iconst (v := 1) d_L_law_159 rfl (jm_okI (by decide) (by decide)) ?_
                                refine jm_invV (n1 := jm_N) (mc := 0) (ms := 0) (av := [jm_I _, jm_I _]) w_X10_drawn l_L_132 d_L_law_160 rfl is_0 ⟨_, _, rfl⟩ ⟨by show _ ≤ C2; omega, by show _ ≤ S2; omega⟩ (Nat.le_of_ble_eq_true rfl) rfl ?_
                                refine jm_Cl.mono h (fun o m46 h hr _ => ?_)
                                obtain ⟨r47, rfl⟩ := jm_rokI hr
                                have h := h _ rfl
                                refine jm_if_eq (tgt := 168) d_L_law_163 (by decide) (fun c48 => ?_) (fun c48 => ?_)
                                · have h := h.1 c48
                                  refine jm_aloadn d_L_law_168 rfl ?_
                                  refine jm_aloadn d_L_law_169 rfl ?_
                                  refine jm_aloadn d_L_law_170 rfl ?_
                                  refine jm_aloadn d_L_law_171 rfl ?_
                                  obtain ⟨f49, h⟩ := h
                                  refine jm_slen f49 d_L_law_172 ?_
                                  refine jm_if_le (tgt := 182) d_L_law_173 (by decide) (fun c50 => ?_) (fun c50 => ?_)
                                  · have h := h.1 c50
                                    refine jm_sipush (v := 16417) d_L_law_182 rfl (jm_okI (by decide) (by decide)) ?_
                                    refine jm_aloadn d_L_law_185 rfl ?_
                                    refine jm_slen f49 d_L_law_186 ?_
                                    refine jm_iconst (v := 1) d_L_law_187 rfl (jm_okI (by decide) (by decide)) ?_
                                    refine jm_icmp_le (tgt := 197) d_L_law_188 (by decide) (fun c51 => ?_) (fun c51 => ?_)
                                    · have h := h.1 c51
                                      refine jm_ldc (v := 19088743) d_L_law_197 k_L_135 (jm_okI (by decide) (by decide)) ?_
                                      refine jm_invS (n1 := jm_N) (mc := 0) (ms := 0) (av := [jm_R _, jm_R _, jm_R _, jm_I _, jm_I _]) w_L_told l_L_136 d_L_law_199 rfl ⟨by show _ ≤ C2; omega, by show _ ≤ S2; omega⟩ (Nat.le_of_ble_eq_true rfl) rfl ?_
                                      refine jm_Cl.mono h (fun o m52 h hr _ => ?_)
                                      obtain ⟨r53, rfl, z54⟩ := jm_rokZ hr
                                      have h := h _ rfl z54
                                      refine jm_if_ne (tgt := 207) d_L_law_202 (by decide) (fun c55 => ?_) (fun c55 => ?_)
                                      · have h := h.1 c55
                                        refine jm_iconst (v := 0) d_L_law_207 rfl (jm_okI (by decide) (by decide)) ?_
                                        refine jm_istore (L' := [some (jm_R _), some (jm_R _), some (jm_R _), some (jm_R _), some (jm_R _), some (jm_R _), some (jm_I _), none, none, none, none, none, none, none, none]) d_L_law_208 (Nat.le_of_ble_eq_true rfl) rfl ?_
                                        exact jm_weak2 h (And.intro rfl (And.intro rfl (And.intro rfl (And.intro rfl (And.intro rfl (And.intro rfl trivial))))))
                                      · have h := h.2 c55
                                        refine jm_iconst (v := 0) d_L_law_205 rfl (jm_okI (by decide) (by decide)) ?_
                                        exact jm_ret (o := some (jm_I _)) d_L_law_206 rfl ⟨by show _ ≤ C2; omega, by show _ ≤ S2; omega⟩ (jm_r_Z (by decide)) h rfl
                                    · have h := h.2 c51
                                      refine jm_aloadn d_L_law_191 rfl ?_
                                      refine jm_iconst (v := 1) d_L_law_192 rfl (jm_okI (by decide) (by decide)) ?_
                                      obtain ⟨f56, h⟩ := h
                                      refine jm_sld d_L_law_193 f56.1 f56.2 ?_
                                      refine jm_goto (tgt := 199) d_L_law_194 (by decide) ?_
                                      refine jm_invS (n1 := jm_N) (mc := 0) (ms := 0) (av := [jm_R _, jm_R _, jm_R _, jm_I _, jm_I _]) w_L_told l_L_136 d_L_law_199 rfl ⟨by show _ ≤ C2; omega, by show _ ≤ S2; omega⟩ (Nat.le_of_ble_eq_true rfl) rfl ?_
                                      refine jm_Cl.mono h (fun o m57 h hr _ => ?_)
                                      obtain ⟨r58, rfl, z59⟩ := jm_rokZ hr
                                      have h := h _ rfl z59
                                      refine jm_if_ne (tgt := 207) d_L_law_202 (by decide) (fun c60 => ?_) (fun c60 => ?_)
                                      · have h := h.1 c60
                                        refine jm_iconst (v := 0) d_L_law_207 rfl (jm_okI (by decide) (by decide)) ?_
                                        refine jm_istore (L' := [some (jm_R _), some (jm_R _), some (jm_R _), some (jm_R _), some (jm_R _), some (jm_R _), some (jm_I _), none, none, none, none, none, none, none, none]) d_L_law_208 (Nat.le_of_ble_eq_true rfl) rfl ?_
                                        exact jm_weak2 h (And.intro rfl (And.intro rfl (And.intro rfl (And.intro rfl (And.intro rfl (And.intro rfl trivial))))))
                                      · have h := h.2 c60
                                        refine jm_iconst (v := 0) d_L_law_205 rfl (jm_okI (by decide) (by decide)) ?_
                                        exact jm_ret (o := some (jm_I _)) d_L_law_206 rfl ⟨by show _ ≤ C2; omega, by show _ ≤ S2; omega⟩ (jm_r_Z (by decide)) h rfl
                                  · have h := h.2 c50
                                    refine jm_aloadn d_L_law_176 rfl ?_
                                    refine jm_iconst (v := 0) d_L_law_177 rfl (jm_okI (by decide) (by decide)) ?_
                                    obtain ⟨f61, h⟩ := h
                                    refine jm_sld d_L_law_178 f61.1 f61.2 ?_
                                    refine jm_goto (tgt := 185) d_L_law_179 (by decide) ?_
                                    refine jm_aloadn d_L_law_185 rfl ?_
                                    refine jm_slen f49 d_L_law_186 ?_
                                    refine jm_iconst (v := 1) d_L_law_187 rfl (jm_okI (by decide) (by decide)) ?_
                                    refine jm_icmp_le (tgt := 197) d_L_law_188 (by decide) (fun c62 => ?_) (fun c62 => ?_)
                                    · have h := h.1 c62
                                      refine jm_ldc (v := 19088743) d_L_law_197 k_L_135 (jm_okI (by decide) (by decide)) ?_
                                      refine jm_invS (n1 := jm_N) (mc := 0) (ms := 0) (av := [jm_R _, jm_R _, jm_R _, jm_I _, jm_I _]) w_L_told l_L_136 d_L_law_199 rfl ⟨by show _ ≤ C2; omega, by show _ ≤ S2; omega⟩ (Nat.le_of_ble_eq_true rfl) rfl ?_
                                      refine jm_Cl.mono h (fun o m63 h hr _ => ?_)
                                      obtain ⟨r64, rfl, z65⟩ := jm_rokZ hr
                                      have h := h _ rfl z65
                                      refine jm_if_ne (tgt := 207) d_L_law_202 (by decide) (fun c66 => ?_) (fun c66 => ?_)
                                      · have h := h.1 c66
                                        refine jm_iconst (v := 0) d_L_law_207 rfl (jm_okI (by decide) (by decide)) ?_
                                        refine jm_istore (L' := [some (jm_R _), some (jm_R _), some (jm_R _), some (jm_R _), some (jm_R _), some (jm_R _), some (jm_I _), none, none, none, none, none, none, none, none]) d_L_law_208 (Nat.le_of_ble_eq_true rfl) rfl ?_
                                        exact jm_weak2 h (And.intro rfl (And.intro rfl (And.intro rfl (And.intro rfl (And.intro rfl (And.intro rfl trivial))))))
                                      · have h := h.2 c66
                                        refine jm_iconst (v := 0) d_L_law_205 rfl (jm_okI (by decide) (by decide)) ?_
                                        exact jm_ret (o := some (jm_I _)) d_L_law_206 rfl ⟨by show _ ≤ C2; omega, by show _ ≤ S2; omega⟩ (jm_r_Z (by decide)) h rfl
                                    · have h := h.2 c62
                                      refine jm_aloadn d_L_law_191 rfl ?_
                                      refine jm_iconst (v := 1) d_L_law_192 rfl (jm_okI (by decide) (by decide)) ?_
                                      obtain ⟨f67, h⟩ := h
                                      refine jm_sld d_L_law_193 f67.1 f67.2 ?_
                                      refine jm_goto (tgt := 199) d_L_law_194 (by decide) ?_
                                      refine jm_invS (n1 := jm_N) (mc := 0) (ms := 0) (av := [jm_R _, jm_R _, jm_R _, jm_I _, jm_I _]) w_L_told l_L_136 d_L_law_199 rfl ⟨by show _ ≤ C2; omega, by show _ ≤ S2; omega⟩ (Nat.le_of_ble_eq_true rfl) rfl ?_
                                      refine jm_Cl.mono h (fun o m68 h hr _ => ?_)
                                      obtain ⟨r69, rfl, z70⟩ := jm_rokZ hr
                                      have h := h _ rfl z70
                                      refine jm_if_ne (tgt := 207) d_L_law_202 (by decide) (fun c71 => ?_) (fun c71 => ?_)
                                      · have h := h.1 c71
                                        refine jm_iconst (v := 0) d_L_law_207 rfl (jm_okI (by decide) (by decide)) ?_
                                        refine jm_istore (L' := [some (jm_R _), some (jm_R _), some (jm_R _), some (jm_R _), some (jm_R _), some (jm_R _), some (jm_I _), none, none, none, none, none, none, none, none]) d_L_law_208 (Nat.le_of_ble_eq_true rfl) rfl ?_
                                        exact jm_weak2 h (And.intro rfl (And.intro rfl (And.intro rfl (And.intro rfl (And.intro rfl (And.intro rfl trivial))))))
                                      · have h := h.2 c71
                                        refine jm_iconst (v := 0) d_L_law_205 rfl (jm_okI (by decide) (by decide)) ?_
                                        exact jm_ret (o := some (jm_I _)) d_L_law_206 rfl ⟨by show _ ≤ C2; omega, by show _ ≤ S2; omega⟩ (jm_r_Z (by decide)) h rfl
                                · have h := h.2 c48
                                  refine jm_iconst (v := 0) d_L_law_166 rfl (jm_okI (by decide) (by decide)) ?_
                                  exact jm_ret (o := some (jm_I _)) d_L_law_167 rfl ⟨by show _ ≤ C2; omega, by show _ ≤ S2; omega⟩ (jm_r_Z (by decide)) h rfl
set_option maxRecDepth 20000 in
theorem r_L_law_210 {E : jm_E} {d C2 S2 cs sl : Nat} {μ : jm_M} {Q : Option jm_V → jm_M → Prop} {v6 : Int} (hc : cs + 9 ≤ C2) (hs : sl + 120 ≤ S2) (h :
  ((μ 134 0 ≤ v6 →
    jm_G E m_L_law (jm_rm (d + 1) C2 S2) jm_N jm_N (cs + 0) (sl + 0) 245 [some (jm_R ((-2))), some (jm_R 0), none, some (jm_R 134), some (jm_R 135), some (jm_R 136), some (jm_I 0), none, none, none, none, none, none, none, none] [] μ Q) ∧
   (¬ (μ 134 0 ≤ v6) →
    jc E m_X10_rank d [jm_R 0, jm_I v6] μ (fun (o : Option jm_V) (m2 : jm_M) => ∀ r3 : Int, o = some (jm_I r3) →
    (0 ≤ jm_wr (8 + v6) ∧ jm_wr (8 + v6) < 32) ∧
    ((r3 = (m2 134 (jm_wr (8 + v6))) →
      jm_G E m_L_law (jm_rm (d + 1) C2 S2) jm_N jm_N (cs + 0) (sl + 0) 210 [some (jm_R ((-2))), some (jm_R 0), none, some (jm_R 134), some (jm_R 135), some (jm_R 136), some (jm_I (jm_wr (v6 + 1))), none, none, none, none, none, none, none, none] [] m2 Q) ∧
     (¬ (r3 = (m2 134 (jm_wr (8 + v6)))) →
      Q (some (jm_I 0)) m2)))))) : jm_G E m_L_law (jm_rm (d + 1) C2 S2) jm_N jm_N cs sl 210 [some (jm_R ((-2))), some (jm_R 0), none, some (jm_R 134), some (jm_R 135), some (jm_R 136), some (jm_I v6), none, none, none, none, none, none, none, none] [] μ Q := by
  refine jm_iload d_L_law_210 rfl ?_
  refine jm_aloadn d_L_law_212 rfl ?_
  refine jm_iconst (v := 0) d_L_law_213 rfl (jm_okI (by decide) (by decide)) ?_
  refine jm_iaload d_L_law_214 (ixl_134 (by decide) (by decide)) ?_
  refine jm_icmp_ge (tgt := 242) d_L_law_215 (by decide) (fun c1 => ?_) (fun c1 => ?_)
  · have h := h.1 c1
    refine jm_iconst (v := 0) d_L_law_242 rfl (jm_okI (by decide) (by decide)) ?_
    refine jm_istore (L' := [some (jm_R _), some (jm_R _), none, some (jm_R _), some (jm_R _), some (jm_R _), some (jm_I _), none, none, none, none, none, none, none, none]) d_L_law_243 (Nat.le_of_ble_eq_true rfl) rfl ?_
    exact h
  · have h := h.2 c1
    refine jm_aloadn d_L_law_218 rfl ?_
    refine jm_iload d_L_law_219 rfl ?_
    refine jm_invV (n1 := jm_N) (mc := 0) (ms := 0) (av := [jm_I _]) w_X10_rank l_L_140 d_L_law_221 rfl is_0 ⟨_, _, rfl⟩ ⟨by show _ ≤ C2; omega, by show _ ≤ S2; omega⟩ (Nat.le_of_ble_eq_true rfl) rfl ?_
    refine jm_Cl.mono h (fun o m2 h hr _ => ?_)
    obtain ⟨r3, rfl⟩ := jm_rokI hr
    have h := h _ rfl
    refine jm_aloadn d_L_law_224 rfl ?_
    refine jm_bipush (v := 8) d_L_law_225 rfl (jm_okI (by decide) (by decide)) ?_
    refine jm_iload d_L_law_227 rfl ?_
    refine jm_iadd d_L_law_229 ?_
    obtain ⟨f4, h⟩ := h
    refine jm_iaload d_L_law_230 (ixl_134 f4.1 f4.2) ?_
    refine jm_icmp_eq (tgt := 236) d_L_law_231 (by decide) (fun c5 => ?_) (fun c5 => ?_)
    · have h := h.1 c5
      refine jm_iinc (L' := [some (jm_R _), some (jm_R _), none, some (jm_R _), some (jm_R _), some (jm_R _), some (jm_I _), none, none, none, none, none, none, none, none]) d_L_law_236 rfl rfl (Nat.le_of_ble_eq_true rfl) rfl ?_
      refine jm_goto (tgt := 210) d_L_law_239 (by decide) ?_
      exact h
    · have h := h.2 c5
      refine jm_iconst (v := 0) d_L_law_234 rfl (jm_okI (by decide) (by decide)) ?_
      exact jm_ret (o := some (jm_I _)) d_L_law_235 rfl ⟨by show _ ≤ C2; omega, by show _ ≤ S2; omega⟩ (jm_r_Z (by decide)) h rfl
set_option maxRecDepth 20000 in
theorem r_L_law_245 {E : jm_E} {d C2 S2 cs sl : Nat} {μ : jm_M} {Q : Option jm_V → jm_M → Prop} {v6 : Int} (hc : cs + 9 ≤ C2) (hs : sl + 120 ≤ S2) (h :
  ((7 ≤ v6 →
    (jm_xp E = 0) ∧
    ∀ z3 : Nat, jm_N ≤ z3 →
    jm_G (jm_setx E z3) m_L_law (jm_rm (d + 1) C2 S2) jm_N jm_N (cs + 1) (sl + 60) 349 [some (jm_R ((-2))), some (jm_R 0), none, some (jm_R 134), some (jm_R 135), some (jm_R 136), some (jm_R ((z3 : Int))), none, none, none, none, none, none, none, none] [] μ Q) ∧
   (¬ (7 ≤ v6) →
    jm_Ch E m_L_kind [(0, 6, 7, 161)] d [jm_R 0, jm_I v6, jm_I 0] μ (fun (o : Option jm_V) (m4 : jm_M) => ∀ r5 : Int, o = some (jm_I r5) →
    (0 ≤ jm_wr (12 + v6) ∧ jm_wr (12 + v6) < 32) ∧
    ((r5 ≠ (m4 134 (jm_wr (12 + v6))) →
      Q (some (jm_I 0)) m4) ∧
     (¬ (r5 ≠ (m4 134 (jm_wr (12 + v6)))) →
      jm_Ch E m_L_kind [(0, 6, 7, 161)] d [jm_R 0, jm_I v6, jm_I 1] m4 (fun (o : Option jm_V) (m8 : jm_M) => ∀ r9 : Int, o = some (jm_I r9) →
      ((6 ≤ v6 →
        ((r9 ≠ 0 →
          Q (some (jm_I 0)) m8) ∧
         (¬ (r9 ≠ 0) →
          jm_Ch E m_L_kind [(0, 6, 7, 161)] d [jm_R 0, jm_I v6, jm_I 2] m8 (fun (o : Option jm_V) (m12 : jm_M) => ∀ r13 : Int, o = some (jm_I r13) →
          ((v6 ≠ 1 →
            ((r13 ≠ 0 →
              Q (some (jm_I 0)) m12) ∧
             (¬ (r13 ≠ 0) →
              jm_Ch E m_L_kind [(0, 6, 7, 161)] d [jm_R 0, jm_I v6, jm_I 3] m12 (fun (o : Option jm_V) (m16 : jm_M) => ∀ r17 : Int, o = some (jm_I r17) →
              (0 ≤ jm_wr (20 + v6) ∧ jm_wr (20 + v6) < 32) ∧
              ((r17 = (m16 134 (jm_wr (20 + v6))) →
                jm_G E m_L_law (jm_rm (d + 1) C2 S2) jm_N jm_N (cs + 4) (sl + 24) 245 [some (jm_R ((-2))), some (jm_R 0), none, some (jm_R 134), some (jm_R 135), some (jm_R 136), some (jm_I (jm_wr (v6 + 1))), none, none, none, none, none, none, none, none] [] m16 Q) ∧
               (¬ (r17 = (m16 134 (jm_wr (20 + v6)))) →
                Q (some (jm_I 0)) m16)))))) ∧
           (¬ (v6 ≠ 1) →
            ((r13 ≠ m12 134 11 →
              Q (some (jm_I 0)) m12) ∧
             (¬ (r13 ≠ m12 134 11) →
              jm_Ch E m_L_kind [(0, 6, 7, 161)] d [jm_R 0, jm_I v6, jm_I 3] m12 (fun (o : Option jm_V) (m21 : jm_M) => ∀ r22 : Int, o = some (jm_I r22) →
              (0 ≤ jm_wr (20 + v6) ∧ jm_wr (20 + v6) < 32) ∧
              ((r22 = (m21 134 (jm_wr (20 + v6))) →
                jm_G E m_L_law (jm_rm (d + 1) C2 S2) jm_N jm_N (cs + 4) (sl + 24) 245 [some (jm_R ((-2))), some (jm_R 0), none, some (jm_R 134), some (jm_R 135), some (jm_R 136), some (jm_I (jm_wr (v6 + 1))), none, none, none, none, none, none, none, none] [] m21 Q) ∧
               (¬ (r22 = (m21 134 (jm_wr (20 + v6)))) →
                Q (some (jm_I 0)) m21))))))))))) ∧
       (¬ (6 ≤ v6) →
        ((r9 ≠ (jm_wr (v6 + 1)) →
          Q (some (jm_I 0)) m8) ∧
         (¬ (r9 ≠ (jm_wr (v6 + 1))) →
          jm_Ch E m_L_kind [(0, 6, 7, 161)] d [jm_R 0, jm_I v6, jm_I 2] m8 (fun (o : Option jm_V) (m26 : jm_M) => ∀ r27 : Int, o = some (jm_I r27) →
          ((v6 ≠ 1 →
            ((r27 ≠ 0 →
              Q (some (jm_I 0)) m26) ∧
             (¬ (r27 ≠ 0) →
              jm_Ch E m_L_kind [(0, 6, 7, 161)] d [jm_R 0, jm_I v6, jm_I 3] m26 (fun (o : Option jm_V) (m30 : jm_M) => ∀ r31 : Int, o = some (jm_I r31) →
              (0 ≤ jm_wr (20 + v6) ∧ jm_wr (20 + v6) < 32) ∧
              ((r31 = (m30 134 (jm_wr (20 + v6))) →
                jm_G E m_L_law (jm_rm (d + 1) C2 S2) jm_N jm_N (cs + 4) (sl + 24) 245 [some (jm_R ((-2))), some (jm_R 0), none, some (jm_R 134), some (jm_R 135), some (jm_R 136), some (jm_I (jm_wr (v6 + 1))), none, none, none, none, none, none, none, none] [] m30 Q) ∧
               (¬ (r31 = (m30 134 (jm_wr (20 + v6)))) →
                Q (some (jm_I 0)) m30)))))) ∧
           (¬ (v6 ≠ 1) →
            ((r27 ≠ m26 134 11 →
              Q (some (jm_I 0)) m26) ∧
             (¬ (r27 ≠ m26 134 11) →
              jm_Ch E m_L_kind [(0, 6, 7, 161)] d [jm_R 0, jm_I v6, jm_I 3] m26 (fun (o : Option jm_V) (m35 : jm_M) => ∀ r36 : Int, o = some (jm_I r36) →
              (0 ≤ jm_wr (20 + v6) ∧ jm_wr (20 + v6) < 32) ∧
              ((r36 = (m35 134 (jm_wr (20 + v6))) →
                jm_G E m_L_law (jm_rm (d + 1) C2 S2) jm_N jm_N (cs + 4) (sl + 24) 245 [some (jm_R ((-2))), some (jm_R 0), none, some (jm_R 134), some (jm_R 135), some (jm_R 136), some (jm_I (jm_wr (v6 + 1))), none, none, none, none, none, none, none, none] [] m35 Q) ∧
               (¬ (r36 = (m35 134 (jm_wr (20 + v6)))) →
                Q (some (jm_I 0)) m35))))))))))))))))))) : jm_G E m_L_law (jm_rm (d + 1) C2 S2) jm_N jm_N cs sl 245 [some (jm_R ((-2))), some (jm_R 0), none, some (jm_R 134), some (jm_R 135), some (jm_R 136), some (jm_I v6), none, none, none, none, none, none, none, none] [] μ Q := by
  refine jm_iload d_L_law_245 rfl ?_
  refine jm_bipush (v := 7) d_L_law_247 rfl (jm_okI (by decide) (by decide)) ?_
  refine jm_icmp_ge (tgt := 343) d_L_law_249 (by decide) (fun c1 => ?_) (fun c1 => ?_)
  · have h := h.1 c1
    refine jm_bipush (v := 60) d_L_law_343 rfl (jm_okI (by decide) (by decide)) ?_
    obtain ⟨f2, h⟩ := h
    refine jm_newx ay_int f2 d_L_law_345 (by show _ ≤ C2; omega) (by show _ ≤ S2; omega) (fun z3 hz => ?_)
    have h := h z3 hz
    refine jm_astore (L' := [some (jm_R _), some (jm_R _), none, some (jm_R _), some (jm_R _), some (jm_R _), some (jm_R _), none, none, none, none, none, none, none, none]) d_L_law_347 (Nat.le_of_ble_eq_true rfl) rfl ?_
    exact h
  · have h := h.2 c1
    refine jm_aloadn d_L_law_252 rfl ?_
    refine jm_iload d_L_law_253 rfl ?_
    refine jm_iconst (v := 0) d_L_law_255 rfl (jm_okI (by decide) (by decide)) ?_
    refine jm_invH (d := d) (k := 3) (av := [jm_R _, jm_I _, jm_I _]) cw_L_kind st_L_kind in_L ⟨by decide +kernel, by decide +kernel, by decide +kernel⟩ (Nat.le_of_ble_eq_true rfl) l_L_143 d_L_law_256 rfl ⟨by show _ ≤ C2; omega, by show _ ≤ S2; omega⟩ (Nat.le_of_ble_eq_true rfl) rfl ?_
    refine jm_Ch.mono h (fun o m4 h hr _ => ?_)
    obtain ⟨r5, rfl⟩ := jm_rokI hr
    have h := h _ rfl
    refine jm_aloadn d_L_law_259 rfl ?_
    refine jm_bipush (v := 12) d_L_law_260 rfl (jm_okI (by decide) (by decide)) ?_
    refine jm_iload d_L_law_262 rfl ?_
    refine jm_iadd d_L_law_264 ?_
    obtain ⟨f6, h⟩ := h
    refine jm_iaload d_L_law_265 (ixl_134 f6.1 f6.2) ?_
    refine jm_icmp_ne (tgt := 335) d_L_law_266 (by decide) (fun c7 => ?_) (fun c7 => ?_)
    · have h := h.1 c7
      refine jm_iconst (v := 0) d_L_law_335 rfl (jm_okI (by decide) (by decide)) ?_
      exact jm_ret (o := some (jm_I _)) d_L_law_336 rfl ⟨by show _ ≤ C2; omega, by show _ ≤ S2; omega⟩ (jm_r_Z (by decide)) h rfl
    · have h := h.2 c7
      refine jm_aloadn d_L_law_269 rfl ?_
      refine jm_iload d_L_law_270 rfl ?_
      refine jm_iconst (v := 1) d_L_law_272 rfl (jm_okI (by decide) (by decide)) ?_
      refine jm_invH (d := d) (k := 3) (av := [jm_R _, jm_I _, jm_I _]) cw_L_kind st_L_kind in_L ⟨by decide +kernel, by decide +kernel, by decide +kernel⟩ (Nat.le_of_ble_eq_true rfl) l_L_143 d_L_law_273 rfl ⟨by show _ ≤ C2; omega, by show _ ≤ S2; omega⟩ (Nat.le_of_ble_eq_true rfl) rfl ?_
      refine jm_Ch.mono h (fun o m8 h hr _ => ?_)
      obtain ⟨r9, rfl⟩ := jm_rokI hr
      have h := h _ rfl
      refine jm_iload d_L_law_276 rfl ?_
      refine jm_bipush (v := 6) d_L_law_278 rfl (jm_okI (by decide) (by decide)) ?_
      refine jm_icmp_ge (tgt := 290) d_L_law_280 (by decide) (fun c10 => ?_) (fun c10 => ?_)
      · have h := h.1 c10
        refine jm_iconst (v := 0) d_L_law_290 rfl (jm_okI (by decide) (by decide)) ?_
        refine jm_icmp_ne (tgt := 335) d_L_law_291 (by decide) (fun c11 => ?_) (fun c11 => ?_)
        · have h := h.1 c11
          refine jm_iconst (v := 0) d_L_law_335 rfl (jm_okI (by decide) (by decide)) ?_
          exact jm_ret (o := some (jm_I _)) d_L_law_336 rfl ⟨by show _ ≤ C2; omega, by show _ ≤ S2; omega⟩ (jm_r_Z (by decide)) h rfl
        · have h := h.2 c11
          refine jm_aloadn d_L_law_294 rfl ?_
          refine jm_iload d_L_law_295 rfl ?_
          refine jm_iconst (v := 2) d_L_law_297 rfl (jm_okI (by decide) (by decide)) ?_
          refine jm_invH (d := d) (k := 3) (av := [jm_R _, jm_I _, jm_I _]) cw_L_kind st_L_kind in_L ⟨by decide +kernel, by decide +kernel, by decide +kernel⟩ (Nat.le_of_ble_eq_true rfl) l_L_143 d_L_law_298 rfl ⟨by show _ ≤ C2; omega, by show _ ≤ S2; omega⟩ (Nat.le_of_ble_eq_true rfl) rfl ?_
          refine jm_Ch.mono h (fun o m12 h hr _ => ?_)
          obtain ⟨r13, rfl⟩ := jm_rokI hr
          have h := h _ rfl
          refine jm_iload d_L_law_301 rfl ?_
          refine jm_iconst (v := 1) d_L_law_303 rfl (jm_okI (by decide) (by decide)) ?_
          refine jm_icmp_ne (tgt := 314) d_L_law_304 (by decide) (fun c14 => ?_) (fun c14 => ?_)
          · have h := h.1 c14
            refine jm_iconst (v := 0) d_L_law_314 rfl (jm_okI (by decide) (by decide)) ?_
            refine jm_icmp_ne (tgt := 335) d_L_law_315 (by decide) (fun c15 => ?_) (fun c15 => ?_)
            · have h := h.1 c15
              refine jm_iconst (v := 0) d_L_law_335 rfl (jm_okI (by decide) (by decide)) ?_
              exact jm_ret (o := some (jm_I _)) d_L_law_336 rfl ⟨by show _ ≤ C2; omega, by show _ ≤ S2; omega⟩ (jm_r_Z (by decide)) h rfl
            · have h := h.2 c15
              refine jm_aloadn d_L_law_318 rfl ?_
              refine jm_iload d_L_law_319 rfl ?_
              refine jm_iconst (v := 3) d_L_law_321 rfl (jm_okI (by decide) (by decide)) ?_
              refine jm_invH (d := d) (k := 3) (av := [jm_R _, jm_I _, jm_I _]) cw_L_kind st_L_kind in_L ⟨by decide +kernel, by decide +kernel, by decide +kernel⟩ (Nat.le_of_ble_eq_true rfl) l_L_143 d_L_law_322 rfl ⟨by show _ ≤ C2; omega, by show _ ≤ S2; omega⟩ (Nat.le_of_ble_eq_true rfl) rfl ?_
              refine jm_Ch.mono h (fun o m16 h hr _ => ?_)
              obtain ⟨r17, rfl⟩ := jm_rokI hr
              have h := h _ rfl
              refine jm_aloadn d_L_law_325 rfl ?_
              refine jm_bipush (v := 20) d_L_law_326 rfl (jm_okI (by decide) (by decide)) ?_
              refine jm_iload d_L_law_328 rfl ?_
              refine jm_iadd d_L_law_330 ?_
              obtain ⟨f18, h⟩ := h
              refine jm_iaload d_L_law_331 (ixl_134 f18.1 f18.2) ?_
              refine jm_icmp_eq (tgt := 337) d_L_law_332 (by decide) (fun c19 => ?_) (fun c19 => ?_)
              · have h := h.1 c19
                refine jm_iinc (L' := [some (jm_R _), some (jm_R _), none, some (jm_R _), some (jm_R _), some (jm_R _), some (jm_I _), none, none, none, none, none, none, none, none]) d_L_law_337 rfl rfl (Nat.le_of_ble_eq_true rfl) rfl ?_
                refine jm_goto (tgt := 245) d_L_law_340 (by decide) ?_
                exact h
              · have h := h.2 c19
                refine jm_iconst (v := 0) d_L_law_335 rfl (jm_okI (by decide) (by decide)) ?_
                exact jm_ret (o := some (jm_I _)) d_L_law_336 rfl ⟨by show _ ≤ C2; omega, by show _ ≤ S2; omega⟩ (jm_r_Z (by decide)) h rfl
          · have h := h.2 c14
            refine jm_aloadn d_L_law_307 rfl ?_
            refine jm_bipush (v := 11) d_L_law_308 rfl (jm_okI (by decide) (by decide)) ?_
            refine jm_iaload d_L_law_310 (ixl_134 (by decide) (by decide)) ?_
            refine jm_goto (tgt := 315) d_L_law_311 (by decide) ?_
            refine jm_icmp_ne (tgt := 335) d_L_law_315 (by decide) (fun c20 => ?_) (fun c20 => ?_)
            · have h := h.1 c20
              refine jm_iconst (v := 0) d_L_law_335 rfl (jm_okI (by decide) (by decide)) ?_
              exact jm_ret (o := some (jm_I _)) d_L_law_336 rfl ⟨by show _ ≤ C2; omega, by show _ ≤ S2; omega⟩ (jm_r_Z (by decide)) h rfl
            · have h := h.2 c20
              refine jm_aloadn d_L_law_318 rfl ?_
              refine jm_iload d_L_law_319 rfl ?_
              refine jm_iconst (v := 3) d_L_law_321 rfl (jm_okI (by decide) (by decide)) ?_
              refine jm_invH (d := d) (k := 3) (av := [jm_R _, jm_I _, jm_I _]) cw_L_kind st_L_kind in_L ⟨by decide +kernel, by decide +kernel, by decide +kernel⟩ (Nat.le_of_ble_eq_true rfl) l_L_143 d_L_law_322 rfl ⟨by show _ ≤ C2; omega, by show _ ≤ S2; omega⟩ (Nat.le_of_ble_eq_true rfl) rfl ?_
              refine jm_Ch.mono h (fun o m21 h hr _ => ?_)
              obtain ⟨r22, rfl⟩ := jm_rokI hr
              have h := h _ rfl
              refine jm_aloadn d_L_law_325 rfl ?_
              refine jm_bipush (v := 20) d_L_law_326 rfl (jm_okI (by decide) (by decide)) ?_
              refine jm_iload d_L_law_328 rfl ?_
              refine jm_iadd d_L_law_330 ?_
              obtain ⟨f23, h⟩ := h
              refine jm_iaload d_L_law_331 (ixl_134 f23.1 f23.2) ?_
              refine jm_icmp_eq (tgt := 337) d_L_law_332 (by decide) (fun c24 => ?_) (fun c24 => ?_)
              · have h := h.1 c24
                refine jm_iinc (L' := [some (jm_R _), some (jm_R _), none, some (jm_R _), some (jm_R _), some (jm_R _), some (jm_I _), none, none, none, none, none, none, none, none]) d_L_law_337 rfl rfl (Nat.le_of_ble_eq_true rfl) rfl ?_
                refine jm_goto (tgt := 245) d_L_law_340 (by decide) ?_
                exact h
              · have h := h.2 c24
                refine jm_iconst (v := 0) d_L_law_335 rfl (jm_okI (by decide) (by decide)) ?_
                exact jm_ret (o := some (jm_I _)) d_L_law_336 rfl ⟨by show _ ≤ C2; omega, by show _ ≤ S2; omega⟩ (jm_r_Z (by decide)) h rfl
      · have h := h.2 c10
        refine jm_iload d_L_law_283 rfl ?_
        refine jm_iconst (v := 1) d_L_law_285 rfl (jm_okI (by decide) (by decide)) ?_
        refine jm_iadd d_L_law_286 ?_
        refine jm_goto (tgt := 291) d_L_law_287 (by decide) ?_
        refine jm_icmp_ne (tgt := 335) d_L_law_291 (by decide) (fun c25 => ?_) (fun c25 => ?_)
        · have h := h.1 c25
          refine jm_iconst (v := 0) d_L_law_335 rfl (jm_okI (by decide) (by decide)) ?_
          exact jm_ret (o := some (jm_I _)) d_L_law_336 rfl ⟨by show _ ≤ C2; omega, by show _ ≤ S2; omega⟩ (jm_r_Z (by decide)) h rfl
        · have h := h.2 c25
          refine jm_aloadn d_L_law_294 rfl ?_
          refine jm_iload d_L_law_295 rfl ?_
          refine jm_iconst (v := 2) d_L_law_297 rfl (jm_okI (by decide) (by decide)) ?_
          refine jm_invH (d := d) (k := 3) (av := [jm_R _, jm_I _, jm_I _]) cw_L_kind st_L_kind in_L ⟨by decide +kernel, by decide +kernel, by decide +kernel⟩ (Nat.le_of_ble_eq_true rfl) l_L_143 d_L_law_298 rfl ⟨by show _ ≤ C2; omega, by show _ ≤ S2; omega⟩ (Nat.le_of_ble_eq_true rfl) rfl ?_
          refine jm_Ch.mono h (fun o m26 h hr _ => ?_)
          obtain ⟨r27, rfl⟩ := jm_rokI hr
          have h := h _ rfl
          refine jm_iload d_L_law_301 rfl ?_
          refine jm_iconst (v := 1) d_L_law_303 rfl (jm_okI (by decide) (by decide)) ?_
          refine jm_icmp_ne (tgt := 314) d_L_law_304 (by decide) (fun c28 => ?_) (fun c28 => ?_)
          · have h := h.1 c28
            refine jm_iconst (v := 0) d_L_law_314 rfl (jm_okI (by decide) (by decide)) ?_
            refine jm_icmp_ne (tgt := 335) d_L_law_315 (by decide) (fun c29 => ?_) (fun c29 => ?_)
            · have h := h.1 c29
              refine jm_iconst (v := 0) d_L_law_335 rfl (jm_okI (by decide) (by decide)) ?_
              exact jm_ret (o := some (jm_I _)) d_L_law_336 rfl ⟨by show _ ≤ C2; omega, by show _ ≤ S2; omega⟩ (jm_r_Z (by decide)) h rfl
            · have h := h.2 c29
              refine jm_aloadn d_L_law_318 rfl ?_
              refine jm_iload d_L_law_319 rfl ?_
              refine jm_iconst (v := 3) d_L_law_321 rfl (jm_okI (by decide) (by decide)) ?_
              refine jm_invH (d := d) (k := 3) (av := [jm_R _, jm_I _, jm_I _]) cw_L_kind st_L_kind in_L ⟨by decide +kernel, by decide +kernel, by decide +kernel⟩ (Nat.le_of_ble_eq_true rfl) l_L_143 d_L_law_322 rfl ⟨by show _ ≤ C2; omega, by show _ ≤ S2; omega⟩ (Nat.le_of_ble_eq_true rfl) rfl ?_
              refine jm_Ch.mono h (fun o m30 h hr _ => ?_)
              obtain ⟨r31, rfl⟩ := jm_rokI hr
              have h := h _ rfl
              refine jm_aloadn d_L_law_325 rfl ?_
              refine jm_bipush (v := 20) d_L_law_326 rfl (jm_okI (by decide) (by decide)) ?_
              refine jm_iload d_L_law_328 rfl ?_
              refine jm_iadd d_L_law_330 ?_
              obtain ⟨f32, h⟩ := h
              refine jm_iaload d_L_law_331 (ixl_134 f32.1 f32.2) ?_
              refine jm_icmp_eq (tgt := 337) d_L_law_332 (by decide) (fun c33 => ?_) (fun c33 => ?_)
              · have h := h.1 c33
                refine jm_iinc (L' := [some (jm_R _), some (jm_R _), none, some (jm_R _), some (jm_R _), some (jm_R _), some (jm_I _), none, none, none, none, none, none, none, none]) d_L_law_337 rfl rfl (Nat.le_of_ble_eq_true rfl) rfl ?_
                refine jm_goto (tgt := 245) d_L_law_340 (by decide) ?_
                exact h
              · have h := h.2 c33
                refine jm_iconst (v := 0) d_L_law_335 rfl (jm_okI (by decide) (by decide)) ?_
                exact jm_ret (o := some (jm_I _)) d_L_law_336 rfl ⟨by show _ ≤ C2; omega, by show _ ≤ S2; omega⟩ (jm_r_Z (by decide)) h rfl
          · have h := h.2 c28
            refine jm_aloadn d_L_law_307 rfl ?_
            refine jm_bipush (v := 11) d_L_law_308 rfl (jm_okI (by decide) (by decide)) ?_
            refine jm_iaload d_L_law_310 (ixl_134 (by decide) (by decide)) ?_
            refine jm_goto (tgt := 315) d_L_law_311 (by decide) ?_
            refine jm_icmp_ne (tgt := 335) d_L_law_315 (by decide) (fun c34 => ?_) (fun c34 => ?_)
            · have h := h.1 c34
              refine jm_iconst (v := 0) d_L_law_335 rfl (jm_okI (by decide) (by decide)) ?_
              exact jm_ret (o := some (jm_I _)) d_L_law_336 rfl ⟨by show _ ≤ C2; omega, by show _ ≤ S2; omega⟩ (jm_r_Z (by decide)) h rfl
            · have h := h.2 c34
              refine jm_aloadn d_L_law_318 rfl ?_
              refine jm_iload d_L_law_319 rfl ?_
              refine jm_iconst (v := 3) d_L_law_321 rfl (jm_okI (by decide) (by decide)) ?_
              refine jm_invH (d := d) (k := 3) (av := [jm_R _, jm_I _, jm_I _]) cw_L_kind st_L_kind in_L ⟨by decide +kernel, by decide +kernel, by decide +kernel⟩ (Nat.le_of_ble_eq_true rfl) l_L_143 d_L_law_322 rfl ⟨by show _ ≤ C2; omega, by show _ ≤ S2; omega⟩ (Nat.le_of_ble_eq_true rfl) rfl ?_
              refine jm_Ch.mono h (fun o m35 h hr _ => ?_)
              obtain ⟨r36, rfl⟩ := jm_rokI hr
              have h := h _ rfl
              refine jm_aloadn d_L_law_325 rfl ?_
              refine jm_bipush (v := 20) d_L_law_326 rfl (jm_okI (by decide) (by decide)) ?_
              refine jm_iload d_L_law_328 rfl ?_
              refine jm_iadd d_L_law_330 ?_
              obtain ⟨f37, h⟩ := h
              refine jm_iaload d_L_law_331 (ixl_134 f37.1 f37.2) ?_
              refine jm_icmp_eq (tgt := 337) d_L_law_332 (by decide) (fun c38 => ?_) (fun c38 => ?_)
              · have h := h.1 c38
                refine jm_iinc (L' := [some (jm_R _), some (jm_R _), none, some (jm_R _), some (jm_R _), some (jm_R _), some (jm_I _), none, none, none, none, none, none, none, none]) d_L_law_337 rfl rfl (Nat.le_of_ble_eq_true rfl) rfl ?_
                refine jm_goto (tgt := 245) d_L_law_340 (by decide) ?_
                exact h
              · have h := h.2 c38
                refine jm_iconst (v := 0) d_L_law_335 rfl (jm_okI (by decide) (by decide)) ?_
                exact jm_ret (o := some (jm_I _)) d_L_law_336 rfl ⟨by show _ ≤ C2; omega, by show _ ≤ S2; omega⟩ (jm_r_Z (by decide)) h rfl
set_option maxRecDepth 20000 in
theorem r_L_law_349 {E : jm_E} {d C2 S2 cs sl : Nat} {μ : jm_M} {Q : Option jm_V → jm_M → Prop} (hc : cs + 9 ≤ C2) (hs : sl + 120 ≤ S2) (h :
  jm_G E m_L_law (jm_rm (d + 1) C2 S2) jm_N jm_N (cs + 0) (sl + 0) 355 [some (jm_R ((-2))), some (jm_R 0), none, some (jm_R 134), some (jm_R 135), some (jm_R 136), some (jm_R ((jm_xp E : Int))), some (jm_I 0), some (jm_I 2), none, none, none, none, none, none] [] μ Q) : jm_G E m_L_law (jm_rm (d + 1) C2 S2) jm_N jm_N cs sl 349 [some (jm_R ((-2))), some (jm_R 0), none, some (jm_R 134), some (jm_R 135), some (jm_R 136), some (jm_R ((jm_xp E : Int))), none, none, none, none, none, none, none, none] [] μ Q := by
  refine jm_iconst (v := 0) d_L_law_349 rfl (jm_okI (by decide) (by decide)) ?_
  refine jm_istore (L' := [some (jm_R _), some (jm_R _), none, some (jm_R _), some (jm_R _), some (jm_R _), some (jm_R _), some (jm_I _), none, none, none, none, none, none, none]) d_L_law_350 (Nat.le_of_ble_eq_true rfl) rfl ?_
  refine jm_iconst (v := 2) d_L_law_352 rfl (jm_okI (by decide) (by decide)) ?_
  refine jm_istore (L' := [some (jm_R _), some (jm_R _), none, some (jm_R _), some (jm_R _), some (jm_R _), some (jm_R _), some (jm_I _), some (jm_I _), none, none, none, none, none, none]) d_L_law_353 (Nat.le_of_ble_eq_true rfl) rfl ?_
  exact h
set_option maxRecDepth 20000 in
theorem r_L_law_355 {E : jm_E} {d C2 S2 cs sl : Nat} {μ : jm_M} {Q : Option jm_V → jm_M → Prop} {v7 v8 : Int} (hc : cs + 9 ≤ C2) (hs : sl + 120 ≤ S2) (h :
  (jm_sL E < 2147483648) ∧
  ((((jm_sL E : Int)) ≤ v8 →
    jm_G E m_L_law (jm_rm (d + 1) C2 S2) jm_N jm_N (cs + 0) (sl + 0) 390 [none, some (jm_R 0), none, some (jm_R 134), some (jm_R 135), some (jm_R 136), some (jm_R ((jm_xp E : Int))), none, none, none, none, none, none, none, none] [] μ Q) ∧
   (¬ (((jm_sL E : Int)) ≤ v8) →
    ((60 ≤ v7 →
      jm_G E m_L_law (jm_rm (d + 1) C2 S2) jm_N jm_N (cs + 0) (sl + 0) 390 [none, some (jm_R 0), none, some (jm_R 134), some (jm_R 135), some (jm_R 136), some (jm_R ((jm_xp E : Int))), none, none, none, none, none, none, none, none] [] μ Q) ∧
     (¬ (60 ≤ v7) →
      ((0 : Int) ≤ v8 ∧ v8 < (jm_sL E : Int)) ∧
      (jm_xp E ≠ 0) ∧
      (0 ≤ v7 ∧ v7 < 60) ∧
      jm_G E m_L_law (jm_rm (d + 1) C2 S2) jm_N jm_N (cs + 0) (sl + 0) 355 [some (jm_R ((-2))), some (jm_R 0), none, some (jm_R 134), some (jm_R 135), some (jm_R 136), some (jm_R ((jm_xp E : Int))), some (jm_I (jm_wr (v7 + 1))), some (jm_I (jm_wr (v8 + 1))), none, none, none, none, none, none] [] μ Q))))) : jm_G E m_L_law (jm_rm (d + 1) C2 S2) jm_N jm_N cs sl 355 [some (jm_R ((-2))), some (jm_R 0), none, some (jm_R 134), some (jm_R 135), some (jm_R 136), some (jm_R ((jm_xp E : Int))), some (jm_I v7), some (jm_I v8), none, none, none, none, none, none] [] μ Q := by
  refine jm_iload d_L_law_355 rfl ?_
  refine jm_aloadn d_L_law_357 rfl ?_
  obtain ⟨f1, h⟩ := h
  refine jm_slen f1 d_L_law_358 ?_
  refine jm_icmp_ge (tgt := 390) d_L_law_359 (by decide) (fun c2 => ?_) (fun c2 => ?_)
  · have h := h.1 c2
    exact jm_weak2 h (And.intro rfl (And.intro rfl (And.intro rfl (And.intro rfl (And.intro rfl trivial)))))
  · have h := h.2 c2
    refine jm_iload d_L_law_362 rfl ?_
    refine jm_bipush (v := 60) d_L_law_364 rfl (jm_okI (by decide) (by decide)) ?_
    refine jm_icmp_ge (tgt := 390) d_L_law_366 (by decide) (fun c3 => ?_) (fun c3 => ?_)
    · have h := h.1 c3
      exact jm_weak2 h (And.intro rfl (And.intro rfl (And.intro rfl (And.intro rfl (And.intro rfl trivial)))))
    · have h := h.2 c3
      refine jm_aload d_L_law_369 rfl ?_
      refine jm_iload d_L_law_371 rfl ?_
      refine jm_aloadn d_L_law_373 rfl ?_
      refine jm_iload d_L_law_374 rfl ?_
      obtain ⟨f4, h⟩ := h
      refine jm_sld d_L_law_376 f4.1 f4.2 ?_
      refine jm_ldc (v := 65536) d_L_law_377 k_L_147 (jm_okI (by decide) (by decide)) ?_
      refine jm_ior d_L_law_379 ?_
      obtain ⟨f5, h⟩ := h
      obtain ⟨f6, h⟩ := h
      refine jm_xstore d_L_law_380 f5 f6 ?_
      refine jm_iinc (L' := [some (jm_R _), some (jm_R _), none, some (jm_R _), some (jm_R _), some (jm_R _), some (jm_R _), some (jm_I _), some (jm_I _), none, none, none, none, none, none]) d_L_law_381 rfl rfl (Nat.le_of_ble_eq_true rfl) rfl ?_
      refine jm_iinc (L' := [some (jm_R _), some (jm_R _), none, some (jm_R _), some (jm_R _), some (jm_R _), some (jm_R _), some (jm_I _), some (jm_I _), none, none, none, none, none, none]) d_L_law_384 rfl rfl (Nat.le_of_ble_eq_true rfl) rfl ?_
      refine jm_goto (tgt := 355) d_L_law_387 (by decide) ?_
      exact h
set_option maxRecDepth 20000 in
theorem r_L_law_390 {E : jm_E} {d C2 S2 cs sl : Nat} {μ : jm_M} {Q : Option jm_V → jm_M → Prop} (hc : cs + 9 ≤ C2) (hs : sl + 120 ≤ S2) (h :
  jc E m_L_speak d [jm_R 0, jm_R 134, jm_R 135, jm_R 136, jm_R ((jm_xp E : Int)), jm_I 11] μ (fun (o : Option jm_V) (m1 : jm_M) => ∀ r2 : Int, o = some (jm_I r2) →
  ((r2 < 0 →
    Q (some (jm_I 0)) m1) ∧
   (¬ (r2 < 0) →
    jc E m_X10_threads d [jm_R 0] m1 (fun (o : Option jm_V) (m4 : jm_M) => ∀ r5 : Int, o = some (jm_I r5) →
    ((r5 = m4 136 49 →
      jm_G E m_L_law (jm_rm (d + 1) C2 S2) jm_N jm_N (cs + 0) (sl + 0) 428 [none, some (jm_R 0), none, some (jm_R 134), some (jm_R 135), some (jm_R 136), none, none, none, some (jm_I r2), none, none, none, none, none] [] m4 Q) ∧
     (¬ (r5 = m4 136 49) →
      Q (some (jm_I 0)) m4))))))) : jm_G E m_L_law (jm_rm (d + 1) C2 S2) jm_N jm_N cs sl 390 [none, some (jm_R 0), none, some (jm_R 134), some (jm_R 135), some (jm_R 136), some (jm_R ((jm_xp E : Int))), none, none, none, none, none, none, none, none] [] μ Q := by
  refine jm_aloadn d_L_law_390 rfl ?_
  refine jm_aloadn d_L_law_391 rfl ?_
  refine jm_aload d_L_law_392 rfl ?_
  refine jm_aload d_L_law_394 rfl ?_
  refine jm_aload d_L_law_396 rfl ?_
  refine jm_bipush (v := 11) d_L_law_398 rfl (jm_okI (by decide) (by decide)) ?_
  refine jm_invS (n1 := jm_N) (mc := 0) (ms := 0) (av := [jm_R _, jm_R _, jm_R _, jm_R _, jm_R _, jm_I _]) w_L_speak l_L_148 d_L_law_400 rfl ⟨by show _ ≤ C2; omega, by show _ ≤ S2; omega⟩ (Nat.le_of_ble_eq_true rfl) rfl ?_
  refine jm_Cl.mono h (fun o m1 h hr _ => ?_)
  obtain ⟨r2, rfl⟩ := jm_rokI hr
  have h := h _ rfl
  refine jm_istore (L' := [none, some (jm_R _), none, some (jm_R _), some (jm_R _), some (jm_R _), some (jm_R _), none, some (jm_I _), none, none, none, none, none, none]) d_L_law_403 (Nat.le_of_ble_eq_true rfl) rfl ?_
  refine jm_iload d_L_law_405 rfl ?_
  refine jm_if_lt (tgt := 422) d_L_law_407 (by decide) (fun c3 => ?_) (fun c3 => ?_)
  · have h := h.1 c3
    refine jm_iconst (v := 0) d_L_law_422 rfl (jm_okI (by decide) (by decide)) ?_
    exact jm_ret (o := some (jm_I _)) d_L_law_423 rfl ⟨by show _ ≤ C2; omega, by show _ ≤ S2; omega⟩ (jm_r_Z (by decide)) h rfl
  · have h := h.2 c3
    refine jm_aloadn d_L_law_410 rfl ?_
    refine jm_invV (n1 := jm_N) (mc := 0) (ms := 0) (av := []) w_X10_threads l_L_105 d_L_law_411 rfl is_0 ⟨_, _, rfl⟩ ⟨by show _ ≤ C2; omega, by show _ ≤ S2; omega⟩ (Nat.le_of_ble_eq_true rfl) rfl ?_
    refine jm_Cl.mono h (fun o m4 h hr _ => ?_)
    obtain ⟨r5, rfl⟩ := jm_rokI hr
    have h := h _ rfl
    refine jm_aload d_L_law_414 rfl ?_
    refine jm_bipush (v := 49) d_L_law_416 rfl (jm_okI (by decide) (by decide)) ?_
    refine jm_iaload d_L_law_418 (ixl_136 (by decide) (by decide)) ?_
    refine jm_icmp_eq (tgt := 424) d_L_law_419 (by decide) (fun c6 => ?_) (fun c6 => ?_)
    · have h := h.1 c6
      refine jm_iload d_L_law_424 rfl ?_
      refine jm_istore (L' := [none, some (jm_R _), none, some (jm_R _), some (jm_R _), some (jm_R _), some (jm_R _), none, some (jm_I _), some (jm_I _), none, none, none, none, none]) d_L_law_426 (Nat.le_of_ble_eq_true rfl) rfl ?_
      exact jm_weak2 h (And.intro rfl (And.intro rfl (And.intro rfl (And.intro rfl (And.intro rfl trivial)))))
    · have h := h.2 c6
      refine jm_iconst (v := 0) d_L_law_422 rfl (jm_okI (by decide) (by decide)) ?_
      exact jm_ret (o := some (jm_I _)) d_L_law_423 rfl ⟨by show _ ≤ C2; omega, by show _ ≤ S2; omega⟩ (jm_r_Z (by decide)) h rfl
set_option maxRecDepth 20000 in
theorem r_L_law_428 {E : jm_E} {d C2 S2 cs sl : Nat} {μ : jm_M} {Q : Option jm_V → jm_M → Prop} {v9 : Int} (hc : cs + 9 ≤ C2) (hs : sl + 120 ≤ S2) (h :
  ((v9 < 0 →
    jc E m_X10_rank d [jm_R 0, jm_I (μ 134 0)] μ (fun (o : Option jm_V) (m2 : jm_M) => ∀ r3 : Int, o = some (jm_I r3) →
    ((r3 ≠ ((-1)) →
      Q (some (jm_I 0)) m2) ∧
     (¬ (r3 ≠ ((-1))) →
      jm_Ch E m_L_kind [(0, 6, 7, 161)] d [jm_R 0, jm_I 7, jm_I 0] m2 (fun (o : Option jm_V) (m5 : jm_M) => ∀ r6 : Int, o = some (jm_I r6) →
      ((r6 ≠ ((-7)) →
        Q (some (jm_I 0)) m5) ∧
       (¬ (r6 ≠ ((-7))) →
        jm_Ch E m_L_kind [(0, 6, 7, 161)] d [jm_R 0, jm_I 0, jm_I 4] m5 (fun (o : Option jm_V) (m8 : jm_M) => ∀ r9 : Int, o = some (jm_I r9) →
        ((r9 ≠ ((-7)) →
          Q (some (jm_I 0)) m8) ∧
         (¬ (r9 ≠ ((-7))) →
          jc E m_X10_say d [jm_R 0, jm_I (m8 134 0), jm_I 0] m8 (fun (o : Option jm_V) (m11 : jm_M) => ∀ r12 : Int, o = some (jm_I r12) →
          ((r12 ≠ ((-1)) →
            Q (some (jm_I 0)) m11) ∧
           (¬ (r12 ≠ ((-1))) →
            jc E m_X10_wrong d [jm_R 0, jm_I 0, jm_I 7] m11 (fun (o : Option jm_V) (m14 : jm_M) => ∀ r15 : Int, o = some (jm_I r15) →
            ((r15 ≠ ((-1)) →
              Q (some (jm_I 0)) m14) ∧
             (¬ (r15 ≠ ((-1))) →
              jc E m_X10_may d [jm_R 0, jm_I ((-1))] m14 (fun (o : Option jm_V) (m17 : jm_M) => ∀ r18 : Int, o = some (jm_I r18) →
              ((r18 ≠ ((-1)) →
                Q (some (jm_I 0)) m17) ∧
               (¬ (r18 ≠ ((-1))) →
                jc E m_X10_count d [jm_R 0, jm_I 6] m17 (fun (o : Option jm_V) (m20 : jm_M) => ∀ r21 : Int, o = some (jm_I r21) →
                ((r21 ≠ 0 →
                  Q (some (jm_I 0)) m20) ∧
                 (¬ (r21 ≠ 0) →
                  Q (some (jm_I 1)) m20)))))))))))))))))))))) ∧
   (¬ (v9 < 0) →
    jc E m_L_live d [jm_R 134, jm_R 135, jm_I v9, jm_R 136] μ (fun (o : Option jm_V) (m23 : jm_M) => ∀ r24 : Int, o = some (jm_I r24) →
    ((r24 < 0 →
      jm_G E m_L_law (jm_rm (d + 1) C2 S2) jm_N jm_N (cs + 0) (sl + 0) 451 [none, some (jm_R 0), none, some (jm_R 134), some (jm_R 135), some (jm_R 136), none, none, none, some (jm_I v9), some (jm_I 0), none, none, none, none] [] m23 Q) ∧
     (¬ (r24 < 0) →
      Q (some (jm_I 0)) m23)))))) : jm_G E m_L_law (jm_rm (d + 1) C2 S2) jm_N jm_N cs sl 428 [none, some (jm_R 0), none, some (jm_R 134), some (jm_R 135), some (jm_R 136), none, none, none, some (jm_I v9), none, none, none, none, none] [] μ Q := by
  refine jm_iload d_L_law_428 rfl ?_
  refine jm_if_lt (tgt := 834) d_L_law_430 (by decide) (fun c1 => ?_) (fun c1 => ?_)
  · have h := h.1 c1
    refine jm_aloadn d_L_law_834 rfl ?_
    refine jm_aloadn d_L_law_835 rfl ?_
    refine jm_iconst (v := 0) d_L_law_836 rfl (jm_okI (by decide) (by decide)) ?_
    refine jm_iaload d_L_law_837 (ixl_134 (by decide) (by decide)) ?_
    refine jm_invV (n1 := jm_N) (mc := 0) (ms := 0) (av := [jm_I _]) w_X10_rank l_L_140 d_L_law_838 rfl is_0 ⟨_, _, rfl⟩ ⟨by show _ ≤ C2; omega, by show _ ≤ S2; omega⟩ (Nat.le_of_ble_eq_true rfl) rfl ?_
    refine jm_Cl.mono h (fun o m2 h hr _ => ?_)
    obtain ⟨r3, rfl⟩ := jm_rokI hr
    have h := h _ rfl
    refine jm_iconst (v := (-1)) d_L_law_841 rfl (jm_okI (by decide) (by decide)) ?_
    refine jm_icmp_ne (tgt := 913) d_L_law_842 (by decide) (fun c4 => ?_) (fun c4 => ?_)
    · have h := h.1 c4
      refine jm_iconst (v := 0) d_L_law_913 rfl (jm_okI (by decide) (by decide)) ?_
      exact jm_ret (o := some (jm_I _)) d_L_law_914 rfl ⟨by show _ ≤ C2; omega, by show _ ≤ S2; omega⟩ (jm_r_Z (by decide)) h rfl
    · have h := h.2 c4
      refine jm_aloadn d_L_law_845 rfl ?_
      refine jm_bipush (v := 7) d_L_law_846 rfl (jm_okI (by decide) (by decide)) ?_
      refine jm_iconst (v := 0) d_L_law_848 rfl (jm_okI (by decide) (by decide)) ?_
      refine jm_invH (d := d) (k := 3) (av := [jm_R _, jm_I _, jm_I _]) cw_L_kind st_L_kind in_L ⟨by decide +kernel, by decide +kernel, by decide +kernel⟩ (Nat.le_of_ble_eq_true rfl) l_L_143 d_L_law_849 rfl ⟨by show _ ≤ C2; omega, by show _ ≤ S2; omega⟩ (Nat.le_of_ble_eq_true rfl) rfl ?_
      refine jm_Ch.mono h (fun o m5 h hr _ => ?_)
      obtain ⟨r6, rfl⟩ := jm_rokI hr
      have h := h _ rfl
      refine jm_bipush (v := (-7)) d_L_law_852 rfl (jm_okI (by decide) (by decide)) ?_
      refine jm_icmp_ne (tgt := 913) d_L_law_854 (by decide) (fun c7 => ?_) (fun c7 => ?_)
      · have h := h.1 c7
        refine jm_iconst (v := 0) d_L_law_913 rfl (jm_okI (by decide) (by decide)) ?_
        exact jm_ret (o := some (jm_I _)) d_L_law_914 rfl ⟨by show _ ≤ C2; omega, by show _ ≤ S2; omega⟩ (jm_r_Z (by decide)) h rfl
      · have h := h.2 c7
        refine jm_aloadn d_L_law_857 rfl ?_
        refine jm_iconst (v := 0) d_L_law_858 rfl (jm_okI (by decide) (by decide)) ?_
        refine jm_iconst (v := 4) d_L_law_859 rfl (jm_okI (by decide) (by decide)) ?_
        refine jm_invH (d := d) (k := 3) (av := [jm_R _, jm_I _, jm_I _]) cw_L_kind st_L_kind in_L ⟨by decide +kernel, by decide +kernel, by decide +kernel⟩ (Nat.le_of_ble_eq_true rfl) l_L_143 d_L_law_860 rfl ⟨by show _ ≤ C2; omega, by show _ ≤ S2; omega⟩ (Nat.le_of_ble_eq_true rfl) rfl ?_
        refine jm_Ch.mono h (fun o m8 h hr _ => ?_)
        obtain ⟨r9, rfl⟩ := jm_rokI hr
        have h := h _ rfl
        refine jm_bipush (v := (-7)) d_L_law_863 rfl (jm_okI (by decide) (by decide)) ?_
        refine jm_icmp_ne (tgt := 913) d_L_law_865 (by decide) (fun c10 => ?_) (fun c10 => ?_)
        · have h := h.1 c10
          refine jm_iconst (v := 0) d_L_law_913 rfl (jm_okI (by decide) (by decide)) ?_
          exact jm_ret (o := some (jm_I _)) d_L_law_914 rfl ⟨by show _ ≤ C2; omega, by show _ ≤ S2; omega⟩ (jm_r_Z (by decide)) h rfl
        · have h := h.2 c10
          refine jm_aloadn d_L_law_868 rfl ?_
          refine jm_aloadn d_L_law_869 rfl ?_
          refine jm_iconst (v := 0) d_L_law_870 rfl (jm_okI (by decide) (by decide)) ?_
          refine jm_iaload d_L_law_871 (ixl_134 (by decide) (by decide)) ?_
          refine jm_iconst (v := 0) d_L_law_872 rfl (jm_okI (by decide) (by decide)) ?_
          refine jm_invV (n1 := jm_N) (mc := 0) (ms := 0) (av := [jm_I _, jm_I _]) w_X10_say l_L_101 d_L_law_873 rfl is_0 ⟨_, _, rfl⟩ ⟨by show _ ≤ C2; omega, by show _ ≤ S2; omega⟩ (Nat.le_of_ble_eq_true rfl) rfl ?_
          refine jm_Cl.mono h (fun o m11 h hr _ => ?_)
          obtain ⟨r12, rfl⟩ := jm_rokI hr
          have h := h _ rfl
          refine jm_iconst (v := (-1)) d_L_law_876 rfl (jm_okI (by decide) (by decide)) ?_
          refine jm_icmp_ne (tgt := 913) d_L_law_877 (by decide) (fun c13 => ?_) (fun c13 => ?_)
          · have h := h.1 c13
            refine jm_iconst (v := 0) d_L_law_913 rfl (jm_okI (by decide) (by decide)) ?_
            exact jm_ret (o := some (jm_I _)) d_L_law_914 rfl ⟨by show _ ≤ C2; omega, by show _ ≤ S2; omega⟩ (jm_r_Z (by decide)) h rfl
          · have h := h.2 c13
            refine jm_aloadn d_L_law_880 rfl ?_
            refine jm_iconst (v := 0) d_L_law_881 rfl (jm_okI (by decide) (by decide)) ?_
            refine jm_bipush (v := 7) d_L_law_882 rfl (jm_okI (by decide) (by decide)) ?_
            refine jm_invV (n1 := jm_N) (mc := 0) (ms := 0) (av := [jm_I _, jm_I _]) w_X10_wrong l_L_97 d_L_law_884 rfl is_0 ⟨_, _, rfl⟩ ⟨by show _ ≤ C2; omega, by show _ ≤ S2; omega⟩ (Nat.le_of_ble_eq_true rfl) rfl ?_
            refine jm_Cl.mono h (fun o m14 h hr _ => ?_)
            obtain ⟨r15, rfl⟩ := jm_rokI hr
            have h := h _ rfl
            refine jm_iconst (v := (-1)) d_L_law_887 rfl (jm_okI (by decide) (by decide)) ?_
            refine jm_icmp_ne (tgt := 913) d_L_law_888 (by decide) (fun c16 => ?_) (fun c16 => ?_)
            · have h := h.1 c16
              refine jm_iconst (v := 0) d_L_law_913 rfl (jm_okI (by decide) (by decide)) ?_
              exact jm_ret (o := some (jm_I _)) d_L_law_914 rfl ⟨by show _ ≤ C2; omega, by show _ ≤ S2; omega⟩ (jm_r_Z (by decide)) h rfl
            · have h := h.2 c16
              refine jm_aloadn d_L_law_891 rfl ?_
              refine jm_iconst (v := (-1)) d_L_law_892 rfl (jm_okI (by decide) (by decide)) ?_
              refine jm_invV (n1 := jm_N) (mc := 0) (ms := 0) (av := [jm_I _]) w_X10_may l_L_111 d_L_law_893 rfl is_0 ⟨_, _, rfl⟩ ⟨by show _ ≤ C2; omega, by show _ ≤ S2; omega⟩ (Nat.le_of_ble_eq_true rfl) rfl ?_
              refine jm_Cl.mono h (fun o m17 h hr _ => ?_)
              obtain ⟨r18, rfl⟩ := jm_rokI hr
              have h := h _ rfl
              refine jm_iconst (v := (-1)) d_L_law_896 rfl (jm_okI (by decide) (by decide)) ?_
              refine jm_icmp_ne (tgt := 913) d_L_law_897 (by decide) (fun c19 => ?_) (fun c19 => ?_)
              · have h := h.1 c19
                refine jm_iconst (v := 0) d_L_law_913 rfl (jm_okI (by decide) (by decide)) ?_
                exact jm_ret (o := some (jm_I _)) d_L_law_914 rfl ⟨by show _ ≤ C2; omega, by show _ ≤ S2; omega⟩ (jm_r_Z (by decide)) h rfl
              · have h := h.2 c19
                refine jm_aloadn d_L_law_900 rfl ?_
                refine jm_bipush (v := 6) d_L_law_901 rfl (jm_okI (by decide) (by decide)) ?_
                refine jm_invV (n1 := jm_N) (mc := 0) (ms := 0) (av := [jm_I _]) w_X10_count l_L_90 d_L_law_903 rfl is_0 ⟨_, _, rfl⟩ ⟨by show _ ≤ C2; omega, by show _ ≤ S2; omega⟩ (Nat.le_of_ble_eq_true rfl) rfl ?_
                refine jm_Cl.mono h (fun o m20 h hr _ => ?_)
                obtain ⟨r21, rfl⟩ := jm_rokI hr
                have h := h _ rfl
                refine jm_if_ne (tgt := 913) d_L_law_906 (by decide) (fun c22 => ?_) (fun c22 => ?_)
                · have h := h.1 c22
                  refine jm_iconst (v := 0) d_L_law_913 rfl (jm_okI (by decide) (by decide)) ?_
                  exact jm_ret (o := some (jm_I _)) d_L_law_914 rfl ⟨by show _ ≤ C2; omega, by show _ ≤ S2; omega⟩ (jm_r_Z (by decide)) h rfl
                · have h := h.2 c22
                  refine jm_iconst (v := 1) d_L_law_909 rfl (jm_okI (by decide) (by decide)) ?_
                  refine jm_goto (tgt := 914) d_L_law_910 (by decide) ?_
                  exact jm_ret (o := some (jm_I _)) d_L_law_914 rfl ⟨by show _ ≤ C2; omega, by show _ ≤ S2; omega⟩ (jm_r_Z (by decide)) h rfl
  · have h := h.2 c1
    refine jm_aloadn d_L_law_433 rfl ?_
    refine jm_aload d_L_law_434 rfl ?_
    refine jm_iload d_L_law_436 rfl ?_
    refine jm_aload d_L_law_438 rfl ?_
    refine jm_invS (n1 := jm_N) (mc := 0) (ms := 0) (av := [jm_R _, jm_R _, jm_I _, jm_R _]) w_L_live l_L_93 d_L_law_440 rfl ⟨by show _ ≤ C2; omega, by show _ ≤ S2; omega⟩ (Nat.le_of_ble_eq_true rfl) rfl ?_
    refine jm_Cl.mono h (fun o m23 h hr _ => ?_)
    obtain ⟨r24, rfl⟩ := jm_rokI hr
    have h := h _ rfl
    refine jm_if_lt (tgt := 448) d_L_law_443 (by decide) (fun c25 => ?_) (fun c25 => ?_)
    · have h := h.1 c25
      refine jm_iconst (v := 0) d_L_law_448 rfl (jm_okI (by decide) (by decide)) ?_
      refine jm_istore (L' := [none, some (jm_R _), none, some (jm_R _), some (jm_R _), some (jm_R _), none, none, none, some (jm_I _), some (jm_I _), none, none, none, none]) d_L_law_449 (Nat.le_of_ble_eq_true rfl) rfl ?_
      exact h
    · have h := h.2 c25
      refine jm_iconst (v := 0) d_L_law_446 rfl (jm_okI (by decide) (by decide)) ?_
      exact jm_ret (o := some (jm_I _)) d_L_law_447 rfl ⟨by show _ ≤ C2; omega, by show _ ≤ S2; omega⟩ (jm_r_Z (by decide)) h rfl
set_option maxRecDepth 20000 in
theorem r_L_law_451 {E : jm_E} {d C2 S2 cs sl : Nat} {μ : jm_M} {Q : Option jm_V → jm_M → Prop} {v9 v10 : Int} (hc : cs + 9 ≤ C2) (hs : sl + 120 ≤ S2) (h :
  ((v9 ≤ v10 →
    jm_Ch E m_L_word [(0, 6, 7, 161)] d [jm_R 0, jm_I v9, jm_I 0] μ (fun (o : Option jm_V) (m2 : jm_M) => ∀ r3 : Int, o = some (jm_I r3) →
    ((r3 ≠ ((-7)) →
      Q (some (jm_I 0)) m2) ∧
     (¬ (r3 ≠ ((-7))) →
      jm_Ch E m_L_word [(0, 6, 7, 161)] d [jm_R 0, jm_I 0, jm_I 8] m2 (fun (o : Option jm_V) (m5 : jm_M) => ∀ r6 : Int, o = some (jm_I r6) →
      ((r6 ≠ ((-7)) →
        Q (some (jm_I 0)) m5) ∧
       (¬ (r6 ≠ ((-7))) →
        jm_Ch E m_L_word [(0, 6, 7, 161)] d [jm_R 0, jm_I ((-1)), jm_I 0] m5 (fun (o : Option jm_V) (m8 : jm_M) => ∀ r9 : Int, o = some (jm_I r9) →
        ((r9 = ((-7)) →
          jm_G E m_L_law (jm_rm (d + 1) C2 S2) jm_N jm_N (cs + 3) (sl + 18) 688 [none, some (jm_R 0), none, some (jm_R 134), some (jm_R 135), some (jm_R 136), none, none, none, some (jm_I v9), some (jm_I 0), none, none, none, none] [] m8 Q) ∧
         (¬ (r9 = ((-7))) →
          Q (some (jm_I 0)) m8)))))))))) ∧
   (¬ (v9 ≤ v10) →
    (0 ≤ v10 ∧ v10 < 16) ∧
    (((jm_and (μ 135 v10) 15) ≠ 1 →
      jm_Ch E m_L_word [(0, 6, 7, 161)] d [jm_R 0, jm_I v10, jm_I 0] μ (fun (o : Option jm_V) (m13 : jm_M) => ∀ r14 : Int, o = some (jm_I r14) →
      ((r14 ≠ (jm_shr (m13 135 v10) 4) →
        Q (some (jm_I 0)) m13) ∧
       (¬ (r14 ≠ (jm_shr (m13 135 v10) 4)) →
        jm_Ch E m_L_word [(0, 6, 7, 161)] d [jm_R 0, jm_I v10, jm_I 1] m13 (fun (o : Option jm_V) (m16 : jm_M) => ∀ r17 : Int, o = some (jm_I r17) →
        ((r17 ≠ (jm_and (m16 135 v10) 15) →
          Q (some (jm_I 0)) m16) ∧
         (¬ (r17 ≠ (jm_and (m16 135 v10) 15)) →
          jm_Ch E m_L_word [(0, 6, 7, 161)] d [jm_R 0, jm_I v10, jm_I 2] m16 (fun (o : Option jm_V) (m19 : jm_M) => ∀ r20 : Int, o = some (jm_I r20) →
          (0 ≤ v10 ∧ v10 < 56) ∧
          ((r20 ≠ m19 136 v10 →
            Q (some (jm_I 0)) m19) ∧
           (¬ (r20 ≠ m19 136 v10) →
            jm_Ch E m_L_word [(0, 6, 7, 161)] d [jm_R 0, jm_I v10, jm_I 3] m19 (fun (o : Option jm_V) (m23 : jm_M) => ∀ r24 : Int, o = some (jm_I r24) →
            (0 ≤ jm_wr (12 + v10) ∧ jm_wr (12 + v10) < 56) ∧
            ((r24 ≠ (m23 136 (jm_wr (12 + v10))) →
              Q (some (jm_I 0)) m23) ∧
             (¬ (r24 ≠ (m23 136 (jm_wr (12 + v10)))) →
              jm_Ch E m_L_word [(0, 6, 7, 161)] d [jm_R 0, jm_I v10, jm_I 4] m23 (fun (o : Option jm_V) (m27 : jm_M) => ∀ r28 : Int, o = some (jm_I r28) →
              (0 ≤ jm_wr (24 + v10) ∧ jm_wr (24 + v10) < 56) ∧
              ((r28 ≠ (m27 136 (jm_wr (24 + v10))) →
                Q (some (jm_I 0)) m27) ∧
               (¬ (r28 ≠ (m27 136 (jm_wr (24 + v10)))) →
                jm_Ch E m_L_word [(0, 6, 7, 161)] d [jm_R 0, jm_I v10, jm_I 5] m27 (fun (o : Option jm_V) (m31 : jm_M) => ∀ r32 : Int, o = some (jm_I r32) →
                jc E m_L_state d [jm_R 134, jm_R 136, jm_I v10, jm_I v9] m31 (fun (o : Option jm_V) (m33 : jm_M) => ∀ r34 : Int, o = some (jm_I r34) →
                ((r32 ≠ r34 →
                  Q (some (jm_I 0)) m33) ∧
                 (¬ (r32 ≠ r34) →
                  jm_Ch E m_L_word [(0, 6, 7, 161)] d [jm_R 0, jm_I v10, jm_I 6] m33 (fun (o : Option jm_V) (m36 : jm_M) => ∀ r37 : Int, o = some (jm_I r37) →
                  ((r37 ≠ ((-1)) →
                    Q (some (jm_I 0)) m36) ∧
                   (¬ (r37 ≠ ((-1))) →
                    jm_Ch E m_L_word [(0, 6, 7, 161)] d [jm_R 0, jm_I v10, jm_I 7] m36 (fun (o : Option jm_V) (m40 : jm_M) => ∀ r41 : Int, o = some (jm_I r41) →
                    ((r41 = ((-1)) →
                      jm_G E m_L_law (jm_rm (d + 1) C2 S2) jm_N jm_N (cs + 8) (sl + 48) 451 [none, some (jm_R 0), none, some (jm_R 134), some (jm_R 135), some (jm_R 136), none, none, none, some (jm_I v9), some (jm_I (jm_wr (v10 + 1))), none, none, none, none] [] m40 Q) ∧
                     (¬ (r41 = ((-1))) →
                      Q (some (jm_I 0)) m40)))))))))))))))))))))))))) ∧
     (¬ ((jm_and (μ 135 v10) 15) ≠ 1) →
      jm_Ch E m_L_word [(0, 6, 7, 161)] d [jm_R 0, jm_I v10, jm_I 0] μ (fun (o : Option jm_V) (m44 : jm_M) => ∀ r45 : Int, o = some (jm_I r45) →
      ((r45 ≠ (jm_shr (m44 135 v10) 4) →
        Q (some (jm_I 0)) m44) ∧
       (¬ (r45 ≠ (jm_shr (m44 135 v10) 4)) →
        jm_Ch E m_L_word [(0, 6, 7, 161)] d [jm_R 0, jm_I v10, jm_I 1] m44 (fun (o : Option jm_V) (m47 : jm_M) => ∀ r48 : Int, o = some (jm_I r48) →
        ((r48 ≠ (jm_and (m47 135 v10) 15) →
          Q (some (jm_I 0)) m47) ∧
         (¬ (r48 ≠ (jm_and (m47 135 v10) 15)) →
          jm_Ch E m_L_word [(0, 6, 7, 161)] d [jm_R 0, jm_I v10, jm_I 2] m47 (fun (o : Option jm_V) (m50 : jm_M) => ∀ r51 : Int, o = some (jm_I r51) →
          (0 ≤ v10 ∧ v10 < 56) ∧
          ((r51 ≠ m50 136 v10 →
            Q (some (jm_I 0)) m50) ∧
           (¬ (r51 ≠ m50 136 v10) →
            jm_Ch E m_L_word [(0, 6, 7, 161)] d [jm_R 0, jm_I v10, jm_I 3] m50 (fun (o : Option jm_V) (m54 : jm_M) => ∀ r55 : Int, o = some (jm_I r55) →
            (0 ≤ jm_wr (12 + v10) ∧ jm_wr (12 + v10) < 56) ∧
            ((r55 ≠ (m54 136 (jm_wr (12 + v10))) →
              Q (some (jm_I 0)) m54) ∧
             (¬ (r55 ≠ (m54 136 (jm_wr (12 + v10)))) →
              jm_Ch E m_L_word [(0, 6, 7, 161)] d [jm_R 0, jm_I v10, jm_I 4] m54 (fun (o : Option jm_V) (m58 : jm_M) => ∀ r59 : Int, o = some (jm_I r59) →
              (0 ≤ jm_wr (24 + v10) ∧ jm_wr (24 + v10) < 56) ∧
              ((r59 ≠ (m58 136 (jm_wr (24 + v10))) →
                Q (some (jm_I 0)) m58) ∧
               (¬ (r59 ≠ (m58 136 (jm_wr (24 + v10)))) →
                jm_Ch E m_L_word [(0, 6, 7, 161)] d [jm_R 0, jm_I v10, jm_I 5] m58 (fun (o : Option jm_V) (m62 : jm_M) => ∀ r63 : Int, o = some (jm_I r63) →
                jc E m_L_state d [jm_R 134, jm_R 136, jm_I v10, jm_I v9] m62 (fun (o : Option jm_V) (m64 : jm_M) => ∀ r65 : Int, o = some (jm_I r65) →
                ((r63 ≠ r65 →
                  Q (some (jm_I 0)) m64) ∧
                 (¬ (r63 ≠ r65) →
                  jm_Ch E m_L_word [(0, 6, 7, 161)] d [jm_R 0, jm_I v10, jm_I 6] m64 (fun (o : Option jm_V) (m67 : jm_M) => ∀ r68 : Int, o = some (jm_I r68) →
                  (0 ≤ m67 136 v10 ∧ m67 136 v10 < 16) ∧
                  ((r68 ≠ (jm_shr (m67 135 (m67 136 v10)) 4) →
                    Q (some (jm_I 0)) m67) ∧
                   (¬ (r68 ≠ (jm_shr (m67 135 (m67 136 v10)) 4)) →
                    jm_Ch E m_L_word [(0, 6, 7, 161)] d [jm_R 0, jm_I v10, jm_I 7] m67 (fun (o : Option jm_V) (m72 : jm_M) => ∀ r73 : Int, o = some (jm_I r73) →
                    ((r73 = (jm_wr (v10 + (m72 134 11))) →
                      jm_G E m_L_law (jm_rm (d + 1) C2 S2) jm_N jm_N (cs + 8) (sl + 48) 451 [none, some (jm_R 0), none, some (jm_R 134), some (jm_R 135), some (jm_R 136), none, none, none, some (jm_I v9), some (jm_I (jm_wr (v10 + 1))), none, none, none, none] [] m72 Q) ∧
                     (¬ (r73 = (jm_wr (v10 + (m72 134 11)))) →
                      Q (some (jm_I 0)) m72)))))))))))))))))))))))))))))) : jm_G E m_L_law (jm_rm (d + 1) C2 S2) jm_N jm_N cs sl 451 [none, some (jm_R 0), none, some (jm_R 134), some (jm_R 135), some (jm_R 136), none, none, none, some (jm_I v9), some (jm_I v10), none, none, none, none] [] μ Q := by
  refine jm_iload d_L_law_451 rfl ?_
  refine jm_iload d_L_law_453 rfl ?_
  refine jm_icmp_ge (tgt := 648) d_L_law_455 (by decide) (fun c1 => ?_) (fun c1 => ?_)
  · have h := h.1 c1
    refine jm_aloadn d_L_law_648 rfl ?_
    refine jm_iload d_L_law_649 rfl ?_
    refine jm_iconst (v := 0) d_L_law_651 rfl (jm_okI (by decide) (by decide)) ?_
    refine jm_invH (d := d) (k := 3) (av := [jm_R _, jm_I _, jm_I _]) cw_L_word st_L_word in_L ⟨by decide +kernel, by decide +kernel, by decide +kernel⟩ (Nat.le_of_ble_eq_true rfl) l_L_152 d_L_law_652 rfl ⟨by show _ ≤ C2; omega, by show _ ≤ S2; omega⟩ (Nat.le_of_ble_eq_true rfl) rfl ?_
    refine jm_Ch.mono h (fun o m2 h hr _ => ?_)
    obtain ⟨r3, rfl⟩ := jm_rokI hr
    have h := h _ rfl
    refine jm_bipush (v := (-7)) d_L_law_655 rfl (jm_okI (by decide) (by decide)) ?_
    refine jm_icmp_ne (tgt := 683) d_L_law_657 (by decide) (fun c4 => ?_) (fun c4 => ?_)
    · have h := h.1 c4
      refine jm_iconst (v := 0) d_L_law_683 rfl (jm_okI (by decide) (by decide)) ?_
      exact jm_ret (o := some (jm_I _)) d_L_law_684 rfl ⟨by show _ ≤ C2; omega, by show _ ≤ S2; omega⟩ (jm_r_Z (by decide)) h rfl
    · have h := h.2 c4
      refine jm_aloadn d_L_law_660 rfl ?_
      refine jm_iconst (v := 0) d_L_law_661 rfl (jm_okI (by decide) (by decide)) ?_
      refine jm_bipush (v := 8) d_L_law_662 rfl (jm_okI (by decide) (by decide)) ?_
      refine jm_invH (d := d) (k := 3) (av := [jm_R _, jm_I _, jm_I _]) cw_L_word st_L_word in_L ⟨by decide +kernel, by decide +kernel, by decide +kernel⟩ (Nat.le_of_ble_eq_true rfl) l_L_152 d_L_law_664 rfl ⟨by show _ ≤ C2; omega, by show _ ≤ S2; omega⟩ (Nat.le_of_ble_eq_true rfl) rfl ?_
      refine jm_Ch.mono h (fun o m5 h hr _ => ?_)
      obtain ⟨r6, rfl⟩ := jm_rokI hr
      have h := h _ rfl
      refine jm_bipush (v := (-7)) d_L_law_667 rfl (jm_okI (by decide) (by decide)) ?_
      refine jm_icmp_ne (tgt := 683) d_L_law_669 (by decide) (fun c7 => ?_) (fun c7 => ?_)
      · have h := h.1 c7
        refine jm_iconst (v := 0) d_L_law_683 rfl (jm_okI (by decide) (by decide)) ?_
        exact jm_ret (o := some (jm_I _)) d_L_law_684 rfl ⟨by show _ ≤ C2; omega, by show _ ≤ S2; omega⟩ (jm_r_Z (by decide)) h rfl
      · have h := h.2 c7
        refine jm_aloadn d_L_law_672 rfl ?_
        refine jm_iconst (v := (-1)) d_L_law_673 rfl (jm_okI (by decide) (by decide)) ?_
        refine jm_iconst (v := 0) d_L_law_674 rfl (jm_okI (by decide) (by decide)) ?_
        refine jm_invH (d := d) (k := 3) (av := [jm_R _, jm_I _, jm_I _]) cw_L_word st_L_word in_L ⟨by decide +kernel, by decide +kernel, by decide +kernel⟩ (Nat.le_of_ble_eq_true rfl) l_L_152 d_L_law_675 rfl ⟨by show _ ≤ C2; omega, by show _ ≤ S2; omega⟩ (Nat.le_of_ble_eq_true rfl) rfl ?_
        refine jm_Ch.mono h (fun o m8 h hr _ => ?_)
        obtain ⟨r9, rfl⟩ := jm_rokI hr
        have h := h _ rfl
        refine jm_bipush (v := (-7)) d_L_law_678 rfl (jm_okI (by decide) (by decide)) ?_
        refine jm_icmp_eq (tgt := 685) d_L_law_680 (by decide) (fun c10 => ?_) (fun c10 => ?_)
        · have h := h.1 c10
          refine jm_iconst (v := 0) d_L_law_685 rfl (jm_okI (by decide) (by decide)) ?_
          refine jm_istore (L' := [none, some (jm_R _), none, some (jm_R _), some (jm_R _), some (jm_R _), none, none, none, some (jm_I _), some (jm_I _), none, none, none, none]) d_L_law_686 (Nat.le_of_ble_eq_true rfl) rfl ?_
          exact h
        · have h := h.2 c10
          refine jm_iconst (v := 0) d_L_law_683 rfl (jm_okI (by decide) (by decide)) ?_
          exact jm_ret (o := some (jm_I _)) d_L_law_684 rfl ⟨by show _ ≤ C2; omega, by show _ ≤ S2; omega⟩ (jm_r_Z (by decide)) h rfl
  · have h := h.2 c1
    refine jm_aload d_L_law_458 rfl ?_
    refine jm_iload d_L_law_460 rfl ?_
    obtain ⟨f11, h⟩ := h
    refine jm_iaload d_L_law_462 (ixl_135 f11.1 f11.2) ?_
    refine jm_bipush (v := 15) d_L_law_463 rfl (jm_okI (by decide) (by decide)) ?_
    refine jm_iand d_L_law_465 ?_
    refine jm_iconst (v := 1) d_L_law_466 rfl (jm_okI (by decide) (by decide)) ?_
    refine jm_icmp_ne (tgt := 474) d_L_law_467 (by decide) (fun c12 => ?_) (fun c12 => ?_)
    · have h := h.1 c12
      refine jm_iconst (v := 0) d_L_law_474 rfl (jm_okI (by decide) (by decide)) ?_
      refine jm_istore (L' := [none, some (jm_R _), none, some (jm_R _), some (jm_R _), some (jm_R _), none, none, none, some (jm_I _), some (jm_I _), some (jm_I _), none, none, none]) d_L_law_475 (Nat.le_of_ble_eq_true rfl) rfl ?_
      refine jm_aloadn d_L_law_477 rfl ?_
      refine jm_iload d_L_law_478 rfl ?_
      refine jm_iconst (v := 0) d_L_law_480 rfl (jm_okI (by decide) (by decide)) ?_
      refine jm_invH (d := d) (k := 3) (av := [jm_R _, jm_I _, jm_I _]) cw_L_word st_L_word in_L ⟨by decide +kernel, by decide +kernel, by decide +kernel⟩ (Nat.le_of_ble_eq_true rfl) l_L_152 d_L_law_481 rfl ⟨by show _ ≤ C2; omega, by show _ ≤ S2; omega⟩ (Nat.le_of_ble_eq_true rfl) rfl ?_
      refine jm_Ch.mono h (fun o m13 h hr _ => ?_)
      obtain ⟨r14, rfl⟩ := jm_rokI hr
      have h := h _ rfl
      refine jm_aload d_L_law_484 rfl ?_
      refine jm_iload d_L_law_486 rfl ?_
      refine jm_iaload d_L_law_488 (ixl_135 f11.1 f11.2) ?_
      refine jm_iconst (v := 4) d_L_law_489 rfl (jm_okI (by decide) (by decide)) ?_
      refine jm_ishr d_L_law_490 ?_
      refine jm_icmp_ne (tgt := 640) d_L_law_491 (by decide) (fun c15 => ?_) (fun c15 => ?_)
      · have h := h.1 c15
        refine jm_iconst (v := 0) d_L_law_640 rfl (jm_okI (by decide) (by decide)) ?_
        exact jm_ret (o := some (jm_I _)) d_L_law_641 rfl ⟨by show _ ≤ C2; omega, by show _ ≤ S2; omega⟩ (jm_r_Z (by decide)) h rfl
      · have h := h.2 c15
        refine jm_aloadn d_L_law_494 rfl ?_
        refine jm_iload d_L_law_495 rfl ?_
        refine jm_iconst (v := 1) d_L_law_497 rfl (jm_okI (by decide) (by decide)) ?_
        refine jm_invH (d := d) (k := 3) (av := [jm_R _, jm_I _, jm_I _]) cw_L_word st_L_word in_L ⟨by decide +kernel, by decide +kernel, by decide +kernel⟩ (Nat.le_of_ble_eq_true rfl) l_L_152 d_L_law_498 rfl ⟨by show _ ≤ C2; omega, by show _ ≤ S2; omega⟩ (Nat.le_of_ble_eq_true rfl) rfl ?_
        refine jm_Ch.mono h (fun o m16 h hr _ => ?_)
        obtain ⟨r17, rfl⟩ := jm_rokI hr
        have h := h _ rfl
        refine jm_aload d_L_law_501 rfl ?_
        refine jm_iload d_L_law_503 rfl ?_
        refine jm_iaload d_L_law_505 (ixl_135 f11.1 f11.2) ?_
        refine jm_bipush (v := 15) d_L_law_506 rfl (jm_okI (by decide) (by decide)) ?_
        refine jm_iand d_L_law_508 ?_
        refine jm_icmp_ne (tgt := 640) d_L_law_509 (by decide) (fun c18 => ?_) (fun c18 => ?_)
        · have h := h.1 c18
          refine jm_iconst (v := 0) d_L_law_640 rfl (jm_okI (by decide) (by decide)) ?_
          exact jm_ret (o := some (jm_I _)) d_L_law_641 rfl ⟨by show _ ≤ C2; omega, by show _ ≤ S2; omega⟩ (jm_r_Z (by decide)) h rfl
        · have h := h.2 c18
          refine jm_aloadn d_L_law_512 rfl ?_
          refine jm_iload d_L_law_513 rfl ?_
          refine jm_iconst (v := 2) d_L_law_515 rfl (jm_okI (by decide) (by decide)) ?_
          refine jm_invH (d := d) (k := 3) (av := [jm_R _, jm_I _, jm_I _]) cw_L_word st_L_word in_L ⟨by decide +kernel, by decide +kernel, by decide +kernel⟩ (Nat.le_of_ble_eq_true rfl) l_L_152 d_L_law_516 rfl ⟨by show _ ≤ C2; omega, by show _ ≤ S2; omega⟩ (Nat.le_of_ble_eq_true rfl) rfl ?_
          refine jm_Ch.mono h (fun o m19 h hr _ => ?_)
          obtain ⟨r20, rfl⟩ := jm_rokI hr
          have h := h _ rfl
          refine jm_aload d_L_law_519 rfl ?_
          refine jm_iload d_L_law_521 rfl ?_
          obtain ⟨f21, h⟩ := h
          refine jm_iaload d_L_law_523 (ixl_136 f21.1 f21.2) ?_
          refine jm_icmp_ne (tgt := 640) d_L_law_524 (by decide) (fun c22 => ?_) (fun c22 => ?_)
          · have h := h.1 c22
            refine jm_iconst (v := 0) d_L_law_640 rfl (jm_okI (by decide) (by decide)) ?_
            exact jm_ret (o := some (jm_I _)) d_L_law_641 rfl ⟨by show _ ≤ C2; omega, by show _ ≤ S2; omega⟩ (jm_r_Z (by decide)) h rfl
          · have h := h.2 c22
            refine jm_aloadn d_L_law_527 rfl ?_
            refine jm_iload d_L_law_528 rfl ?_
            refine jm_iconst (v := 3) d_L_law_530 rfl (jm_okI (by decide) (by decide)) ?_
            refine jm_invH (d := d) (k := 3) (av := [jm_R _, jm_I _, jm_I _]) cw_L_word st_L_word in_L ⟨by decide +kernel, by decide +kernel, by decide +kernel⟩ (Nat.le_of_ble_eq_true rfl) l_L_152 d_L_law_531 rfl ⟨by show _ ≤ C2; omega, by show _ ≤ S2; omega⟩ (Nat.le_of_ble_eq_true rfl) rfl ?_
            refine jm_Ch.mono h (fun o m23 h hr _ => ?_)
            obtain ⟨r24, rfl⟩ := jm_rokI hr
            have h := h _ rfl
            refine jm_aload d_L_law_534 rfl ?_
            refine jm_bipush (v := 12) d_L_law_536 rfl (jm_okI (by decide) (by decide)) ?_
            refine jm_iload d_L_law_538 rfl ?_
            refine jm_iadd d_L_law_540 ?_
            obtain ⟨f25, h⟩ := h
            refine jm_iaload d_L_law_541 (ixl_136 f25.1 f25.2) ?_
            refine jm_icmp_ne (tgt := 640) d_L_law_542 (by decide) (fun c26 => ?_) (fun c26 => ?_)
            · have h := h.1 c26
              refine jm_iconst (v := 0) d_L_law_640 rfl (jm_okI (by decide) (by decide)) ?_
              exact jm_ret (o := some (jm_I _)) d_L_law_641 rfl ⟨by show _ ≤ C2; omega, by show _ ≤ S2; omega⟩ (jm_r_Z (by decide)) h rfl
            · have h := h.2 c26
              refine jm_aloadn d_L_law_545 rfl ?_
              refine jm_iload d_L_law_546 rfl ?_
              refine jm_iconst (v := 4) d_L_law_548 rfl (jm_okI (by decide) (by decide)) ?_
              refine jm_invH (d := d) (k := 3) (av := [jm_R _, jm_I _, jm_I _]) cw_L_word st_L_word in_L ⟨by decide +kernel, by decide +kernel, by decide +kernel⟩ (Nat.le_of_ble_eq_true rfl) l_L_152 d_L_law_549 rfl ⟨by show _ ≤ C2; omega, by show _ ≤ S2; omega⟩ (Nat.le_of_ble_eq_true rfl) rfl ?_
              refine jm_Ch.mono h (fun o m27 h hr _ => ?_)
              obtain ⟨r28, rfl⟩ := jm_rokI hr
              have h := h _ rfl
              refine jm_aload d_L_law_552 rfl ?_
              refine jm_bipush (v := 24) d_L_law_554 rfl (jm_okI (by decide) (by decide)) ?_
              refine jm_iload d_L_law_556 rfl ?_
              refine jm_iadd d_L_law_558 ?_
              obtain ⟨f29, h⟩ := h
              refine jm_iaload d_L_law_559 (ixl_136 f29.1 f29.2) ?_
              refine jm_icmp_ne (tgt := 640) d_L_law_560 (by decide) (fun c30 => ?_) (fun c30 => ?_)
              · have h := h.1 c30
                refine jm_iconst (v := 0) d_L_law_640 rfl (jm_okI (by decide) (by decide)) ?_
                exact jm_ret (o := some (jm_I _)) d_L_law_641 rfl ⟨by show _ ≤ C2; omega, by show _ ≤ S2; omega⟩ (jm_r_Z (by decide)) h rfl
              · have h := h.2 c30
                refine jm_aloadn d_L_law_563 rfl ?_
                refine jm_iload d_L_law_564 rfl ?_
                refine jm_iconst (v := 5) d_L_law_566 rfl (jm_okI (by decide) (by decide)) ?_
                refine jm_invH (d := d) (k := 3) (av := [jm_R _, jm_I _, jm_I _]) cw_L_word st_L_word in_L ⟨by decide +kernel, by decide +kernel, by decide +kernel⟩ (Nat.le_of_ble_eq_true rfl) l_L_152 d_L_law_567 rfl ⟨by show _ ≤ C2; omega, by show _ ≤ S2; omega⟩ (Nat.le_of_ble_eq_true rfl) rfl ?_
                refine jm_Ch.mono h (fun o m31 h hr _ => ?_)
                obtain ⟨r32, rfl⟩ := jm_rokI hr
                have h := h _ rfl
                refine jm_aloadn d_L_law_570 rfl ?_
                refine jm_aload d_L_law_571 rfl ?_
                refine jm_iload d_L_law_573 rfl ?_
                refine jm_iload d_L_law_575 rfl ?_
                refine jm_invS (n1 := jm_N) (mc := 0) (ms := 0) (av := [jm_R _, jm_R _, jm_I _, jm_I _]) w_L_state l_L_155 d_L_law_577 rfl ⟨by show _ ≤ C2; omega, by show _ ≤ S2; omega⟩ (Nat.le_of_ble_eq_true rfl) rfl ?_
                refine jm_Cl.mono h (fun o m33 h hr _ => ?_)
                obtain ⟨r34, rfl⟩ := jm_rokI hr
                have h := h _ rfl
                refine jm_icmp_ne (tgt := 640) d_L_law_580 (by decide) (fun c35 => ?_) (fun c35 => ?_)
                · have h := h.1 c35
                  refine jm_iconst (v := 0) d_L_law_640 rfl (jm_okI (by decide) (by decide)) ?_
                  exact jm_ret (o := some (jm_I _)) d_L_law_641 rfl ⟨by show _ ≤ C2; omega, by show _ ≤ S2; omega⟩ (jm_r_Z (by decide)) h rfl
                · have h := h.2 c35
                  refine jm_aloadn d_L_law_583 rfl ?_
                  refine jm_iload d_L_law_584 rfl ?_
                  refine jm_bipush (v := 6) d_L_law_586 rfl (jm_okI (by decide) (by decide)) ?_
                  refine jm_invH (d := d) (k := 3) (av := [jm_R _, jm_I _, jm_I _]) cw_L_word st_L_word in_L ⟨by decide +kernel, by decide +kernel, by decide +kernel⟩ (Nat.le_of_ble_eq_true rfl) l_L_152 d_L_law_588 rfl ⟨by show _ ≤ C2; omega, by show _ ≤ S2; omega⟩ (Nat.le_of_ble_eq_true rfl) rfl ?_
                  refine jm_Ch.mono h (fun o m36 h hr _ => ?_)
                  obtain ⟨r37, rfl⟩ := jm_rokI hr
                  have h := h _ rfl
                  refine jm_iload d_L_law_591 rfl ?_
                  refine jm_if_eq (tgt := 609) d_L_law_593 (by decide) (fun _ => ?_) (fun c38 => absurd (by decide) c38)
                  refine jm_iconst (v := (-1)) d_L_law_609 rfl (jm_okI (by decide) (by decide)) ?_
                  refine jm_icmp_ne (tgt := 640) d_L_law_610 (by decide) (fun c39 => ?_) (fun c39 => ?_)
                  · have h := h.1 c39
                    refine jm_iconst (v := 0) d_L_law_640 rfl (jm_okI (by decide) (by decide)) ?_
                    exact jm_ret (o := some (jm_I _)) d_L_law_641 rfl ⟨by show _ ≤ C2; omega, by show _ ≤ S2; omega⟩ (jm_r_Z (by decide)) h rfl
                  · have h := h.2 c39
                    refine jm_aloadn d_L_law_613 rfl ?_
                    refine jm_iload d_L_law_614 rfl ?_
                    refine jm_bipush (v := 7) d_L_law_616 rfl (jm_okI (by decide) (by decide)) ?_
                    refine jm_invH (d := d) (k := 3) (av := [jm_R _, jm_I _, jm_I _]) cw_L_word st_L_word in_L ⟨by decide +kernel, by decide +kernel, by decide +kernel⟩ (Nat.le_of_ble_eq_true rfl) l_L_152 d_L_law_618 rfl ⟨by show _ ≤ C2; omega, by show _ ≤ S2; omega⟩ (Nat.le_of_ble_eq_true rfl) rfl ?_
                    refine jm_Ch.mono h (fun o m40 h hr _ => ?_)
                    obtain ⟨r41, rfl⟩ := jm_rokI hr
                    have h := h _ rfl
                    refine jm_iload d_L_law_621 rfl ?_
                    refine jm_if_eq (tgt := 636) d_L_law_623 (by decide) (fun _ => ?_) (fun c42 => absurd (by decide) c42)
                    refine jm_iconst (v := (-1)) d_L_law_636 rfl (jm_okI (by decide) (by decide)) ?_
                    refine jm_icmp_eq (tgt := 642) d_L_law_637 (by decide) (fun c43 => ?_) (fun c43 => ?_)
                    · have h := h.1 c43
                      refine jm_iinc (L' := [none, some (jm_R _), none, some (jm_R _), some (jm_R _), some (jm_R _), none, none, none, some (jm_I _), some (jm_I _), some (jm_I _), none, none, none]) d_L_law_642 rfl rfl (Nat.le_of_ble_eq_true rfl) rfl ?_
                      refine jm_goto (tgt := 451) d_L_law_645 (by decide) ?_
                      exact jm_weak2 h (And.intro rfl (And.intro rfl (And.intro rfl (And.intro rfl (And.intro rfl (And.intro rfl trivial))))))
                    · have h := h.2 c43
                      refine jm_iconst (v := 0) d_L_law_640 rfl (jm_okI (by decide) (by decide)) ?_
                      exact jm_ret (o := some (jm_I _)) d_L_law_641 rfl ⟨by show _ ≤ C2; omega, by show _ ≤ S2; omega⟩ (jm_r_Z (by decide)) h rfl
    · have h := h.2 c12
      refine jm_iconst (v := 1) d_L_law_470 rfl (jm_okI (by decide) (by decide)) ?_
      refine jm_goto (tgt := 475) d_L_law_471 (by decide) ?_
      refine jm_istore (L' := [none, some (jm_R _), none, some (jm_R _), some (jm_R _), some (jm_R _), none, none, none, some (jm_I _), some (jm_I _), some (jm_I _), none, none, none]) d_L_law_475 (Nat.le_of_ble_eq_true rfl) rfl ?_
      refine jm_aloadn d_L_law_477 rfl ?_
      refine jm_iload d_L_law_478 rfl ?_
      refine jm_iconst (v := 0) d_L_law_480 rfl (jm_okI (by decide) (by decide)) ?_
      refine jm_invH (d := d) (k := 3) (av := [jm_R _, jm_I _, jm_I _]) cw_L_word st_L_word in_L ⟨by decide +kernel, by decide +kernel, by decide +kernel⟩ (Nat.le_of_ble_eq_true rfl) l_L_152 d_L_law_481 rfl ⟨by show _ ≤ C2; omega, by show _ ≤ S2; omega⟩ (Nat.le_of_ble_eq_true rfl) rfl ?_
      refine jm_Ch.mono h (fun o m44 h hr _ => ?_)
      obtain ⟨r45, rfl⟩ := jm_rokI hr
      have h := h _ rfl
      refine jm_aload d_L_law_484 rfl ?_
      refine jm_iload d_L_law_486 rfl ?_
      refine jm_iaload d_L_law_488 (ixl_135 f11.1 f11.2) ?_
      refine jm_iconst (v := 4) d_L_law_489 rfl (jm_okI (by decide) (by decide)) ?_
      refine jm_ishr d_L_law_490 ?_
      refine jm_icmp_ne (tgt := 640) d_L_law_491 (by decide) (fun c46 => ?_) (fun c46 => ?_)
      · have h := h.1 c46
        refine jm_iconst (v := 0) d_L_law_640 rfl (jm_okI (by decide) (by decide)) ?_
        exact jm_ret (o := some (jm_I _)) d_L_law_641 rfl ⟨by show _ ≤ C2; omega, by show _ ≤ S2; omega⟩ (jm_r_Z (by decide)) h rfl
      · have h := h.2 c46
        refine jm_aloadn d_L_law_494 rfl ?_
        refine jm_iload d_L_law_495 rfl ?_
        refine jm_iconst (v := 1) d_L_law_497 rfl (jm_okI (by decide) (by decide)) ?_
        refine jm_invH (d := d) (k := 3) (av := [jm_R _, jm_I _, jm_I _]) cw_L_word st_L_word in_L ⟨by decide +kernel, by decide +kernel, by decide +kernel⟩ (Nat.le_of_ble_eq_true rfl) l_L_152 d_L_law_498 rfl ⟨by show _ ≤ C2; omega, by show _ ≤ S2; omega⟩ (Nat.le_of_ble_eq_true rfl) rfl ?_
        refine jm_Ch.mono h (fun o m47 h hr _ => ?_)
        obtain ⟨r48, rfl⟩ := jm_rokI hr
        have h := h _ rfl
        refine jm_aload d_L_law_501 rfl ?_
        refine jm_iload d_L_law_503 rfl ?_
        refine jm_iaload d_L_law_505 (ixl_135 f11.1 f11.2) ?_
        refine jm_bipush (v := 15) d_L_law_506 rfl (jm_okI (by decide) (by decide)) ?_
        refine jm_iand d_L_law_508 ?_
        refine jm_icmp_ne (tgt := 640) d_L_law_509 (by decide) (fun c49 => ?_) (fun c49 => ?_)
        · have h := h.1 c49
          refine jm_iconst (v := 0) d_L_law_640 rfl (jm_okI (by decide) (by decide)) ?_
          exact jm_ret (o := some (jm_I _)) d_L_law_641 rfl ⟨by show _ ≤ C2; omega, by show _ ≤ S2; omega⟩ (jm_r_Z (by decide)) h rfl
        · have h := h.2 c49
          refine jm_aloadn d_L_law_512 rfl ?_
          refine jm_iload d_L_law_513 rfl ?_
          refine jm_iconst (v := 2) d_L_law_515 rfl (jm_okI (by decide) (by decide)) ?_
          refine jm_invH (d := d) (k := 3) (av := [jm_R _, jm_I _, jm_I _]) cw_L_word st_L_word in_L ⟨by decide +kernel, by decide +kernel, by decide +kernel⟩ (Nat.le_of_ble_eq_true rfl) l_L_152 d_L_law_516 rfl ⟨by show _ ≤ C2; omega, by show _ ≤ S2; omega⟩ (Nat.le_of_ble_eq_true rfl) rfl ?_
          refine jm_Ch.mono h (fun o m50 h hr _ => ?_)
          obtain ⟨r51, rfl⟩ := jm_rokI hr
          have h := h _ rfl
          refine jm_aload d_L_law_519 rfl ?_
          refine jm_iload d_L_law_521 rfl ?_
          obtain ⟨f52, h⟩ := h
          refine jm_iaload d_L_law_523 (ixl_136 f52.1 f52.2) ?_
          refine jm_icmp_ne (tgt := 640) d_L_law_524 (by decide) (fun c53 => ?_) (fun c53 => ?_)
          · have h := h.1 c53
            refine jm_iconst (v := 0) d_L_law_640 rfl (jm_okI (by decide) (by decide)) ?_
            exact jm_ret (o := some (jm_I _)) d_L_law_641 rfl ⟨by show _ ≤ C2; omega, by show _ ≤ S2; omega⟩ (jm_r_Z (by decide)) h rfl
          · have h := h.2 c53
            refine jm_aloadn d_L_law_527 rfl ?_
            refine jm_iload d_L_law_528 rfl ?_
            refine jm_iconst (v := 3) d_L_law_530 rfl (jm_okI (by decide) (by decide)) ?_
            refine jm_invH (d := d) (k := 3) (av := [jm_R _, jm_I _, jm_I _]) cw_L_word st_L_word in_L ⟨by decide +kernel, by decide +kernel, by decide +kernel⟩ (Nat.le_of_ble_eq_true rfl) l_L_152 d_L_law_531 rfl ⟨by show _ ≤ C2; omega, by show _ ≤ S2; omega⟩ (Nat.le_of_ble_eq_true rfl) rfl ?_
            refine jm_Ch.mono h (fun o m54 h hr _ => ?_)
            obtain ⟨r55, rfl⟩ := jm_rokI hr
            have h := h _ rfl
            refine jm_aload d_L_law_534 rfl ?_
            refine jm_bipush (v := 12) d_L_law_536 rfl (jm_okI (by decide) (by decide)) ?_
            refine jm_iload d_L_law_538 rfl ?_
            refine jm_iadd d_L_law_540 ?_
            obtain ⟨f56, h⟩ := h
            refine jm_iaload d_L_law_541 (ixl_136 f56.1 f56.2) ?_
            refine jm_icmp_ne (tgt := 640) d_L_law_542 (by decide) (fun c57 => ?_) (fun c57 => ?_)
            · have h := h.1 c57
              refine jm_iconst (v := 0) d_L_law_640 rfl (jm_okI (by decide) (by decide)) ?_
              exact jm_ret (o := some (jm_I _)) d_L_law_641 rfl ⟨by show _ ≤ C2; omega, by show _ ≤ S2; omega⟩ (jm_r_Z (by decide)) h rfl
            · have h := h.2 c57
              refine jm_aloadn d_L_law_545 rfl ?_
              refine jm_iload d_L_law_546 rfl ?_
              refine jm_iconst (v := 4) d_L_law_548 rfl (jm_okI (by decide) (by decide)) ?_
              refine jm_invH (d := d) (k := 3) (av := [jm_R _, jm_I _, jm_I _]) cw_L_word st_L_word in_L ⟨by decide +kernel, by decide +kernel, by decide +kernel⟩ (Nat.le_of_ble_eq_true rfl) l_L_152 d_L_law_549 rfl ⟨by show _ ≤ C2; omega, by show _ ≤ S2; omega⟩ (Nat.le_of_ble_eq_true rfl) rfl ?_
              refine jm_Ch.mono h (fun o m58 h hr _ => ?_)
              obtain ⟨r59, rfl⟩ := jm_rokI hr
              have h := h _ rfl
              refine jm_aload d_L_law_552 rfl ?_
              refine jm_bipush (v := 24) d_L_law_554 rfl (jm_okI (by decide) (by decide)) ?_
              refine jm_iload d_L_law_556 rfl ?_
              refine jm_iadd d_L_law_558 ?_
              obtain ⟨f60, h⟩ := h
              refine jm_iaload d_L_law_559 (ixl_136 f60.1 f60.2) ?_
              refine jm_icmp_ne (tgt := 640) d_L_law_560 (by decide) (fun c61 => ?_) (fun c61 => ?_)
              · have h := h.1 c61
                refine jm_iconst (v := 0) d_L_law_640 rfl (jm_okI (by decide) (by decide)) ?_
                exact jm_ret (o := some (jm_I _)) d_L_law_641 rfl ⟨by show _ ≤ C2; omega, by show _ ≤ S2; omega⟩ (jm_r_Z (by decide)) h rfl
              · have h := h.2 c61
                refine jm_aloadn d_L_law_563 rfl ?_
                refine jm_iload d_L_law_564 rfl ?_
                refine jm_iconst (v := 5) d_L_law_566 rfl (jm_okI (by decide) (by decide)) ?_
                refine jm_invH (d := d) (k := 3) (av := [jm_R _, jm_I _, jm_I _]) cw_L_word st_L_word in_L ⟨by decide +kernel, by decide +kernel, by decide +kernel⟩ (Nat.le_of_ble_eq_true rfl) l_L_152 d_L_law_567 rfl ⟨by show _ ≤ C2; omega, by show _ ≤ S2; omega⟩ (Nat.le_of_ble_eq_true rfl) rfl ?_
                refine jm_Ch.mono h (fun o m62 h hr _ => ?_)
                obtain ⟨r63, rfl⟩ := jm_rokI hr
                have h := h _ rfl
                refine jm_aloadn d_L_law_570 rfl ?_
                refine jm_aload d_L_law_571 rfl ?_
                refine jm_iload d_L_law_573 rfl ?_
                refine jm_iload d_L_law_575 rfl ?_
                refine jm_invS (n1 := jm_N) (mc := 0) (ms := 0) (av := [jm_R _, jm_R _, jm_I _, jm_I _]) w_L_state l_L_155 d_L_law_577 rfl ⟨by show _ ≤ C2; omega, by show _ ≤ S2; omega⟩ (Nat.le_of_ble_eq_true rfl) rfl ?_
                refine jm_Cl.mono h (fun o m64 h hr _ => ?_)
                obtain ⟨r65, rfl⟩ := jm_rokI hr
                have h := h _ rfl
                refine jm_icmp_ne (tgt := 640) d_L_law_580 (by decide) (fun c66 => ?_) (fun c66 => ?_)
                · have h := h.1 c66
                  refine jm_iconst (v := 0) d_L_law_640 rfl (jm_okI (by decide) (by decide)) ?_
                  exact jm_ret (o := some (jm_I _)) d_L_law_641 rfl ⟨by show _ ≤ C2; omega, by show _ ≤ S2; omega⟩ (jm_r_Z (by decide)) h rfl
                · have h := h.2 c66
                  refine jm_aloadn d_L_law_583 rfl ?_
                  refine jm_iload d_L_law_584 rfl ?_
                  refine jm_bipush (v := 6) d_L_law_586 rfl (jm_okI (by decide) (by decide)) ?_
                  refine jm_invH (d := d) (k := 3) (av := [jm_R _, jm_I _, jm_I _]) cw_L_word st_L_word in_L ⟨by decide +kernel, by decide +kernel, by decide +kernel⟩ (Nat.le_of_ble_eq_true rfl) l_L_152 d_L_law_588 rfl ⟨by show _ ≤ C2; omega, by show _ ≤ S2; omega⟩ (Nat.le_of_ble_eq_true rfl) rfl ?_
                  refine jm_Ch.mono h (fun o m67 h hr _ => ?_)
                  obtain ⟨r68, rfl⟩ := jm_rokI hr
                  have h := h _ rfl
                  refine jm_iload d_L_law_591 rfl ?_
                  refine jm_if_eq (tgt := 609) d_L_law_593 (by decide) (fun c69 => absurd c69 (by decide)) (fun _ => ?_)
                  refine jm_aload d_L_law_596 rfl ?_
                  refine jm_aload d_L_law_598 rfl ?_
                  refine jm_iload d_L_law_600 rfl ?_
                  refine jm_iaload d_L_law_602 (ixl_136 f52.1 f52.2) ?_
                  obtain ⟨f70, h⟩ := h
                  refine jm_iaload d_L_law_603 (ixl_135 f70.1 f70.2) ?_
                  refine jm_iconst (v := 4) d_L_law_604 rfl (jm_okI (by decide) (by decide)) ?_
                  refine jm_ishr d_L_law_605 ?_
                  refine jm_goto (tgt := 610) d_L_law_606 (by decide) ?_
                  refine jm_icmp_ne (tgt := 640) d_L_law_610 (by decide) (fun c71 => ?_) (fun c71 => ?_)
                  · have h := h.1 c71
                    refine jm_iconst (v := 0) d_L_law_640 rfl (jm_okI (by decide) (by decide)) ?_
                    exact jm_ret (o := some (jm_I _)) d_L_law_641 rfl ⟨by show _ ≤ C2; omega, by show _ ≤ S2; omega⟩ (jm_r_Z (by decide)) h rfl
                  · have h := h.2 c71
                    refine jm_aloadn d_L_law_613 rfl ?_
                    refine jm_iload d_L_law_614 rfl ?_
                    refine jm_bipush (v := 7) d_L_law_616 rfl (jm_okI (by decide) (by decide)) ?_
                    refine jm_invH (d := d) (k := 3) (av := [jm_R _, jm_I _, jm_I _]) cw_L_word st_L_word in_L ⟨by decide +kernel, by decide +kernel, by decide +kernel⟩ (Nat.le_of_ble_eq_true rfl) l_L_152 d_L_law_618 rfl ⟨by show _ ≤ C2; omega, by show _ ≤ S2; omega⟩ (Nat.le_of_ble_eq_true rfl) rfl ?_
                    refine jm_Ch.mono h (fun o m72 h hr _ => ?_)
                    obtain ⟨r73, rfl⟩ := jm_rokI hr
                    have h := h _ rfl
                    refine jm_iload d_L_law_621 rfl ?_
                    refine jm_if_eq (tgt := 636) d_L_law_623 (by decide) (fun c74 => absurd c74 (by decide)) (fun _ => ?_)
                    refine jm_iload d_L_law_626 rfl ?_
                    refine jm_aloadn d_L_law_628 rfl ?_
                    refine jm_bipush (v := 11) d_L_law_629 rfl (jm_okI (by decide) (by decide)) ?_
                    refine jm_iaload d_L_law_631 (ixl_134 (by decide) (by decide)) ?_
                    refine jm_iadd d_L_law_632 ?_
                    refine jm_goto (tgt := 637) d_L_law_633 (by decide) ?_
                    refine jm_icmp_eq (tgt := 642) d_L_law_637 (by decide) (fun c75 => ?_) (fun c75 => ?_)
                    · have h := h.1 c75
                      refine jm_iinc (L' := [none, some (jm_R _), none, some (jm_R _), some (jm_R _), some (jm_R _), none, none, none, some (jm_I _), some (jm_I _), some (jm_I _), none, none, none]) d_L_law_642 rfl rfl (Nat.le_of_ble_eq_true rfl) rfl ?_
                      refine jm_goto (tgt := 451) d_L_law_645 (by decide) ?_
                      exact jm_weak2 h (And.intro rfl (And.intro rfl (And.intro rfl (And.intro rfl (And.intro rfl (And.intro rfl trivial))))))
                    · have h := h.2 c75
                      refine jm_iconst (v := 0) d_L_law_640 rfl (jm_okI (by decide) (by decide)) ?_
                      exact jm_ret (o := some (jm_I _)) d_L_law_641 rfl ⟨by show _ ≤ C2; omega, by show _ ≤ S2; omega⟩ (jm_r_Z (by decide)) h rfl
set_option maxRecDepth 20000 in
theorem r_L_law_688 {E : jm_E} {d C2 S2 cs sl : Nat} {μ : jm_M} {Q : Option jm_V → jm_M → Prop} {v9 v10 : Int} (hc : cs + 9 ≤ C2) (hs : sl + 120 ≤ S2) (h :
  ((μ 134 0 ≤ v10 →
    jc E m_X10_undo d [jm_R 0] μ (fun (o : Option jm_V) (m2 : jm_M) => ∀ r3 : Int, o = some (jm_I r3) →
    ((r3 = (jm_wr (v9 - 1)) →
      jm_G E m_L_law (jm_rm (d + 1) C2 S2) jm_N jm_N (cs + 0) (sl + 0) 428 [none, some (jm_R 0), none, some (jm_R 134), some (jm_R 135), some (jm_R 136), none, none, none, some (jm_I (jm_wr (v9 + (-1)))), none, none, none, none, none] [] m2 Q) ∧
     (¬ (r3 = (jm_wr (v9 - 1))) →
      Q (some (jm_I 0)) m2)))) ∧
   (¬ (μ 134 0 ≤ v10) →
    jm_G E m_L_law (jm_rm (d + 1) C2 S2) jm_N jm_N (cs + 0) (sl + 0) 702 [none, some (jm_R 0), none, some (jm_R 134), some (jm_R 135), some (jm_R 136), none, none, none, some (jm_I v9), some (jm_I v10), some (jm_I 0), some (jm_I 0), none, none] [] μ Q))) : jm_G E m_L_law (jm_rm (d + 1) C2 S2) jm_N jm_N cs sl 688 [none, some (jm_R 0), none, some (jm_R 134), some (jm_R 135), some (jm_R 136), none, none, none, some (jm_I v9), some (jm_I v10), none, none, none, none] [] μ Q := by
  refine jm_iload d_L_law_688 rfl ?_
  refine jm_aloadn d_L_law_690 rfl ?_
  refine jm_iconst (v := 0) d_L_law_691 rfl (jm_okI (by decide) (by decide)) ?_
  refine jm_iaload d_L_law_692 (ixl_134 (by decide) (by decide)) ?_
  refine jm_icmp_ge (tgt := 815) d_L_law_693 (by decide) (fun c1 => ?_) (fun c1 => ?_)
  · have h := h.1 c1
    refine jm_aloadn d_L_law_815 rfl ?_
    refine jm_invV (n1 := jm_N) (mc := 0) (ms := 0) (av := []) w_X10_undo l_L_108 d_L_law_816 rfl is_0 ⟨_, _, rfl⟩ ⟨by show _ ≤ C2; omega, by show _ ≤ S2; omega⟩ (Nat.le_of_ble_eq_true rfl) rfl ?_
    refine jm_Cl.mono h (fun o m2 h hr _ => ?_)
    obtain ⟨r3, rfl⟩ := jm_rokI hr
    have h := h _ rfl
    refine jm_iload d_L_law_819 rfl ?_
    refine jm_iconst (v := 1) d_L_law_821 rfl (jm_okI (by decide) (by decide)) ?_
    refine jm_isub d_L_law_822 ?_
    refine jm_icmp_eq (tgt := 828) d_L_law_823 (by decide) (fun c4 => ?_) (fun c4 => ?_)
    · have h := h.1 c4
      refine jm_iinc (L' := [none, some (jm_R _), none, some (jm_R _), some (jm_R _), some (jm_R _), none, none, none, some (jm_I _), some (jm_I _), none, none, none, none]) d_L_law_828 rfl rfl (Nat.le_of_ble_eq_true rfl) rfl ?_
      refine jm_goto (tgt := 428) d_L_law_831 (by decide) ?_
      exact jm_weak2 h (And.intro rfl (And.intro rfl (And.intro rfl (And.intro rfl (And.intro rfl trivial)))))
    · have h := h.2 c4
      refine jm_iconst (v := 0) d_L_law_826 rfl (jm_okI (by decide) (by decide)) ?_
      exact jm_ret (o := some (jm_I _)) d_L_law_827 rfl ⟨by show _ ≤ C2; omega, by show _ ≤ S2; omega⟩ (jm_r_Z (by decide)) h rfl
  · have h := h.2 c1
    refine jm_iconst (v := 0) d_L_law_696 rfl (jm_okI (by decide) (by decide)) ?_
    refine jm_istore (L' := [none, some (jm_R _), none, some (jm_R _), some (jm_R _), some (jm_R _), none, none, none, some (jm_I _), some (jm_I _), some (jm_I _), none, none, none]) d_L_law_697 (Nat.le_of_ble_eq_true rfl) rfl ?_
    refine jm_iconst (v := 0) d_L_law_699 rfl (jm_okI (by decide) (by decide)) ?_
    refine jm_istore (L' := [none, some (jm_R _), none, some (jm_R _), some (jm_R _), some (jm_R _), none, none, none, some (jm_I _), some (jm_I _), some (jm_I _), some (jm_I _), none, none]) d_L_law_700 (Nat.le_of_ble_eq_true rfl) rfl ?_
    exact h
set_option maxRecDepth 20000 in
theorem r_L_law_702 {E : jm_E} {d C2 S2 cs sl : Nat} {μ : jm_M} {Q : Option jm_V → jm_M → Prop} {v9 v10 v11 v12 : Int} (hc : cs + 9 ≤ C2) (hs : sl + 120 ≤ S2) (h :
  ((7 ≤ v12 →
    jc E m_X10_may d [jm_R 0, jm_I v10] μ (fun (o : Option jm_V) (m2 : jm_M) => ∀ r3 : Int, o = some (jm_I r3) →
    ((r3 = v11 →
      jm_G E m_L_law (jm_rm (d + 1) C2 S2) jm_N jm_N (cs + 0) (sl + 0) 688 [none, some (jm_R 0), none, some (jm_R 134), some (jm_R 135), some (jm_R 136), none, none, none, some (jm_I v9), some (jm_I (jm_wr (v10 + 1))), none, none, none, none] [] m2 Q) ∧
     (¬ (r3 = v11) →
      Q (some (jm_I 0)) m2)))) ∧
   (¬ (7 ≤ v12) →
    (0 ≤ v9 ∧ v9 < 16) ∧
    ∀ x6 : Int, x6 = μ 135 v9 →
    ∀ m7 : jm_M, m7 = (jm_up μ 135 v9 (jm_wr ((jm_wr (16 * v10)) + v12))) →
    jc E m_L_live d [jm_R 134, jm_R 135, jm_I (jm_wr (v9 + 1)), jm_R 136] m7 (fun (o : Option jm_V) (m8 : jm_M) => ∀ r9 : Int, o = some (jm_I r9) →
    ((0 ≤ r9 →
      jc E m_X10_wrong d [jm_R 0, jm_I v10, jm_I v12] m8 (fun (o : Option jm_V) (m11 : jm_M) => ∀ r12 : Int, o = some (jm_I r12) →
      ((r12 = m11 136 48 →
        ∀ m15 : jm_M, m15 = (jm_up m11 135 v9 x6) →
        jm_G E m_L_law (jm_rm (d + 1) C2 S2) jm_N jm_N (cs + 0) (sl + 0) 702 [none, some (jm_R 0), none, some (jm_R 134), some (jm_R 135), some (jm_R 136), none, none, none, some (jm_I v9), some (jm_I v10), some (jm_I v11), some (jm_I (jm_wr (v12 + 1))), none, none] [] m15 Q) ∧
       (¬ (r12 = m11 136 48) →
        Q (some (jm_I 0)) m11)))) ∧
     (¬ (0 ≤ r9) →
      jc E m_X10_wrong d [jm_R 0, jm_I v10, jm_I v12] m8 (fun (o : Option jm_V) (m16 : jm_M) => ∀ r17 : Int, o = some (jm_I r17) →
      ((r17 = m16 136 48 →
        ∀ x20 : Int, x20 = jm_or v11 (jm_shl 1 v12) →
        ∀ m21 : jm_M, m21 = (jm_up m16 135 v9 x6) →
        jm_G E m_L_law (jm_rm (d + 1) C2 S2) jm_N jm_N (cs + 0) (sl + 0) 702 [none, some (jm_R 0), none, some (jm_R 134), some (jm_R 135), some (jm_R 136), none, none, none, some (jm_I v9), some (jm_I v10), some (jm_I x20), some (jm_I (jm_wr (v12 + 1))), none, none] [] m21 Q) ∧
       (¬ (r17 = m16 136 48) →
        Q (some (jm_I 0)) m16))))))))) : jm_G E m_L_law (jm_rm (d + 1) C2 S2) jm_N jm_N cs sl 702 [none, some (jm_R 0), none, some (jm_R 134), some (jm_R 135), some (jm_R 136), none, none, none, some (jm_I v9), some (jm_I v10), some (jm_I v11), some (jm_I v12), none, none] [] μ Q := by
  refine jm_iload d_L_law_702 rfl ?_
  refine jm_bipush (v := 7) d_L_law_704 rfl (jm_okI (by decide) (by decide)) ?_
  refine jm_icmp_ge (tgt := 796) d_L_law_706 (by decide) (fun c1 => ?_) (fun c1 => ?_)
  · have h := h.1 c1
    refine jm_aloadn d_L_law_796 rfl ?_
    refine jm_iload d_L_law_797 rfl ?_
    refine jm_invV (n1 := jm_N) (mc := 0) (ms := 0) (av := [jm_I _]) w_X10_may l_L_111 d_L_law_799 rfl is_0 ⟨_, _, rfl⟩ ⟨by show _ ≤ C2; omega, by show _ ≤ S2; omega⟩ (Nat.le_of_ble_eq_true rfl) rfl ?_
    refine jm_Cl.mono h (fun o m2 h hr _ => ?_)
    obtain ⟨r3, rfl⟩ := jm_rokI hr
    have h := h _ rfl
    refine jm_iload d_L_law_802 rfl ?_
    refine jm_icmp_eq (tgt := 809) d_L_law_804 (by decide) (fun c4 => ?_) (fun c4 => ?_)
    · have h := h.1 c4
      refine jm_iinc (L' := [none, some (jm_R _), none, some (jm_R _), some (jm_R _), some (jm_R _), none, none, none, some (jm_I _), some (jm_I _), some (jm_I _), some (jm_I _), none, none]) d_L_law_809 rfl rfl (Nat.le_of_ble_eq_true rfl) rfl ?_
      refine jm_goto (tgt := 688) d_L_law_812 (by decide) ?_
      exact jm_weak2 h (And.intro rfl (And.intro rfl (And.intro rfl (And.intro rfl (And.intro rfl (And.intro rfl trivial))))))
    · have h := h.2 c4
      refine jm_iconst (v := 0) d_L_law_807 rfl (jm_okI (by decide) (by decide)) ?_
      exact jm_ret (o := some (jm_I _)) d_L_law_808 rfl ⟨by show _ ≤ C2; omega, by show _ ≤ S2; omega⟩ (jm_r_Z (by decide)) h rfl
  · have h := h.2 c1
    refine jm_aload d_L_law_709 rfl ?_
    refine jm_iload d_L_law_711 rfl ?_
    obtain ⟨f5, h⟩ := h
    refine jm_iaload d_L_law_713 (ixl_135 f5.1 f5.2) ?_
    have h := h _ rfl
    refine jm_istore (L' := [none, some (jm_R _), none, some (jm_R _), some (jm_R _), some (jm_R _), none, none, none, some (jm_I _), some (jm_I _), some (jm_I _), some (jm_I _), some (jm_I _), none]) d_L_law_714 (Nat.le_of_ble_eq_true rfl) rfl ?_
    refine jm_aload d_L_law_716 rfl ?_
    refine jm_iload d_L_law_718 rfl ?_
    refine jm_bipush (v := 16) d_L_law_720 rfl (jm_okI (by decide) (by decide)) ?_
    refine jm_iload d_L_law_722 rfl ?_
    refine jm_imul d_L_law_724 ?_
    refine jm_iload d_L_law_725 rfl ?_
    refine jm_iadd d_L_law_727 ?_
    refine jm_iastore d_L_law_728 (ixl_135 f5.1 f5.2) ?_
    have h := h _ rfl
    refine jm_aloadn d_L_law_729 rfl ?_
    refine jm_aload d_L_law_730 rfl ?_
    refine jm_iload d_L_law_732 rfl ?_
    refine jm_iconst (v := 1) d_L_law_734 rfl (jm_okI (by decide) (by decide)) ?_
    refine jm_iadd d_L_law_735 ?_
    refine jm_aload d_L_law_736 rfl ?_
    refine jm_invS (n1 := jm_N) (mc := 0) (ms := 0) (av := [jm_R _, jm_R _, jm_I _, jm_R _]) w_L_live l_L_93 d_L_law_738 rfl ⟨by show _ ≤ C2; omega, by show _ ≤ S2; omega⟩ (Nat.le_of_ble_eq_true rfl) rfl ?_
    refine jm_Cl.mono h (fun o m8 h hr _ => ?_)
    obtain ⟨r9, rfl⟩ := jm_rokI hr
    have h := h _ rfl
    refine jm_if_ge (tgt := 748) d_L_law_741 (by decide) (fun c10 => ?_) (fun c10 => ?_)
    · have h := h.1 c10
      refine jm_iconst (v := 0) d_L_law_748 rfl (jm_okI (by decide) (by decide)) ?_
      refine jm_istore (L' := [none, some (jm_R _), none, some (jm_R _), some (jm_R _), some (jm_R _), none, none, none, some (jm_I _), some (jm_I _), some (jm_I _), some (jm_I _), some (jm_I _), some (jm_I _)]) d_L_law_749 (Nat.le_of_ble_eq_true rfl) rfl ?_
      refine jm_aloadn d_L_law_751 rfl ?_
      refine jm_iload d_L_law_752 rfl ?_
      refine jm_iload d_L_law_754 rfl ?_
      refine jm_invV (n1 := jm_N) (mc := 0) (ms := 0) (av := [jm_I _, jm_I _]) w_X10_wrong l_L_97 d_L_law_756 rfl is_0 ⟨_, _, rfl⟩ ⟨by show _ ≤ C2; omega, by show _ ≤ S2; omega⟩ (Nat.le_of_ble_eq_true rfl) rfl ?_
      refine jm_Cl.mono h (fun o m11 h hr _ => ?_)
      obtain ⟨r12, rfl⟩ := jm_rokI hr
      have h := h _ rfl
      refine jm_aload d_L_law_759 rfl ?_
      refine jm_bipush (v := 48) d_L_law_761 rfl (jm_okI (by decide) (by decide)) ?_
      refine jm_iaload d_L_law_763 (ixl_136 (by decide) (by decide)) ?_
      refine jm_icmp_eq (tgt := 769) d_L_law_764 (by decide) (fun c13 => ?_) (fun c13 => ?_)
      · have h := h.1 c13
        refine jm_iload d_L_law_769 rfl ?_
        refine jm_if_eq (tgt := 783) d_L_law_771 (by decide) (fun _ => ?_) (fun c14 => absurd (by decide) c14)
        refine jm_aload d_L_law_783 rfl ?_
        refine jm_iload d_L_law_785 rfl ?_
        refine jm_iload d_L_law_787 rfl ?_
        refine jm_iastore d_L_law_789 (ixl_135 f5.1 f5.2) ?_
        have h := h _ rfl
        refine jm_iinc (L' := [none, some (jm_R _), none, some (jm_R _), some (jm_R _), some (jm_R _), none, none, none, some (jm_I _), some (jm_I _), some (jm_I _), some (jm_I _), some (jm_I _), some (jm_I _)]) d_L_law_790 rfl rfl (Nat.le_of_ble_eq_true rfl) rfl ?_
        refine jm_goto (tgt := 702) d_L_law_793 (by decide) ?_
        exact jm_weak2 h (And.intro rfl (And.intro rfl (And.intro rfl (And.intro rfl (And.intro rfl (And.intro rfl (And.intro rfl (And.intro rfl trivial))))))))
      · have h := h.2 c13
        refine jm_iconst (v := 0) d_L_law_767 rfl (jm_okI (by decide) (by decide)) ?_
        exact jm_ret (o := some (jm_I _)) d_L_law_768 rfl ⟨by show _ ≤ C2; omega, by show _ ≤ S2; omega⟩ (jm_r_Z (by decide)) h rfl
    · have h := h.2 c10
      refine jm_iconst (v := 1) d_L_law_744 rfl (jm_okI (by decide) (by decide)) ?_
      refine jm_goto (tgt := 749) d_L_law_745 (by decide) ?_
      refine jm_istore (L' := [none, some (jm_R _), none, some (jm_R _), some (jm_R _), some (jm_R _), none, none, none, some (jm_I _), some (jm_I _), some (jm_I _), some (jm_I _), some (jm_I _), some (jm_I _)]) d_L_law_749 (Nat.le_of_ble_eq_true rfl) rfl ?_
      refine jm_aloadn d_L_law_751 rfl ?_
      refine jm_iload d_L_law_752 rfl ?_
      refine jm_iload d_L_law_754 rfl ?_
      refine jm_invV (n1 := jm_N) (mc := 0) (ms := 0) (av := [jm_I _, jm_I _]) w_X10_wrong l_L_97 d_L_law_756 rfl is_0 ⟨_, _, rfl⟩ ⟨by show _ ≤ C2; omega, by show _ ≤ S2; omega⟩ (Nat.le_of_ble_eq_true rfl) rfl ?_
      refine jm_Cl.mono h (fun o m16 h hr _ => ?_)
      obtain ⟨r17, rfl⟩ := jm_rokI hr
      have h := h _ rfl
      refine jm_aload d_L_law_759 rfl ?_
      refine jm_bipush (v := 48) d_L_law_761 rfl (jm_okI (by decide) (by decide)) ?_
      refine jm_iaload d_L_law_763 (ixl_136 (by decide) (by decide)) ?_
      refine jm_icmp_eq (tgt := 769) d_L_law_764 (by decide) (fun c18 => ?_) (fun c18 => ?_)
      · have h := h.1 c18
        refine jm_iload d_L_law_769 rfl ?_
        refine jm_if_eq (tgt := 783) d_L_law_771 (by decide) (fun c19 => absurd c19 (by decide)) (fun _ => ?_)
        refine jm_iload d_L_law_774 rfl ?_
        refine jm_iconst (v := 1) d_L_law_776 rfl (jm_okI (by decide) (by decide)) ?_
        refine jm_iload d_L_law_777 rfl ?_
        refine jm_ishl d_L_law_779 ?_
        refine jm_ior d_L_law_780 ?_
        have h := h _ rfl
        refine jm_istore (L' := [none, some (jm_R _), none, some (jm_R _), some (jm_R _), some (jm_R _), none, none, none, some (jm_I _), some (jm_I _), some (jm_I _), some (jm_I _), some (jm_I _), some (jm_I _)]) d_L_law_781 (Nat.le_of_ble_eq_true rfl) rfl ?_
        refine jm_aload d_L_law_783 rfl ?_
        refine jm_iload d_L_law_785 rfl ?_
        refine jm_iload d_L_law_787 rfl ?_
        refine jm_iastore d_L_law_789 (ixl_135 f5.1 f5.2) ?_
        have h := h _ rfl
        refine jm_iinc (L' := [none, some (jm_R _), none, some (jm_R _), some (jm_R _), some (jm_R _), none, none, none, some (jm_I _), some (jm_I _), some (jm_I _), some (jm_I _), some (jm_I _), some (jm_I _)]) d_L_law_790 rfl rfl (Nat.le_of_ble_eq_true rfl) rfl ?_
        refine jm_goto (tgt := 702) d_L_law_793 (by decide) ?_
        exact jm_weak2 h (And.intro rfl (And.intro rfl (And.intro rfl (And.intro rfl (And.intro rfl (And.intro rfl (And.intro rfl (And.intro rfl trivial))))))))
      · have h := h.2 c18
        refine jm_iconst (v := 0) d_L_law_767 rfl (jm_okI (by decide) (by decide)) ?_
        exact jm_ret (o := some (jm_I _)) d_L_law_768 rfl ⟨by show _ ≤ C2; omega, by show _ ≤ S2; omega⟩ (jm_r_Z (by decide)) h rfl
