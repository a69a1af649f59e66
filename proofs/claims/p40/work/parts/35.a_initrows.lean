/-! constructors, rows by program (gen_init.py) -/
theorem jm_invIN {E : jm_E} {Y : jm_Y} {n' n cs sl pc : Nat} {L : List (Option jm_V)} {st : List jm_V} {μ : jm_M} {Q : Option jm_V → jm_M → Prop} {Y' : jm_Y} {idx k n1 mc ms d C2 S2 : Nat} {av : List jm_V} {a : Int} {stf : List jm_V} {host : String} (hw : jm_wI Y' k) (hlink : (Y.1.cls, idx, Y'.1, host) ∈ jm_nl) (hd : decode Y.2.1 pc = .ok (.invokespecial idx, 3)) (hlen : av.length = k) (hx : 0 ≤ a) (hroom : cs + mc ≤ C2 ∧ sl + ms ≤ S2) (hrest : st.length ≤ 4) (hst : stf = av.reverse ++ jm_R a :: st)
    (h : jm_Cl E Y' d n n1 mc ms (jm_R a :: av) μ (fun o m1 => jm_rok Y'.2.2.2 o → jm_G E Y (jm_rm (d + 1) C2 S2) n' n1 (cs + mc) (sl + ms) (pc + 3) L (o.toList ++ st) m1 Q)) : jm_G E Y (jm_rm (d + 1) C2 S2) n' n cs sl pc L stf μ Q := by
  subst hst
  obtain ⟨q, rfl⟩ := jm_nat hx
  obtain ⟨y1, b1, ml1, rt1⟩ := Y'
  have hrt : rt1 = none := hw.2.1
  subst hrt
  intro p e s m args below meth c Z H locs ls C hZ hR hS hl hL hst
  have hts := C.2.2.2.2.1
  have hX1 : jm_X1 E s s.heap := C.2.2.2.2.2.2.2.2.1.2.1
  have hM := h (jm_okav hst)
  rw [jm_map_app, jm_cvR]
  have hen := jm_enter (av := jm_R (q : Int) :: av) C hR hS
  rw [List.map_cons, jm_cvR] at hen
  have hlast : ∀ (o : Option jm_V) (m1 : jm_M) (H1 : Heap) (locs1 : List Loc), (jm_rok (none : Option FieldType) o → jm_G E Y (jm_rm (d + 1) C2 S2) n' n1 (cs + mc) (sl + ms) (pc + 3) L (o.toList ++ st) m1 Q) → (∀ v, o = some v → jm_ok v) → jm_rok (none : Option FieldType) o → jm_Rel E n1 m1 H1 → va_S (jm_A E) s.heap H1 locs1 → W p (jm_l E) e (jm_rm (d + 1) C2 S2) s m args below meth c H1 locs1 (cs + mc) (sl + ms) Z (F0 m (pc + 3) ls ((o.map (jm_cv E)).toList ++ st.map (jm_cv E))) := by
    intro o m1 H1 locs1 hQ ho hrok hR1 hS1
    have h2 := hQ hrok p e s m args below meth c Z H1 locs1 ls C hZ hR1 hS1 hl hL (jm_okst (av := av.reverse ++ [jm_R (q : Int)]) (by rw [List.append_assoc]; exact hst) ho)
    rw [List.map_append] at h2
    have e1 : (o.map (jm_cv E)).toList = o.toList.map (jm_cv E) := by cases o <;> rfl
    rw [e1]
    exact h2
  have hcb : va_CN (jm_rm (d + 1) C2 S2) s args Y.1.cls idx y1 host b1 ml1 (none : Option FieldType) (Cond.code y1 b1 ml1 (none : Option FieldType) :: jm_tbl) (jm_rm d mc ms) mc ms k :=
    va_cnB k hts (jm_goodIn hw.1.1) rfl rfl rfl (va_Nw.use rfl (hX1.2.1.2.2.2.2 _ hlink)) (hts _ hw.1.2.1) hw.1.2.2.1 ⟨Nat.le_refl _, by have h25 : ml1 ≤ 25 := hw.1.2.2.2; show 8 + (ml1 + 11) + 44 * d ≤ 44 * (d + 1); omega⟩
  exact jm_after (va_runIN (As := av.map (jm_cv E)) (rest := st.map (jm_cv E)) ⟨C.1, C.2.1, C.2.2.1, C.2.2.2.1, hts⟩ hM ⟨hcb, hw.2.2.1, hts _ hw.2.2.2⟩ ⟨jm_blind, hen⟩ rfl (by rw [List.length_map]; exact hlen) hl.1 rfl (lv_room (jm_catsum st hrest)) hd hroom) hS hlast
theorem d_X7_init_0 : decode m_X7_init.2.1 0 = .ok (.aload_n 0, 1) := by decide +kernel
theorem d_X7_init_1 : decode m_X7_init.2.1 1 = .ok (.invokespecial 3, 3) := by decide +kernel
theorem d_X7_init_4 : decode m_X7_init.2.1 4 = .ok (.aload_n 0, 1) := by decide +kernel
theorem d_X7_init_5 : decode m_X7_init.2.1 5 = .ok (.sipush 940, 3) := by decide +kernel
theorem d_X7_init_8 : decode m_X7_init.2.1 8 = .ok (.newarray .byte, 2) := by decide +kernel
theorem d_X7_init_10 : decode m_X7_init.2.1 10 = .ok (.putfield 11, 3) := by decide +kernel
theorem d_X7_init_13 : decode m_X7_init.2.1 13 = .ok (.aload_n 0, 1) := by decide +kernel
theorem d_X7_init_14 : decode m_X7_init.2.1 14 = .ok (.getstatic 15, 3) := by decide +kernel
theorem d_X7_init_17 : decode m_X7_init.2.1 17 = .ok (.putfield 21, 3) := by decide +kernel
theorem d_X7_init_20 : decode m_X7_init.2.1 20 = .ok (.return_, 1) := by decide +kernel
theorem d_X5_init_0 : decode m_X5_init.2.1 0 = .ok (.aload_n 0, 1) := by decide +kernel
theorem d_X5_init_1 : decode m_X5_init.2.1 1 = .ok (.invokespecial 3, 3) := by decide +kernel
theorem d_X5_init_4 : decode m_X5_init.2.1 4 = .ok (.aload_n 0, 1) := by decide +kernel
theorem d_X5_init_5 : decode m_X5_init.2.1 5 = .ok (.bipush 8, 2) := by decide +kernel
theorem d_X5_init_7 : decode m_X5_init.2.1 7 = .ok (.newarray .long, 2) := by decide +kernel
theorem d_X5_init_9 : decode m_X5_init.2.1 9 = .ok (.putfield 11, 3) := by decide +kernel
theorem d_X5_init_12 : decode m_X5_init.2.1 12 = .ok (.aload_n 0, 1) := by decide +kernel
theorem d_X5_init_13 : decode m_X5_init.2.1 13 = .ok (.bipush 8, 2) := by decide +kernel
theorem d_X5_init_15 : decode m_X5_init.2.1 15 = .ok (.newarray .int, 2) := by decide +kernel
theorem d_X5_init_17 : decode m_X5_init.2.1 17 = .ok (.putfield 15, 3) := by decide +kernel
theorem d_X5_init_20 : decode m_X5_init.2.1 20 = .ok (.aload_n 0, 1) := by decide +kernel
theorem d_X5_init_21 : decode m_X5_init.2.1 21 = .ok (.bipush 10, 2) := by decide +kernel
theorem d_X5_init_23 : decode m_X5_init.2.1 23 = .ok (.newarray .long, 2) := by decide +kernel
theorem d_X5_init_25 : decode m_X5_init.2.1 25 = .ok (.putfield 19, 3) := by decide +kernel
theorem d_X5_init_28 : decode m_X5_init.2.1 28 = .ok (.aload_n 0, 1) := by decide +kernel
theorem d_X5_init_29 : decode m_X5_init.2.1 29 = .ok (.bipush 10, 2) := by decide +kernel
theorem d_X5_init_31 : decode m_X5_init.2.1 31 = .ok (.newarray .int, 2) := by decide +kernel
theorem d_X5_init_33 : decode m_X5_init.2.1 33 = .ok (.putfield 22, 3) := by decide +kernel
theorem d_X5_init_36 : decode m_X5_init.2.1 36 = .ok (.aload_n 0, 1) := by decide +kernel
theorem d_X5_init_37 : decode m_X5_init.2.1 37 = .ok (.bipush 10, 2) := by decide +kernel
theorem d_X5_init_39 : decode m_X5_init.2.1 39 = .ok (.newarray .int, 2) := by decide +kernel
theorem d_X5_init_41 : decode m_X5_init.2.1 41 = .ok (.putfield 25, 3) := by decide +kernel
theorem d_X5_init_44 : decode m_X5_init.2.1 44 = .ok (.aload_n 0, 1) := by decide +kernel
theorem d_X5_init_45 : decode m_X5_init.2.1 45 = .ok (.bipush 10, 2) := by decide +kernel
theorem d_X5_init_47 : decode m_X5_init.2.1 47 = .ok (.newarray .int, 2) := by decide +kernel
theorem d_X5_init_49 : decode m_X5_init.2.1 49 = .ok (.putfield 28, 3) := by decide +kernel
theorem d_X5_init_52 : decode m_X5_init.2.1 52 = .ok (.aload_n 0, 1) := by decide +kernel
theorem d_X5_init_53 : decode m_X5_init.2.1 53 = .ok (.bipush 10, 2) := by decide +kernel
theorem d_X5_init_55 : decode m_X5_init.2.1 55 = .ok (.newarray .int, 2) := by decide +kernel
theorem d_X5_init_57 : decode m_X5_init.2.1 57 = .ok (.putfield 31, 3) := by decide +kernel
theorem d_X5_init_60 : decode m_X5_init.2.1 60 = .ok (.aload_n 0, 1) := by decide +kernel
theorem d_X5_init_61 : decode m_X5_init.2.1 61 = .ok (.bipush 6, 2) := by decide +kernel
theorem d_X5_init_63 : decode m_X5_init.2.1 63 = .ok (.newarray .int, 2) := by decide +kernel
theorem d_X5_init_65 : decode m_X5_init.2.1 65 = .ok (.putfield 34, 3) := by decide +kernel
theorem d_X5_init_68 : decode m_X5_init.2.1 68 = .ok (.aload_n 0, 1) := by decide +kernel
theorem d_X5_init_69 : decode m_X5_init.2.1 69 = .ok (.iconst 1, 1) := by decide +kernel
theorem d_X5_init_70 : decode m_X5_init.2.1 70 = .ok (.putfield 37, 3) := by decide +kernel
theorem d_X5_init_73 : decode m_X5_init.2.1 73 = .ok (.aload_n 0, 1) := by decide +kernel
theorem d_X5_init_74 : decode m_X5_init.2.1 74 = .ok (.getfield 34, 3) := by decide +kernel
theorem d_X5_init_77 : decode m_X5_init.2.1 77 = .ok (.iconst 0, 1) := by decide +kernel
theorem d_X5_init_78 : decode m_X5_init.2.1 78 = .ok (.iconst 2, 1) := by decide +kernel
theorem d_X5_init_79 : decode m_X5_init.2.1 79 = .ok (.iastore, 1) := by decide +kernel
theorem d_X5_init_80 : decode m_X5_init.2.1 80 = .ok (.return_, 1) := by decide +kernel
theorem d_X6_init_0 : decode m_X6_init.2.1 0 = .ok (.aload_n 0, 1) := by decide +kernel
theorem d_X6_init_1 : decode m_X6_init.2.1 1 = .ok (.invokespecial 3, 3) := by decide +kernel
theorem d_X6_init_4 : decode m_X6_init.2.1 4 = .ok (.iload_n 1, 1) := by decide +kernel
theorem d_X6_init_5 : decode m_X6_init.2.1 5 = .ok (.iconst 0, 1) := by decide +kernel
theorem d_X6_init_6 : decode m_X6_init.2.1 6 = .ok (.invokestatic 9, 3) := by decide +kernel
theorem d_X6_init_9 : decode m_X6_init.2.1 9 = .ok (.istore_n 2, 1) := by decide +kernel
theorem d_X6_init_10 : decode m_X6_init.2.1 10 = .ok (.aload_n 0, 1) := by decide +kernel
theorem d_X6_init_11 : decode m_X6_init.2.1 11 = .ok (.new 15, 3) := by decide +kernel
theorem d_X6_init_14 : decode m_X6_init.2.1 14 = .ok (.dup, 1) := by decide +kernel
theorem d_X6_init_15 : decode m_X6_init.2.1 15 = .ok (.invokespecial 17, 3) := by decide +kernel
theorem d_X6_init_18 : decode m_X6_init.2.1 18 = .ok (.putfield 18, 3) := by decide +kernel
theorem d_X6_init_21 : decode m_X6_init.2.1 21 = .ok (.aload_n 0, 1) := by decide +kernel
theorem d_X6_init_22 : decode m_X6_init.2.1 22 = .ok (.iload_n 2, 1) := by decide +kernel
theorem d_X6_init_23 : decode m_X6_init.2.1 23 = .ok (.newarray .int, 2) := by decide +kernel
theorem d_X6_init_25 : decode m_X6_init.2.1 25 = .ok (.putfield 24, 3) := by decide +kernel
theorem d_X6_init_28 : decode m_X6_init.2.1 28 = .ok (.aload_n 0, 1) := by decide +kernel
theorem d_X6_init_29 : decode m_X6_init.2.1 29 = .ok (.iload_n 2, 1) := by decide +kernel
theorem d_X6_init_30 : decode m_X6_init.2.1 30 = .ok (.newarray .int, 2) := by decide +kernel
theorem d_X6_init_32 : decode m_X6_init.2.1 32 = .ok (.putfield 28, 3) := by decide +kernel
theorem d_X6_init_35 : decode m_X6_init.2.1 35 = .ok (.aload_n 0, 1) := by decide +kernel
theorem d_X6_init_36 : decode m_X6_init.2.1 36 = .ok (.iload_n 2, 1) := by decide +kernel
theorem d_X6_init_37 : decode m_X6_init.2.1 37 = .ok (.newarray .int, 2) := by decide +kernel
theorem d_X6_init_39 : decode m_X6_init.2.1 39 = .ok (.putfield 31, 3) := by decide +kernel
theorem d_X6_init_42 : decode m_X6_init.2.1 42 = .ok (.aload_n 0, 1) := by decide +kernel
theorem d_X6_init_43 : decode m_X6_init.2.1 43 = .ok (.iload_n 2, 1) := by decide +kernel
theorem d_X6_init_44 : decode m_X6_init.2.1 44 = .ok (.newarray .int, 2) := by decide +kernel
theorem d_X6_init_46 : decode m_X6_init.2.1 46 = .ok (.putfield 34, 3) := by decide +kernel
theorem d_X6_init_49 : decode m_X6_init.2.1 49 = .ok (.aload_n 0, 1) := by decide +kernel
theorem d_X6_init_50 : decode m_X6_init.2.1 50 = .ok (.iload_n 2, 1) := by decide +kernel
theorem d_X6_init_51 : decode m_X6_init.2.1 51 = .ok (.newarray .int, 2) := by decide +kernel
theorem d_X6_init_53 : decode m_X6_init.2.1 53 = .ok (.putfield 37, 3) := by decide +kernel
theorem d_X6_init_56 : decode m_X6_init.2.1 56 = .ok (.aload_n 0, 1) := by decide +kernel
theorem d_X6_init_57 : decode m_X6_init.2.1 57 = .ok (.iload_n 2, 1) := by decide +kernel
theorem d_X6_init_58 : decode m_X6_init.2.1 58 = .ok (.newarray .int, 2) := by decide +kernel
theorem d_X6_init_60 : decode m_X6_init.2.1 60 = .ok (.putfield 40, 3) := by decide +kernel
theorem d_X6_init_63 : decode m_X6_init.2.1 63 = .ok (.return_, 1) := by decide +kernel
theorem d_X1_init_0 : decode m_X1_init.2.1 0 = .ok (.aload_n 0, 1) := by decide +kernel
theorem d_X1_init_1 : decode m_X1_init.2.1 1 = .ok (.invokespecial 3, 3) := by decide +kernel
theorem d_X1_init_4 : decode m_X1_init.2.1 4 = .ok (.aload_n 0, 1) := by decide +kernel
theorem d_X1_init_5 : decode m_X1_init.2.1 5 = .ok (.bipush 24, 2) := by decide +kernel
theorem d_X1_init_7 : decode m_X1_init.2.1 7 = .ok (.newarray .int, 2) := by decide +kernel
theorem d_X1_init_9 : decode m_X1_init.2.1 9 = .ok (.putfield 11, 3) := by decide +kernel
theorem d_X1_init_12 : decode m_X1_init.2.1 12 = .ok (.aload_n 0, 1) := by decide +kernel
theorem d_X1_init_13 : decode m_X1_init.2.1 13 = .ok (.bipush 24, 2) := by decide +kernel
theorem d_X1_init_15 : decode m_X1_init.2.1 15 = .ok (.newarray .int, 2) := by decide +kernel
theorem d_X1_init_17 : decode m_X1_init.2.1 17 = .ok (.putfield 15, 3) := by decide +kernel
theorem d_X1_init_20 : decode m_X1_init.2.1 20 = .ok (.return_, 1) := by decide +kernel
theorem d_X4_init_0 : decode m_X4_init.2.1 0 = .ok (.aload_n 0, 1) := by decide +kernel
theorem d_X4_init_1 : decode m_X4_init.2.1 1 = .ok (.invokespecial 3, 3) := by decide +kernel
theorem d_X4_init_4 : decode m_X4_init.2.1 4 = .ok (.aload_n 0, 1) := by decide +kernel
theorem d_X4_init_5 : decode m_X4_init.2.1 5 = .ok (.bipush 64, 2) := by decide +kernel
theorem d_X4_init_7 : decode m_X4_init.2.1 7 = .ok (.newarray .int, 2) := by decide +kernel
theorem d_X4_init_9 : decode m_X4_init.2.1 9 = .ok (.putfield 11, 3) := by decide +kernel
theorem d_X4_init_12 : decode m_X4_init.2.1 12 = .ok (.aload_n 0, 1) := by decide +kernel
theorem d_X4_init_13 : decode m_X4_init.2.1 13 = .ok (.bipush 64, 2) := by decide +kernel
theorem d_X4_init_15 : decode m_X4_init.2.1 15 = .ok (.newarray .int, 2) := by decide +kernel
theorem d_X4_init_17 : decode m_X4_init.2.1 17 = .ok (.putfield 15, 3) := by decide +kernel
theorem d_X4_init_20 : decode m_X4_init.2.1 20 = .ok (.aload_n 0, 1) := by decide +kernel
theorem d_X4_init_21 : decode m_X4_init.2.1 21 = .ok (.bipush 64, 2) := by decide +kernel
theorem d_X4_init_23 : decode m_X4_init.2.1 23 = .ok (.newarray .int, 2) := by decide +kernel
theorem d_X4_init_25 : decode m_X4_init.2.1 25 = .ok (.putfield 18, 3) := by decide +kernel
theorem d_X4_init_28 : decode m_X4_init.2.1 28 = .ok (.return_, 1) := by decide +kernel
theorem d_X0_init_0 : decode m_X0_init.2.1 0 = .ok (.aload_n 0, 1) := by decide +kernel
theorem d_X0_init_1 : decode m_X0_init.2.1 1 = .ok (.invokespecial 1, 3) := by decide +kernel
theorem d_X0_init_4 : decode m_X0_init.2.1 4 = .ok (.aload_n 0, 1) := by decide +kernel
theorem d_X0_init_5 : decode m_X0_init.2.1 5 = .ok (.new 7, 3) := by decide +kernel
theorem d_X0_init_8 : decode m_X0_init.2.1 8 = .ok (.dup, 1) := by decide +kernel
theorem d_X0_init_9 : decode m_X0_init.2.1 9 = .ok (.invokespecial 9, 3) := by decide +kernel
theorem d_X0_init_12 : decode m_X0_init.2.1 12 = .ok (.putfield 10, 3) := by decide +kernel
theorem d_X0_init_15 : decode m_X0_init.2.1 15 = .ok (.aload_n 0, 1) := by decide +kernel
theorem d_X0_init_16 : decode m_X0_init.2.1 16 = .ok (.sipush 400, 3) := by decide +kernel
theorem d_X0_init_19 : decode m_X0_init.2.1 19 = .ok (.newarray .int, 2) := by decide +kernel
theorem d_X0_init_21 : decode m_X0_init.2.1 21 = .ok (.putfield 18, 3) := by decide +kernel
theorem d_X0_init_24 : decode m_X0_init.2.1 24 = .ok (.aload_n 0, 1) := by decide +kernel
theorem d_X0_init_25 : decode m_X0_init.2.1 25 = .ok (.sipush 400, 3) := by decide +kernel
theorem d_X0_init_28 : decode m_X0_init.2.1 28 = .ok (.newarray .int, 2) := by decide +kernel
theorem d_X0_init_30 : decode m_X0_init.2.1 30 = .ok (.putfield 22, 3) := by decide +kernel
theorem d_X0_init_33 : decode m_X0_init.2.1 33 = .ok (.aload_n 0, 1) := by decide +kernel
theorem d_X0_init_34 : decode m_X0_init.2.1 34 = .ok (.new 25, 3) := by decide +kernel
theorem d_X0_init_37 : decode m_X0_init.2.1 37 = .ok (.dup, 1) := by decide +kernel
theorem d_X0_init_38 : decode m_X0_init.2.1 38 = .ok (.invokespecial 27, 3) := by decide +kernel
theorem d_X0_init_41 : decode m_X0_init.2.1 41 = .ok (.putfield 28, 3) := by decide +kernel
theorem d_X0_init_44 : decode m_X0_init.2.1 44 = .ok (.aload_n 0, 1) := by decide +kernel
theorem d_X0_init_45 : decode m_X0_init.2.1 45 = .ok (.new 32, 3) := by decide +kernel
theorem d_X0_init_48 : decode m_X0_init.2.1 48 = .ok (.dup, 1) := by decide +kernel
theorem d_X0_init_49 : decode m_X0_init.2.1 49 = .ok (.invokespecial 34, 3) := by decide +kernel
theorem d_X0_init_52 : decode m_X0_init.2.1 52 = .ok (.putfield 35, 3) := by decide +kernel
theorem d_X0_init_55 : decode m_X0_init.2.1 55 = .ok (.return_, 1) := by decide +kernel
theorem d_X3_init_0 : decode m_X3_init.2.1 0 = .ok (.aload_n 0, 1) := by decide +kernel
theorem d_X3_init_1 : decode m_X3_init.2.1 1 = .ok (.invokespecial 3, 3) := by decide +kernel
theorem d_X3_init_4 : decode m_X3_init.2.1 4 = .ok (.aload_n 0, 1) := by decide +kernel
theorem d_X3_init_5 : decode m_X3_init.2.1 5 = .ok (.bipush 8, 2) := by decide +kernel
theorem d_X3_init_7 : decode m_X3_init.2.1 7 = .ok (.newarray .int, 2) := by decide +kernel
theorem d_X3_init_9 : decode m_X3_init.2.1 9 = .ok (.putfield 9, 3) := by decide +kernel
theorem d_X3_init_12 : decode m_X3_init.2.1 12 = .ok (.aload_n 0, 1) := by decide +kernel
theorem d_X3_init_13 : decode m_X3_init.2.1 13 = .ok (.bipush 8, 2) := by decide +kernel
theorem d_X3_init_15 : decode m_X3_init.2.1 15 = .ok (.newarray .int, 2) := by decide +kernel
theorem d_X3_init_17 : decode m_X3_init.2.1 17 = .ok (.putfield 15, 3) := by decide +kernel
theorem d_X3_init_20 : decode m_X3_init.2.1 20 = .ok (.return_, 1) := by decide +kernel
theorem d_X9_init_0 : decode m_X9_init.2.1 0 = .ok (.aload_n 0, 1) := by decide +kernel
theorem d_X9_init_1 : decode m_X9_init.2.1 1 = .ok (.invokespecial 3, 3) := by decide +kernel
theorem d_X9_init_4 : decode m_X9_init.2.1 4 = .ok (.aload_n 0, 1) := by decide +kernel
theorem d_X9_init_5 : decode m_X9_init.2.1 5 = .ok (.bipush 24, 2) := by decide +kernel
theorem d_X9_init_7 : decode m_X9_init.2.1 7 = .ok (.newarray .int, 2) := by decide +kernel
theorem d_X9_init_9 : decode m_X9_init.2.1 9 = .ok (.putfield 11, 3) := by decide +kernel
theorem d_X9_init_12 : decode m_X9_init.2.1 12 = .ok (.aload_n 0, 1) := by decide +kernel
theorem d_X9_init_13 : decode m_X9_init.2.1 13 = .ok (.bipush 24, 2) := by decide +kernel
theorem d_X9_init_15 : decode m_X9_init.2.1 15 = .ok (.newarray .int, 2) := by decide +kernel
theorem d_X9_init_17 : decode m_X9_init.2.1 17 = .ok (.putfield 17, 3) := by decide +kernel
theorem d_X9_init_20 : decode m_X9_init.2.1 20 = .ok (.aload_n 0, 1) := by decide +kernel
theorem d_X9_init_21 : decode m_X9_init.2.1 21 = .ok (.bipush 24, 2) := by decide +kernel
theorem d_X9_init_23 : decode m_X9_init.2.1 23 = .ok (.newarray .int, 2) := by decide +kernel
theorem d_X9_init_25 : decode m_X9_init.2.1 25 = .ok (.putfield 20, 3) := by decide +kernel
theorem d_X9_init_28 : decode m_X9_init.2.1 28 = .ok (.aload_n 0, 1) := by decide +kernel
theorem d_X9_init_29 : decode m_X9_init.2.1 29 = .ok (.bipush 24, 2) := by decide +kernel
theorem d_X9_init_31 : decode m_X9_init.2.1 31 = .ok (.newarray .int, 2) := by decide +kernel
theorem d_X9_init_33 : decode m_X9_init.2.1 33 = .ok (.putfield 23, 3) := by decide +kernel
theorem d_X9_init_36 : decode m_X9_init.2.1 36 = .ok (.aload_n 0, 1) := by decide +kernel
theorem d_X9_init_37 : decode m_X9_init.2.1 37 = .ok (.bipush 24, 2) := by decide +kernel
theorem d_X9_init_39 : decode m_X9_init.2.1 39 = .ok (.newarray .int, 2) := by decide +kernel
theorem d_X9_init_41 : decode m_X9_init.2.1 41 = .ok (.putfield 26, 3) := by decide +kernel
theorem d_X9_init_44 : decode m_X9_init.2.1 44 = .ok (.return_, 1) := by decide +kernel
theorem d_X2_init_0 : decode m_X2_init.2.1 0 = .ok (.aload_n 0, 1) := by decide +kernel
theorem d_X2_init_1 : decode m_X2_init.2.1 1 = .ok (.invokespecial 3, 3) := by decide +kernel
theorem d_X2_init_4 : decode m_X2_init.2.1 4 = .ok (.aload_n 0, 1) := by decide +kernel
theorem d_X2_init_5 : decode m_X2_init.2.1 5 = .ok (.iconst (-1), 1) := by decide +kernel
theorem d_X2_init_6 : decode m_X2_init.2.1 6 = .ok (.putfield 9, 3) := by decide +kernel
theorem d_X2_init_9 : decode m_X2_init.2.1 9 = .ok (.aload_n 0, 1) := by decide +kernel
theorem d_X2_init_10 : decode m_X2_init.2.1 10 = .ok (.bipush 7, 2) := by decide +kernel
theorem d_X2_init_12 : decode m_X2_init.2.1 12 = .ok (.newarray .int, 2) := by decide +kernel
theorem d_X2_init_14 : decode m_X2_init.2.1 14 = .ok (.putfield 15, 3) := by decide +kernel
theorem d_X2_init_17 : decode m_X2_init.2.1 17 = .ok (.aload_n 0, 1) := by decide +kernel
theorem d_X2_init_18 : decode m_X2_init.2.1 18 = .ok (.bipush 7, 2) := by decide +kernel
theorem d_X2_init_20 : decode m_X2_init.2.1 20 = .ok (.newarray .int, 2) := by decide +kernel
theorem d_X2_init_22 : decode m_X2_init.2.1 22 = .ok (.putfield 19, 3) := by decide +kernel
theorem d_X2_init_25 : decode m_X2_init.2.1 25 = .ok (.return_, 1) := by decide +kernel
theorem d_X10_init_0 : decode m_X10_init.2.1 0 = .ok (.aload_n 0, 1) := by decide +kernel
theorem d_X10_init_1 : decode m_X10_init.2.1 1 = .ok (.invokespecial 1, 3) := by decide +kernel
theorem d_X10_init_4 : decode m_X10_init.2.1 4 = .ok (.aload_n 0, 1) := by decide +kernel
theorem d_X10_init_5 : decode m_X10_init.2.1 5 = .ok (.new 7, 3) := by decide +kernel
theorem d_X10_init_8 : decode m_X10_init.2.1 8 = .ok (.dup, 1) := by decide +kernel
theorem d_X10_init_9 : decode m_X10_init.2.1 9 = .ok (.invokespecial 9, 3) := by decide +kernel
theorem d_X10_init_12 : decode m_X10_init.2.1 12 = .ok (.putfield 10, 3) := by decide +kernel
theorem d_X10_init_15 : decode m_X10_init.2.1 15 = .ok (.aload_n 0, 1) := by decide +kernel
theorem d_X10_init_16 : decode m_X10_init.2.1 16 = .ok (.new 16, 3) := by decide +kernel
theorem d_X10_init_19 : decode m_X10_init.2.1 19 = .ok (.dup, 1) := by decide +kernel
theorem d_X10_init_20 : decode m_X10_init.2.1 20 = .ok (.invokespecial 18, 3) := by decide +kernel
theorem d_X10_init_23 : decode m_X10_init.2.1 23 = .ok (.putfield 19, 3) := by decide +kernel
theorem d_X10_init_26 : decode m_X10_init.2.1 26 = .ok (.aload_n 0, 1) := by decide +kernel
theorem d_X10_init_27 : decode m_X10_init.2.1 27 = .ok (.new 16, 3) := by decide +kernel
theorem d_X10_init_30 : decode m_X10_init.2.1 30 = .ok (.dup, 1) := by decide +kernel
theorem d_X10_init_31 : decode m_X10_init.2.1 31 = .ok (.invokespecial 18, 3) := by decide +kernel
theorem d_X10_init_34 : decode m_X10_init.2.1 34 = .ok (.putfield 23, 3) := by decide +kernel
theorem d_X10_init_37 : decode m_X10_init.2.1 37 = .ok (.aload_n 0, 1) := by decide +kernel
theorem d_X10_init_38 : decode m_X10_init.2.1 38 = .ok (.new 26, 3) := by decide +kernel
theorem d_X10_init_41 : decode m_X10_init.2.1 41 = .ok (.dup, 1) := by decide +kernel
theorem d_X10_init_42 : decode m_X10_init.2.1 42 = .ok (.sipush 400, 3) := by decide +kernel
theorem d_X10_init_45 : decode m_X10_init.2.1 45 = .ok (.invokespecial 28, 3) := by decide +kernel
theorem d_X10_init_48 : decode m_X10_init.2.1 48 = .ok (.putfield 31, 3) := by decide +kernel
theorem d_X10_init_51 : decode m_X10_init.2.1 51 = .ok (.aload_n 0, 1) := by decide +kernel
theorem d_X10_init_52 : decode m_X10_init.2.1 52 = .ok (.new 26, 3) := by decide +kernel
theorem d_X10_init_55 : decode m_X10_init.2.1 55 = .ok (.dup, 1) := by decide +kernel
theorem d_X10_init_56 : decode m_X10_init.2.1 56 = .ok (.sipush 400, 3) := by decide +kernel
theorem d_X10_init_59 : decode m_X10_init.2.1 59 = .ok (.invokespecial 28, 3) := by decide +kernel
theorem d_X10_init_62 : decode m_X10_init.2.1 62 = .ok (.putfield 35, 3) := by decide +kernel
theorem d_X10_init_65 : decode m_X10_init.2.1 65 = .ok (.aload_n 0, 1) := by decide +kernel
theorem d_X10_init_66 : decode m_X10_init.2.1 66 = .ok (.new 26, 3) := by decide +kernel
theorem d_X10_init_69 : decode m_X10_init.2.1 69 = .ok (.dup, 1) := by decide +kernel
theorem d_X10_init_70 : decode m_X10_init.2.1 70 = .ok (.bipush 8, 2) := by decide +kernel
theorem d_X10_init_72 : decode m_X10_init.2.1 72 = .ok (.invokespecial 28, 3) := by decide +kernel
theorem d_X10_init_75 : decode m_X10_init.2.1 75 = .ok (.putfield 38, 3) := by decide +kernel
theorem d_X10_init_78 : decode m_X10_init.2.1 78 = .ok (.aload_n 0, 1) := by decide +kernel
theorem d_X10_init_79 : decode m_X10_init.2.1 79 = .ok (.new 41, 3) := by decide +kernel
theorem d_X10_init_82 : decode m_X10_init.2.1 82 = .ok (.dup, 1) := by decide +kernel
theorem d_X10_init_83 : decode m_X10_init.2.1 83 = .ok (.invokespecial 43, 3) := by decide +kernel
theorem d_X10_init_86 : decode m_X10_init.2.1 86 = .ok (.putfield 44, 3) := by decide +kernel
theorem d_X10_init_89 : decode m_X10_init.2.1 89 = .ok (.aload_n 0, 1) := by decide +kernel
theorem d_X10_init_90 : decode m_X10_init.2.1 90 = .ok (.new 41, 3) := by decide +kernel
theorem d_X10_init_93 : decode m_X10_init.2.1 93 = .ok (.dup, 1) := by decide +kernel
theorem d_X10_init_94 : decode m_X10_init.2.1 94 = .ok (.invokespecial 43, 3) := by decide +kernel
theorem d_X10_init_97 : decode m_X10_init.2.1 97 = .ok (.putfield 48, 3) := by decide +kernel
theorem d_X10_init_100 : decode m_X10_init.2.1 100 = .ok (.aload_n 0, 1) := by decide +kernel
theorem d_X10_init_101 : decode m_X10_init.2.1 101 = .ok (.new 51, 3) := by decide +kernel
theorem d_X10_init_104 : decode m_X10_init.2.1 104 = .ok (.dup, 1) := by decide +kernel
theorem d_X10_init_105 : decode m_X10_init.2.1 105 = .ok (.invokespecial 53, 3) := by decide +kernel
theorem d_X10_init_108 : decode m_X10_init.2.1 108 = .ok (.putfield 54, 3) := by decide +kernel
theorem d_X10_init_111 : decode m_X10_init.2.1 111 = .ok (.aload_n 0, 1) := by decide +kernel
theorem d_X10_init_112 : decode m_X10_init.2.1 112 = .ok (.new 51, 3) := by decide +kernel
theorem d_X10_init_115 : decode m_X10_init.2.1 115 = .ok (.dup, 1) := by decide +kernel
theorem d_X10_init_116 : decode m_X10_init.2.1 116 = .ok (.invokespecial 53, 3) := by decide +kernel
theorem d_X10_init_119 : decode m_X10_init.2.1 119 = .ok (.putfield 58, 3) := by decide +kernel
theorem d_X10_init_122 : decode m_X10_init.2.1 122 = .ok (.aload_n 0, 1) := by decide +kernel
theorem d_X10_init_123 : decode m_X10_init.2.1 123 = .ok (.new 61, 3) := by decide +kernel
theorem d_X10_init_126 : decode m_X10_init.2.1 126 = .ok (.dup, 1) := by decide +kernel
theorem d_X10_init_127 : decode m_X10_init.2.1 127 = .ok (.invokespecial 63, 3) := by decide +kernel
theorem d_X10_init_130 : decode m_X10_init.2.1 130 = .ok (.putfield 64, 3) := by decide +kernel
theorem d_X10_init_133 : decode m_X10_init.2.1 133 = .ok (.aload_n 0, 1) := by decide +kernel
theorem d_X10_init_134 : decode m_X10_init.2.1 134 = .ok (.new 61, 3) := by decide +kernel
theorem d_X10_init_137 : decode m_X10_init.2.1 137 = .ok (.dup, 1) := by decide +kernel
theorem d_X10_init_138 : decode m_X10_init.2.1 138 = .ok (.invokespecial 63, 3) := by decide +kernel
theorem d_X10_init_141 : decode m_X10_init.2.1 141 = .ok (.putfield 68, 3) := by decide +kernel
theorem d_X10_init_144 : decode m_X10_init.2.1 144 = .ok (.aload_n 0, 1) := by decide +kernel
theorem d_X10_init_145 : decode m_X10_init.2.1 145 = .ok (.new 71, 3) := by decide +kernel
theorem d_X10_init_148 : decode m_X10_init.2.1 148 = .ok (.dup, 1) := by decide +kernel
theorem d_X10_init_149 : decode m_X10_init.2.1 149 = .ok (.invokespecial 73, 3) := by decide +kernel
theorem d_X10_init_152 : decode m_X10_init.2.1 152 = .ok (.putfield 74, 3) := by decide +kernel
theorem d_X10_init_155 : decode m_X10_init.2.1 155 = .ok (.aload_n 0, 1) := by decide +kernel
theorem d_X10_init_156 : decode m_X10_init.2.1 156 = .ok (.new 78, 3) := by decide +kernel
theorem d_X10_init_159 : decode m_X10_init.2.1 159 = .ok (.dup, 1) := by decide +kernel
theorem d_X10_init_160 : decode m_X10_init.2.1 160 = .ok (.invokespecial 80, 3) := by decide +kernel
theorem d_X10_init_163 : decode m_X10_init.2.1 163 = .ok (.putfield 81, 3) := by decide +kernel
theorem d_X10_init_166 : decode m_X10_init.2.1 166 = .ok (.aload_n 0, 1) := by decide +kernel
theorem d_X10_init_167 : decode m_X10_init.2.1 167 = .ok (.new 85, 3) := by decide +kernel
theorem d_X10_init_170 : decode m_X10_init.2.1 170 = .ok (.dup, 1) := by decide +kernel
theorem d_X10_init_171 : decode m_X10_init.2.1 171 = .ok (.invokespecial 87, 3) := by decide +kernel
theorem d_X10_init_174 : decode m_X10_init.2.1 174 = .ok (.putfield 88, 3) := by decide +kernel
theorem d_X10_init_177 : decode m_X10_init.2.1 177 = .ok (.return_, 1) := by decide +kernel
def m_L_law : jm_Y := (x, code, 15, some .boolean)
theorem d_L_law_0 : decode m_L_law.2.1 0 = .ok (.new 24, 3) := by decide +kernel
theorem d_L_law_3 : decode m_L_law.2.1 3 = .ok (.dup, 1) := by decide +kernel
theorem d_L_law_4 : decode m_L_law.2.1 4 = .ok (.invokespecial 104, 3) := by decide +kernel
theorem d_L_law_7 : decode m_L_law.2.1 7 = .ok (.astore_n 1, 1) := by decide +kernel
theorem d_L_law_8 : decode m_L_law.2.1 8 = .ok (.bipush 64, 2) := by decide +kernel
theorem d_L_law_10 : decode m_L_law.2.1 10 = .ok (.newarray .int, 2) := by decide +kernel
theorem d_L_law_12 : decode m_L_law.2.1 12 = .ok (.astore_n 2, 1) := by decide +kernel
theorem d_L_law_13 : decode m_L_law.2.1 13 = .ok (.bipush 32, 2) := by decide +kernel
theorem d_L_law_15 : decode m_L_law.2.1 15 = .ok (.newarray .int, 2) := by decide +kernel
theorem d_L_law_17 : decode m_L_law.2.1 17 = .ok (.astore_n 3, 1) := by decide +kernel
theorem d_L_law_18 : decode m_L_law.2.1 18 = .ok (.bipush 16, 2) := by decide +kernel
theorem d_L_law_20 : decode m_L_law.2.1 20 = .ok (.newarray .int, 2) := by decide +kernel
theorem d_L_law_22 : decode m_L_law.2.1 22 = .ok (.astore 4, 2) := by decide +kernel
theorem d_L_law_24 : decode m_L_law.2.1 24 = .ok (.bipush 56, 2) := by decide +kernel
theorem d_L_law_26 : decode m_L_law.2.1 26 = .ok (.newarray .int, 2) := by decide +kernel
theorem d_L_law_28 : decode m_L_law.2.1 28 = .ok (.astore 5, 2) := by decide +kernel
theorem oj_1 : Cond.instanceMethod Lib.objectInit ∈ jm_tbl := jm_tb (List.mem_append_right _ (List.mem_append_left _ (List.mem_of_getElem? (i := 30) rfl))) rfl
theorem oj_2 : Cond.code Lib.objectInit ⟨#[0xb1]⟩ 1 none ∈ jm_tbl := jm_tb (List.mem_append_right _ (List.mem_append_left _ (List.mem_of_getElem? (i := 31) rfl))) rfl
theorem cl_L_24 : Cond.classLink RL 24 RX10 ∈ jm_tbl := jm_tb (List.mem_append_right _ (List.mem_append_left _ (List.mem_of_getElem? (i := 24) rfl))) rfl
theorem it_X10 : Cond.instantiable RX10 15 ∈ jm_tbl := jm_tb (List.mem_append_right _ (List.mem_append_left _ (List.mem_of_getElem? (i := 25) rfl))) rfl
theorem in_X10 : Cond.initialized RX10 ∈ jm_tbl := jm_tb (List.mem_append_right _ (List.mem_append_left _ (List.mem_of_getElem? (i := 1) rfl))) rfl
theorem cl_X10_7 : Cond.classLink RX10 7 RX7 ∈ jm_tbl := jm_tb (List.mem_append_right _ (List.mem_append_left _ (List.mem_of_getElem? (i := 32) rfl))) rfl
theorem it_X7 : Cond.instantiable RX7 11 ∈ jm_tbl := jm_tb (List.mem_append_right _ (List.mem_append_left _ (List.mem_of_getElem? (i := 33) rfl))) rfl
theorem in_X7 : Cond.initialized RX7 ∈ jm_tbl := jm_tb (List.mem_append_right _ (List.mem_append_left _ (List.mem_of_getElem? (i := 2) rfl))) rfl
theorem ay_byte : Cond.arrayClass .byte ∈ jm_tbl := jm_tb (List.mem_append_right _ (List.mem_append_left _ (List.mem_of_getElem? (i := 82) rfl))) rfl
theorem cl_X10_16 : Cond.classLink RX10 16 RX5 ∈ jm_tbl := jm_tb (List.mem_append_right _ (List.mem_append_left _ (List.mem_of_getElem? (i := 83) rfl))) rfl
theorem it_X5 : Cond.instantiable RX5 16 ∈ jm_tbl := jm_tb (List.mem_append_right _ (List.mem_append_left _ (List.mem_of_getElem? (i := 84) rfl))) rfl
theorem in_X5 : Cond.initialized RX5 ∈ jm_tbl := jm_tb (List.mem_append_right _ (List.mem_append_left _ (List.mem_of_getElem? (i := 5) rfl))) rfl
theorem ay_long : Cond.arrayClass .long ∈ jm_tbl := jm_tb (List.mem_append_right _ (List.mem_append_left _ (List.mem_of_getElem? (i := 153) rfl))) rfl
theorem ay_int : Cond.arrayClass .int ∈ jm_tbl := jm_tb (List.mem_append_right _ (List.mem_append_left _ (List.mem_of_getElem? (i := 154) rfl))) rfl
theorem cl_X10_26 : Cond.classLink RX10 26 RX6 ∈ jm_tbl := jm_tb (List.mem_append_right _ (List.mem_append_left _ (List.mem_of_getElem? (i := 155) rfl))) rfl
theorem it_X6 : Cond.instantiable RX6 10 ∈ jm_tbl := jm_tb (List.mem_append_right _ (List.mem_append_left _ (List.mem_of_getElem? (i := 156) rfl))) rfl
theorem in_X6 : Cond.initialized RX6 ∈ jm_tbl := jm_tb (List.mem_append_right _ (List.mem_append_left _ (List.mem_of_getElem? (i := 6) rfl))) rfl
theorem cl_X6_15 : Cond.classLink RX6 15 RX5 ∈ jm_tbl := jm_tb (List.mem_append_right _ (List.mem_append_left _ (List.mem_of_getElem? (i := 164) rfl))) rfl
theorem cl_X10_41 : Cond.classLink RX10 41 RX1 ∈ jm_tbl := jm_tb (List.mem_append_right _ (List.mem_append_left _ (List.mem_of_getElem? (i := 201) rfl))) rfl
theorem it_X1 : Cond.instantiable RX1 4 ∈ jm_tbl := jm_tb (List.mem_append_right _ (List.mem_append_left _ (List.mem_of_getElem? (i := 202) rfl))) rfl
theorem in_X1 : Cond.initialized RX1 ∈ jm_tbl := jm_tb (List.mem_append_right _ (List.mem_append_left _ (List.mem_of_getElem? (i := 8) rfl))) rfl
theorem cl_X10_51 : Cond.classLink RX10 51 RX4 ∈ jm_tbl := jm_tb (List.mem_append_right _ (List.mem_append_left _ (List.mem_of_getElem? (i := 224) rfl))) rfl
theorem it_X4 : Cond.instantiable RX4 5 ∈ jm_tbl := jm_tb (List.mem_append_right _ (List.mem_append_left _ (List.mem_of_getElem? (i := 225) rfl))) rfl
theorem in_X4 : Cond.initialized RX4 ∈ jm_tbl := jm_tb (List.mem_append_right _ (List.mem_append_left _ (List.mem_of_getElem? (i := 9) rfl))) rfl
theorem cl_X10_61 : Cond.classLink RX10 61 RX0 ∈ jm_tbl := jm_tb (List.mem_append_right _ (List.mem_append_right _ (List.mem_append_left _ (List.mem_of_getElem? (i := 7) rfl)))) rfl
theorem it_X0 : Cond.instantiable RX0 7 ∈ jm_tbl := jm_tb (List.mem_append_right _ (List.mem_append_right _ (List.mem_append_left _ (List.mem_of_getElem? (i := 8) rfl)))) rfl
theorem in_X0 : Cond.initialized RX0 ∈ jm_tbl := jm_tb (List.mem_append_right _ (List.mem_append_left _ (List.mem_of_getElem? (i := 10) rfl))) rfl
theorem cl_X0_7 : Cond.classLink RX0 7 RX5 ∈ jm_tbl := jm_tb (List.mem_append_right _ (List.mem_append_right _ (List.mem_append_left _ (List.mem_of_getElem? (i := 13) rfl)))) rfl
theorem cl_X0_25 : Cond.classLink RX0 25 RX1 ∈ jm_tbl := jm_tb (List.mem_append_right _ (List.mem_append_right _ (List.mem_append_left _ (List.mem_of_getElem? (i := 15) rfl)))) rfl
theorem cl_X0_32 : Cond.classLink RX0 32 RX4 ∈ jm_tbl := jm_tb (List.mem_append_right _ (List.mem_append_right _ (List.mem_append_left _ (List.mem_of_getElem? (i := 17) rfl)))) rfl
theorem cl_X10_71 : Cond.classLink RX10 71 RX3 ∈ jm_tbl := jm_tb (List.mem_append_right _ (List.mem_append_right _ (List.mem_append_left _ (List.mem_of_getElem? (i := 39) rfl)))) rfl
theorem it_X3 : Cond.instantiable RX3 7 ∈ jm_tbl := jm_tb (List.mem_append_right _ (List.mem_append_right _ (List.mem_append_left _ (List.mem_of_getElem? (i := 40) rfl)))) rfl
theorem in_X3 : Cond.initialized RX3 ∈ jm_tbl := jm_tb (List.mem_append_right _ (List.mem_append_left _ (List.mem_of_getElem? (i := 11) rfl))) rfl
theorem cl_X10_78 : Cond.classLink RX10 78 RX9 ∈ jm_tbl := jm_tb (List.mem_append_right _ (List.mem_append_right _ (List.mem_append_left _ (List.mem_of_getElem? (i := 62) rfl)))) rfl
theorem it_X9 : Cond.instantiable RX9 10 ∈ jm_tbl := jm_tb (List.mem_append_right _ (List.mem_append_right _ (List.mem_append_left _ (List.mem_of_getElem? (i := 63) rfl)))) rfl
theorem in_X9 : Cond.initialized RX9 ∈ jm_tbl := jm_tb (List.mem_append_right _ (List.mem_append_left _ (List.mem_of_getElem? (i := 12) rfl))) rfl
theorem cl_X10_85 : Cond.classLink RX10 85 RX2 ∈ jm_tbl := jm_tb (List.mem_append_right _ (List.mem_append_right _ (List.mem_append_left _ (List.mem_of_getElem? (i := 99) rfl)))) rfl
theorem it_X2 : Cond.instantiable RX2 7 ∈ jm_tbl := jm_tb (List.mem_append_right _ (List.mem_append_right _ (List.mem_append_left _ (List.mem_of_getElem? (i := 100) rfl)))) rfl
theorem in_X2 : Cond.initialized RX2 ∈ jm_tbl := jm_tb (List.mem_append_right _ (List.mem_append_left _ (List.mem_of_getElem? (i := 13) rfl))) rfl
theorem hz_X0 {E : jm_E} : ∀ k, k < 7 → defaultValue (tyX0 k) = jm_cv E (jm_mk (jm_ft 0 k) (jm_z (jm_ft 0 k))) := fun k hk => by
  match k, hk with
  | 0, _ => rfl
  | 1, _ => rfl
  | 2, _ => rfl
  | 3, _ => rfl
  | 4, _ => rfl
  | 5, _ => rfl
  | 6, _ => rfl
  | k + 7, hk => exact absurd hk (by omega)
theorem hz_X1 {E : jm_E} : ∀ k, k < 4 → defaultValue (tyX1 k) = jm_cv E (jm_mk (jm_ft 1 k) (jm_z (jm_ft 1 k))) := fun k hk => by
  match k, hk with
  | 0, _ => rfl
  | 1, _ => rfl
  | 2, _ => rfl
  | 3, _ => rfl
  | k + 4, hk => exact absurd hk (by omega)
theorem hz_X2 {E : jm_E} : ∀ k, k < 7 → defaultValue (tyX2 k) = jm_cv E (jm_mk (jm_ft 2 k) (jm_z (jm_ft 2 k))) := fun k hk => by
  match k, hk with
  | 0, _ => rfl
  | 1, _ => rfl
  | 2, _ => rfl
  | 3, _ => rfl
  | 4, _ => rfl
  | 5, _ => rfl
  | 6, _ => rfl
  | k + 7, hk => exact absurd hk (by omega)
theorem hz_X3 {E : jm_E} : ∀ k, k < 7 → defaultValue (tyX3 k) = jm_cv E (jm_mk (jm_ft 3 k) (jm_z (jm_ft 3 k))) := fun k hk => by
  match k, hk with
  | 0, _ => rfl
  | 1, _ => rfl
  | 2, _ => rfl
  | 3, _ => rfl
  | 4, _ => rfl
  | 5, _ => rfl
  | 6, _ => rfl
  | k + 7, hk => exact absurd hk (by omega)
theorem hz_X4 {E : jm_E} : ∀ k, k < 5 → defaultValue (tyX4 k) = jm_cv E (jm_mk (jm_ft 4 k) (jm_z (jm_ft 4 k))) := fun k hk => by
  match k, hk with
  | 0, _ => rfl
  | 1, _ => rfl
  | 2, _ => rfl
  | 3, _ => rfl
  | 4, _ => rfl
  | k + 5, hk => exact absurd hk (by omega)
theorem hz_X5 {E : jm_E} : ∀ k, k < 16 → defaultValue (tyX5 k) = jm_cv E (jm_mk (jm_ft 5 k) (jm_z (jm_ft 5 k))) := fun k hk => by
  match k, hk with
  | 0, _ => rfl
  | 1, _ => rfl
  | 2, _ => rfl
  | 3, _ => rfl
  | 4, _ => rfl
  | 5, _ => rfl
  | 6, _ => rfl
  | 7, _ => rfl
  | 8, _ => rfl
  | 9, _ => rfl
  | 10, _ => rfl
  | 11, _ => rfl
  | 12, _ => rfl
  | 13, _ => rfl
  | 14, _ => rfl
  | 15, _ => rfl
  | k + 16, hk => exact absurd hk (by omega)
theorem hz_X6 {E : jm_E} : ∀ k, k < 10 → defaultValue (tyX6 k) = jm_cv E (jm_mk (jm_ft 6 k) (jm_z (jm_ft 6 k))) := fun k hk => by
  match k, hk with
  | 0, _ => rfl
  | 1, _ => rfl
  | 2, _ => rfl
  | 3, _ => rfl
  | 4, _ => rfl
  | 5, _ => rfl
  | 6, _ => rfl
  | 7, _ => rfl
  | 8, _ => rfl
  | 9, _ => rfl
  | k + 10, hk => exact absurd hk (by omega)
theorem hz_X7 {E : jm_E} : ∀ k, k < 11 → defaultValue (tyX7 k) = jm_cv E (jm_mk (jm_ft 7 k) (jm_z (jm_ft 7 k))) := fun k hk => by
  match k, hk with
  | 0, _ => rfl
  | 1, _ => rfl
  | 2, _ => rfl
  | 3, _ => rfl
  | 4, _ => rfl
  | 5, _ => rfl
  | 6, _ => rfl
  | 7, _ => rfl
  | 8, _ => rfl
  | 9, _ => rfl
  | 10, _ => rfl
  | k + 11, hk => exact absurd hk (by omega)
theorem hz_X9 {E : jm_E} : ∀ k, k < 10 → defaultValue (tyX9 k) = jm_cv E (jm_mk (jm_ft 8 k) (jm_z (jm_ft 8 k))) := fun k hk => by
  match k, hk with
  | 0, _ => rfl
  | 1, _ => rfl
  | 2, _ => rfl
  | 3, _ => rfl
  | 4, _ => rfl
  | 5, _ => rfl
  | 6, _ => rfl
  | 7, _ => rfl
  | 8, _ => rfl
  | 9, _ => rfl
  | k + 10, hk => exact absurd hk (by omega)
theorem hz_X10 {E : jm_E} : ∀ k, k < 15 → defaultValue (tyX10 k) = jm_cv E (jm_mk (jm_ft 9 k) (jm_z (jm_ft 9 k))) := fun k hk => by
  match k, hk with
  | 0, _ => rfl
  | 1, _ => rfl
  | 2, _ => rfl
  | 3, _ => rfl
  | 4, _ => rfl
  | 5, _ => rfl
  | 6, _ => rfl
  | 7, _ => rfl
  | 8, _ => rfl
  | 9, _ => rfl
  | 10, _ => rfl
  | 11, _ => rfl
  | 12, _ => rfl
  | 13, _ => rfl
  | 14, _ => rfl
  | k + 15, hk => exact absurd hk (by omega)
