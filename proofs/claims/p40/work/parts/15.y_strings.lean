/-! String's own methods on the law's constants: contracts (decode rows by gen_str.py) -/
theorem d_J0_length_8abf5_0 : decode m_J0_length_8abf5.2.1 0 = .ok (.aload_n 0, 1) := by decide +kernel
theorem d_J0_length_8abf5_1 : decode m_J0_length_8abf5.2.1 1 = .ok (.getfield 9, 3) := by decide +kernel
theorem d_J0_length_8abf5_4 : decode m_J0_length_8abf5.2.1 4 = .ok (.arraylength, 1) := by decide +kernel
theorem d_J0_length_8abf5_5 : decode m_J0_length_8abf5.2.1 5 = .ok (.aload_n 0, 1) := by decide +kernel
theorem d_J0_length_8abf5_6 : decode m_J0_length_8abf5.2.1 6 = .ok (.invokevirtual 335, 3) := by decide +kernel
theorem d_J0_length_8abf5_9 : decode m_J0_length_8abf5.2.1 9 = .ok (.ishr, 1) := by decide +kernel
theorem d_J0_length_8abf5_10 : decode m_J0_length_8abf5.2.1 10 = .ok (.ireturn, 1) := by decide +kernel
theorem d_J0_charAt_5068e_0 : decode m_J0_charAt_5068e.2.1 0 = .ok (.aload_n 0, 1) := by decide +kernel
theorem d_J0_charAt_5068e_1 : decode m_J0_charAt_5068e.2.1 1 = .ok (.invokevirtual 492, 3) := by decide +kernel
theorem d_J0_charAt_5068e_4 : decode m_J0_charAt_5068e.2.1 4 = .ok (.ifCond .eq 12, 3) := by decide +kernel
theorem d_J0_charAt_5068e_7 : decode m_J0_charAt_5068e.2.1 7 = .ok (.aload_n 0, 1) := by decide +kernel
theorem d_J0_charAt_5068e_8 : decode m_J0_charAt_5068e.2.1 8 = .ok (.getfield 9, 3) := by decide +kernel
theorem d_J0_charAt_5068e_11 : decode m_J0_charAt_5068e.2.1 11 = .ok (.iload_n 1, 1) := by decide +kernel
theorem d_J0_charAt_5068e_12 : decode m_J0_charAt_5068e.2.1 12 = .ok (.invokestatic 495, 3) := by decide +kernel
theorem d_J0_charAt_5068e_15 : decode m_J0_charAt_5068e.2.1 15 = .ok (.ireturn, 1) := by decide +kernel
theorem d_J0_charAt_5068e_16 : decode m_J0_charAt_5068e.2.1 16 = .ok (.aload_n 0, 1) := by decide +kernel
theorem d_J0_charAt_5068e_17 : decode m_J0_charAt_5068e.2.1 17 = .ok (.getfield 9, 3) := by decide +kernel
theorem d_J0_charAt_5068e_20 : decode m_J0_charAt_5068e.2.1 20 = .ok (.iload_n 1, 1) := by decide +kernel
theorem d_J0_charAt_5068e_21 : decode m_J0_charAt_5068e.2.1 21 = .ok (.invokestatic 498, 3) := by decide +kernel
theorem d_J0_charAt_5068e_24 : decode m_J0_charAt_5068e.2.1 24 = .ok (.ireturn, 1) := by decide +kernel
theorem d_J0_coder_7d493_0 : decode m_J0_coder_7d493.2.1 0 = .ok (.getstatic 38, 3) := by decide +kernel
theorem d_J0_coder_7d493_3 : decode m_J0_coder_7d493.2.1 3 = .ok (.ifCond .eq 10, 3) := by decide +kernel
theorem d_J0_coder_7d493_6 : decode m_J0_coder_7d493.2.1 6 = .ok (.aload_n 0, 1) := by decide +kernel
theorem d_J0_coder_7d493_7 : decode m_J0_coder_7d493.2.1 7 = .ok (.getfield 15, 3) := by decide +kernel
theorem d_J0_coder_7d493_10 : decode m_J0_coder_7d493.2.1 10 = .ok (.goto 4, 3) := by decide +kernel
theorem d_J0_coder_7d493_13 : decode m_J0_coder_7d493.2.1 13 = .ok (.iconst 1, 1) := by decide +kernel
theorem d_J0_coder_7d493_14 : decode m_J0_coder_7d493.2.1 14 = .ok (.ireturn, 1) := by decide +kernel
theorem d_J0_isLatin1_aae02_0 : decode m_J0_isLatin1_aae02.2.1 0 = .ok (.getstatic 38, 3) := by decide +kernel
theorem d_J0_isLatin1_aae02_3 : decode m_J0_isLatin1_aae02.2.1 3 = .ok (.ifCond .eq 14, 3) := by decide +kernel
theorem d_J0_isLatin1_aae02_6 : decode m_J0_isLatin1_aae02.2.1 6 = .ok (.aload_n 0, 1) := by decide +kernel
theorem d_J0_isLatin1_aae02_7 : decode m_J0_isLatin1_aae02.2.1 7 = .ok (.getfield 15, 3) := by decide +kernel
theorem d_J0_isLatin1_aae02_10 : decode m_J0_isLatin1_aae02.2.1 10 = .ok (.ifCond .ne 7, 3) := by decide +kernel
theorem d_J0_isLatin1_aae02_13 : decode m_J0_isLatin1_aae02.2.1 13 = .ok (.iconst 1, 1) := by decide +kernel
theorem d_J0_isLatin1_aae02_14 : decode m_J0_isLatin1_aae02.2.1 14 = .ok (.goto 4, 3) := by decide +kernel
theorem d_J0_isLatin1_aae02_17 : decode m_J0_isLatin1_aae02.2.1 17 = .ok (.iconst 0, 1) := by decide +kernel
theorem d_J0_isLatin1_aae02_18 : decode m_J0_isLatin1_aae02.2.1 18 = .ok (.ireturn, 1) := by decide +kernel
theorem d_J0_checkIndex_df160_0 : decode m_J0_checkIndex_df160.2.1 0 = .ok (.iload_n 0, 1) := by decide +kernel
theorem d_J0_checkIndex_df160_1 : decode m_J0_checkIndex_df160.2.1 1 = .ok (.iload_n 1, 1) := by decide +kernel
theorem d_J0_checkIndex_df160_2 : decode m_J0_checkIndex_df160.2.1 2 = .ok (.getstatic 1053, 3) := by decide +kernel
theorem d_J0_checkIndex_df160_5 : decode m_J0_checkIndex_df160.2.1 5 = .ok (.invokestatic 1059, 3) := by decide +kernel
theorem d_J0_checkIndex_df160_8 : decode m_J0_checkIndex_df160.2.1 8 = .ok (.pop, 1) := by decide +kernel
theorem d_J0_checkIndex_df160_9 : decode m_J0_checkIndex_df160.2.1 9 = .ok (.return_, 1) := by decide +kernel
theorem d_J1_charAt_3b067_0 : decode m_J1_charAt_3b067.2.1 0 = .ok (.iload_n 1, 1) := by decide +kernel
theorem d_J1_charAt_3b067_1 : decode m_J1_charAt_3b067.2.1 1 = .ok (.aload_n 0, 1) := by decide +kernel
theorem d_J1_charAt_3b067_2 : decode m_J1_charAt_3b067.2.1 2 = .ok (.arraylength, 1) := by decide +kernel
theorem d_J1_charAt_3b067_3 : decode m_J1_charAt_3b067.2.1 3 = .ok (.invokestatic 9, 3) := by decide +kernel
theorem d_J1_charAt_3b067_6 : decode m_J1_charAt_3b067.2.1 6 = .ok (.aload_n 0, 1) := by decide +kernel
theorem d_J1_charAt_3b067_7 : decode m_J1_charAt_3b067.2.1 7 = .ok (.iload_n 1, 1) := by decide +kernel
theorem d_J1_charAt_3b067_8 : decode m_J1_charAt_3b067.2.1 8 = .ok (.baload, 1) := by decide +kernel
theorem d_J1_charAt_3b067_9 : decode m_J1_charAt_3b067.2.1 9 = .ok (.sipush 255, 3) := by decide +kernel
theorem d_J1_charAt_3b067_12 : decode m_J1_charAt_3b067.2.1 12 = .ok (.iand, 1) := by decide +kernel
theorem d_J1_charAt_3b067_13 : decode m_J1_charAt_3b067.2.1 13 = .ok (.i2c, 1) := by decide +kernel
theorem d_J1_charAt_3b067_14 : decode m_J1_charAt_3b067.2.1 14 = .ok (.ireturn, 1) := by decide +kernel
theorem d_J3_checkIndex_8e157_0 : decode m_J3_checkIndex_8e157.2.1 0 = .ok (.iload_n 0, 1) := by decide +kernel
theorem d_J3_checkIndex_8e157_1 : decode m_J3_checkIndex_8e157.2.1 1 = .ok (.ifCond .lt 8, 3) := by decide +kernel
theorem d_J3_checkIndex_8e157_4 : decode m_J3_checkIndex_8e157.2.1 4 = .ok (.iload_n 0, 1) := by decide +kernel
theorem d_J3_checkIndex_8e157_5 : decode m_J3_checkIndex_8e157.2.1 5 = .ok (.iload_n 1, 1) := by decide +kernel
theorem d_J3_checkIndex_8e157_6 : decode m_J3_checkIndex_8e157.2.1 6 = .ok (.if_icmp .lt 10, 3) := by decide +kernel
theorem d_J3_checkIndex_8e157_9 : decode m_J3_checkIndex_8e157.2.1 9 = .ok (.aload_n 2, 1) := by decide +kernel
theorem d_J3_checkIndex_8e157_10 : decode m_J3_checkIndex_8e157.2.1 10 = .ok (.iload_n 0, 1) := by decide +kernel
theorem d_J3_checkIndex_8e157_11 : decode m_J3_checkIndex_8e157.2.1 11 = .ok (.iload_n 1, 1) := by decide +kernel
theorem d_J3_checkIndex_8e157_12 : decode m_J3_checkIndex_8e157.2.1 12 = .ok (.invokestatic 95, 3) := by decide +kernel
theorem d_J3_checkIndex_8e157_15 : decode m_J3_checkIndex_8e157.2.1 15 = .ok (.athrow, 1) := by decide +kernel
theorem d_J3_checkIndex_8e157_16 : decode m_J3_checkIndex_8e157.2.1 16 = .ok (.iload_n 0, 1) := by decide +kernel
theorem d_J3_checkIndex_8e157_17 : decode m_J3_checkIndex_8e157.2.1 17 = .ok (.ireturn, 1) := by decide +kernel
theorem jm_kshr : ∀ i : Nat, i < 14 → jm_shr ((jm_kn.getD i 0 : Nat) : Int) 0 = ((jm_kn.getD i 0 : Nat) : Int) := by decide +kernel
theorem jm_kcc : ∀ v : Nat, v < 128 → jm_i2c (jm_and (v : Int) 255) = (v : Int) ∧ narrow .char (.int (Int32.ofInt (v : Int))) = .int (Int32.ofInt (v : Int)) := by decide +kernel
theorem jm_kch_r {a j : Int} (ha : jm_ik a) (h0 : 0 ≤ j) (hj : j < jm_klen a) : 0 ≤ jm_kch a j ∧ jm_kch a j < 128 := by
  obtain ⟨i, hi, rfl, hi2⟩ := jm_ik_nat ha
  obtain ⟨k, rfl⟩ := jm_nat h0
  unfold jm_klen at hj
  rw [hi2] at hj
  have hka := jm_kall i hi
  have hk := hka.2 k (by omega) (by omega)
  unfold jm_kch
  rw [hi2]
  exact hk.2
section JKS
variable {E : jm_E} {Y : jm_Y} {R : Room} {n' n cs sl pc : Nat} {L : List (Option jm_V)} {st : List jm_V} {μ : jm_M} {Q : Option jm_V → jm_M → Prop}
theorem k_coder {d : Nat} {a : Int} (ha : jm_ik a) (h : Q (some (jm_I 0)) μ) : jm_Cl E m_J0_coder_7d493 d n n 0 0 [jm_R a] μ Q := by
  refine jm_Cl.of2 (by decide +kernel) (L0 := [some (jm_R a)]) rfl (Nat.le_of_ble_eq_true rfl) (fun _ => ?_)
  refine jm_getCS f_J0_38 d_J0_coder_7d493_0 ?_
  refine jm_if_eq (tgt := 13) d_J0_coder_7d493_3 (by decide) (fun z => absurd z (by decide)) (fun _ => ?_)
  refine jm_aloadn d_J0_coder_7d493_6 rfl ?_
  refine jm_getKc ha f_J0_15 d_J0_coder_7d493_7 ?_
  refine jm_goto (tgt := 14) d_J0_coder_7d493_10 (by decide) ?_
  exact jm_ret (o := some (jm_I 0)) d_J0_coder_7d493_14 rfl ⟨Nat.le_refl _, Nat.le_refl _⟩ (jm_r_B (by decide +kernel)) h rfl
theorem k_length {d : Nat} {a : Int} (ha : jm_ik a) (h : Q (some (jm_I (jm_klen a))) μ) : jm_Cl E m_J0_length_8abf5 (d + 1) n n 0 0 [jm_R a] μ Q := by
  refine jm_Cl.of2 (by decide +kernel) (L0 := [some (jm_R a)]) rfl (Nat.le_of_ble_eq_true rfl) (fun _ => ?_)
  refine jm_aloadn d_J0_length_8abf5_0 rfl ?_
  refine jm_getKv ha f_J0_9 d_J0_length_8abf5_1 ?_
  refine jm_lenB ha d_J0_length_8abf5_4 ?_
  refine jm_aloadn d_J0_length_8abf5_5 rfl ?_
  refine jm_invK (d := d) (mc := 0) (ms := 0) (av := []) w_J0_coder_7d493 rfl l_J0_335 d_J0_length_8abf5_6 rfl ha ⟨Nat.le_refl _, Nat.le_refl _⟩ (Nat.le_of_ble_eq_true rfl) rfl (k_coder ha (fun _ => ?_))
  refine jm_ishr d_J0_length_8abf5_9 ?_
  have e : jm_shr (jm_klen a) 0 = jm_klen a := by
    obtain ⟨i, hi, rfl, hi2⟩ := jm_ik_nat ha
    unfold jm_klen
    rw [hi2]
    exact jm_kshr i hi
  rw [e]
  exact jm_ret (o := some (jm_I _)) d_J0_length_8abf5_10 rfl ⟨Nat.le_refl _, Nat.le_refl _⟩ jm_r_I h rfl
theorem k_isLatin1 {d : Nat} {a : Int} (ha : jm_ik a) (h : Q (some (jm_I 1)) μ) : jm_Cl E m_J0_isLatin1_aae02 d n n 0 0 [jm_R a] μ Q := by
  refine jm_Cl.of2 (by decide +kernel) (L0 := [some (jm_R a)]) rfl (Nat.le_of_ble_eq_true rfl) (fun _ => ?_)
  refine jm_getCS f_J0_38 d_J0_isLatin1_aae02_0 ?_
  refine jm_if_eq (tgt := 17) d_J0_isLatin1_aae02_3 (by decide) (fun z => absurd z (by decide)) (fun _ => ?_)
  refine jm_aloadn d_J0_isLatin1_aae02_6 rfl ?_
  refine jm_getKc ha f_J0_15 d_J0_isLatin1_aae02_7 ?_
  refine jm_if_ne (tgt := 17) d_J0_isLatin1_aae02_10 (by decide) (fun z => absurd rfl z) (fun _ => ?_)
  refine jm_iconst (v := 1) d_J0_isLatin1_aae02_13 rfl (jm_okI (by decide) (by decide)) ?_
  refine jm_goto (tgt := 18) d_J0_isLatin1_aae02_14 (by decide) ?_
  exact jm_ret (o := some (jm_I 1)) d_J0_isLatin1_aae02_18 rfl ⟨Nat.le_refl _, Nat.le_refl _⟩ (jm_r_Z (by decide)) h rfl
theorem k_check3 {d : Nat} {j len x : Int} (h0 : 0 ≤ j) (hj : j < len) (h : Q (some (jm_I j)) μ) : jm_Cl E m_J3_checkIndex_8e157 d n n 0 0 [jm_I j, jm_I len, jm_R x] μ Q := by
  refine jm_Cl.of2 (by decide +kernel) (L0 := [some (jm_I j), some (jm_I len), some (jm_R x)]) rfl (Nat.le_of_ble_eq_true rfl) (fun _ => ?_)
  refine jm_iloadn d_J3_checkIndex_8e157_0 rfl ?_
  refine jm_if_lt (tgt := 9) d_J3_checkIndex_8e157_1 (by decide) (fun z => absurd z (by omega)) (fun _ => ?_)
  refine jm_iloadn d_J3_checkIndex_8e157_4 rfl ?_
  refine jm_iloadn d_J3_checkIndex_8e157_5 rfl ?_
  refine jm_icmp_lt (tgt := 16) d_J3_checkIndex_8e157_6 (by decide) (fun _ => ?_) (fun z => absurd hj z)
  refine jm_iloadn d_J3_checkIndex_8e157_16 rfl ?_
  exact jm_ret (o := some (jm_I _)) d_J3_checkIndex_8e157_17 rfl ⟨Nat.le_refl _, Nat.le_refl _⟩ jm_r_I h rfl
theorem k_check0 {d : Nat} {j len : Int} (h0 : 0 ≤ j) (hj : j < len) (h : Q none μ) : jm_Cl E m_J0_checkIndex_df160 (d + 1) n n 0 0 [jm_I j, jm_I len] μ Q := by
  refine jm_Cl.of2 (by decide +kernel) (L0 := [some (jm_I j), some (jm_I len)]) rfl (Nat.le_of_ble_eq_true rfl) (fun _ => ?_)
  refine jm_iloadn d_J0_checkIndex_df160_0 rfl ?_
  refine jm_iloadn d_J0_checkIndex_df160_1 rfl ?_
  refine jm_getFm f_J0_1053 d_J0_checkIndex_df160_2 (fun x => ?_)
  refine jm_invS (d := d) (n1 := n) (mc := 0) (ms := 0) (av := [jm_I _, jm_I _, jm_R _]) w_J3_checkIndex_8e157 l_J0_1059 d_J0_checkIndex_df160_5 rfl ⟨Nat.le_refl _, Nat.le_refl _⟩ (Nat.le_of_ble_eq_true rfl) rfl (k_check3 h0 hj (fun _ => ?_))
  refine jm_pop rfl d_J0_checkIndex_df160_8 ?_
  exact jm_ret (o := none) d_J0_checkIndex_df160_9 rfl ⟨Nat.le_refl _, Nat.le_refl _⟩ jm_r_V h rfl
theorem k_charL {d : Nat} {a j : Int} (ha : jm_ik a) (h0 : 0 ≤ j) (hj : j < jm_klen a) (h : Q (some (jm_I (jm_kch a j))) μ) : jm_Cl E m_J1_charAt_3b067 (d + 2) n n 0 0 [jm_R (a - 100), jm_I j] μ Q := by
  refine jm_Cl.of2 (by decide +kernel) (L0 := [some (jm_R (a - 100)), some (jm_I j)]) rfl (Nat.le_of_ble_eq_true rfl) (fun _ => ?_)
  refine jm_iloadn d_J1_charAt_3b067_0 rfl ?_
  refine jm_aloadn d_J1_charAt_3b067_1 rfl ?_
  refine jm_lenB ha d_J1_charAt_3b067_2 ?_
  refine jm_invS (d := d + 1) (n1 := n) (mc := 0) (ms := 0) (av := [jm_I _, jm_I _]) w_J0_checkIndex_df160 l_J1_9 d_J1_charAt_3b067_3 rfl ⟨Nat.le_refl _, Nat.le_refl _⟩ (Nat.le_of_ble_eq_true rfl) rfl (k_check0 h0 hj (fun _ => ?_))
  refine jm_aloadn d_J1_charAt_3b067_6 rfl ?_
  refine jm_iloadn d_J1_charAt_3b067_7 rfl ?_
  refine jm_ldB ha h0 hj d_J1_charAt_3b067_8 ?_
  refine jm_sipush (v := 255) d_J1_charAt_3b067_9 rfl (jm_okI (by decide) (by decide)) ?_
  refine jm_iand d_J1_charAt_3b067_12 ?_
  refine jm_i2ct d_J1_charAt_3b067_13 ?_
  have hr := jm_kch_r ha h0 hj
  obtain ⟨v, hv⟩ := jm_nat hr.1
  have hc := jm_kcc v (by omega)
  rw [← hv] at hc
  rw [hc.1]
  exact jm_ret (o := some (jm_I _)) d_J1_charAt_3b067_14 rfl ⟨Nat.le_refl _, Nat.le_refl _⟩ (jm_r_C hc.2) h rfl
theorem k_charAt {d : Nat} {a j : Int} (ha : jm_ik a) (h0 : 0 ≤ j) (hj : j < jm_klen a) (h : Q (some (jm_I (jm_kch a j))) μ) : jm_Cl E m_J0_charAt_5068e (d + 3) n n 0 0 [jm_R a, jm_I j] μ Q := by
  refine jm_Cl.of2 (by decide +kernel) (L0 := [some (jm_R a), some (jm_I j)]) rfl (Nat.le_of_ble_eq_true rfl) (fun _ => ?_)
  refine jm_aloadn d_J0_charAt_5068e_0 rfl ?_
  refine jm_invK (d := d + 2) (mc := 0) (ms := 0) (av := []) w_J0_isLatin1_aae02 rfl l_J0_492 d_J0_charAt_5068e_1 rfl ha ⟨Nat.le_refl _, Nat.le_refl _⟩ (Nat.le_of_ble_eq_true rfl) rfl (k_isLatin1 ha (fun _ => ?_))
  refine jm_if_eq (tgt := 16) d_J0_charAt_5068e_4 (by decide) (fun z => absurd z (by decide)) (fun _ => ?_)
  refine jm_aloadn d_J0_charAt_5068e_7 rfl ?_
  refine jm_getKv ha f_J0_9 d_J0_charAt_5068e_8 ?_
  refine jm_iloadn d_J0_charAt_5068e_11 rfl ?_
  refine jm_invS (d := d + 2) (n1 := n) (mc := 0) (ms := 0) (av := [jm_R _, jm_I _]) w_J1_charAt_3b067 l_J0_495 d_J0_charAt_5068e_12 rfl ⟨Nat.le_refl _, Nat.le_refl _⟩ (Nat.le_of_ble_eq_true rfl) rfl (k_charL ha h0 hj (fun _ => ?_))
  have hr := jm_kch_r ha h0 hj
  obtain ⟨v, hv⟩ := jm_nat hr.1
  have hc := jm_kcc v (by omega)
  rw [← hv] at hc
  exact jm_ret (o := some (jm_I _)) d_J0_charAt_5068e_15 rfl ⟨Nat.le_refl _, Nat.le_refl _⟩ (jm_r_C hc.2) h rfl
theorem jm_klenr {d C2 S2 idx : Nat} {a : Int} (hlink : Cond.methodLink Y.1.cls idx yJ0_length_8abf5 ∈ jm_tbl) (hd : decode Y.2.1 pc = .ok (.invokevirtual idx, 3)) (ha : jm_ik a) (h4 : 4 ≤ d) (hc : cs ≤ C2 ∧ sl ≤ S2) (hrest : st.length ≤ 4) (h : jm_G E Y (jm_rm (d + 1) C2 S2) n' n cs sl (pc + 3) L (jm_I (jm_klen a) :: st) μ Q) : jm_G E Y (jm_rm (d + 1) C2 S2) n' n cs sl pc L (jm_R a :: st) μ Q := by
  obtain ⟨d, rfl⟩ : ∃ d' : Nat, d = d' + 1 := ⟨d - 1, by omega⟩
  exact jm_invK (d := d + 1) (mc := 0) (ms := 0) (av := []) w_J0_length_8abf5 rfl hlink hd rfl ha hc hrest rfl (k_length (d := d) ha (fun _ => h))
theorem jm_kchr {d C2 S2 idx : Nat} {a j : Int} (hlink : Cond.methodLink Y.1.cls idx yJ0_charAt_5068e ∈ jm_tbl) (hd : decode Y.2.1 pc = .ok (.invokevirtual idx, 3)) (ha : jm_ik a) (hj : 0 ≤ j ∧ j < jm_klen a) (h4 : 4 ≤ d) (hc : cs ≤ C2 ∧ sl ≤ S2) (hrest : st.length ≤ 4) (h : jm_G E Y (jm_rm (d + 1) C2 S2) n' n cs sl (pc + 3) L (jm_I (jm_kch a j) :: st) μ Q) : jm_G E Y (jm_rm (d + 1) C2 S2) n' n cs sl pc L (jm_I j :: jm_R a :: st) μ Q := by
  obtain ⟨d, rfl⟩ : ∃ d' : Nat, d = d' + 4 := ⟨d - 4, by omega⟩
  exact jm_invK (d := d + 4) (mc := 0) (ms := 0) (av := [jm_I j]) w_J0_charAt_5068e rfl hlink hd rfl ha hc hrest rfl (k_charAt (d := d + 1) ha hj.1 hj.2 (fun _ => h))
end JKS
