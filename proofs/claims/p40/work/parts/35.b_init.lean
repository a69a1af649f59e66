/-! constructors, by program (gen_init.py) -/
def km_X7_1 (μ : jm_M) : jm_M := (jm_up (jm_up (jm_new μ 2) 1 0 ((2 : Nat) : Int)) 1 7 (-11))
theorem ci_X7_1 {E : jm_E} {d : Nat} {μ : jm_M} {Q : Option jm_V → jm_M → Prop} (h : Q none (km_X7_1 μ)) : jm_Cl E m_X7_init (d + 1) 2 3 1 940 [jm_R ((1 : Nat) : Int)] μ Q := by
  refine jm_Cl.of2 (by decide +kernel) (L0 := [some (jm_R ((1 : Nat) : Int))]) rfl (Nat.le_of_ble_eq_true rfl) (fun _ => ?_)
  refine jm_aloadn d_X7_init_0 rfl ?_
  refine jm_objInit l_X7_3 oj_1 oj_2 d_X7_init_1 (by decide) (Nat.le_of_ble_eq_true rfl) ?_
  refine jm_aloadn d_X7_init_4 rfl ?_
  refine jm_sipush (v := 940) d_X7_init_5 rfl (jm_okI (by decide) (by decide)) ?_
  refine jm_newa (at0 := .byte) (ty := .byte) (t := 4) (N := 940) rfl (Or.inr (Or.inr ⟨rfl, rfl⟩)) ay_byte d_X7_init_8 rfl (by decide) (by decide) (by decide) (Nat.le_of_ble_eq_true rfl) (Nat.le_of_ble_eq_true rfl) (fun z => absurd z (by decide)) ?_
  refine jm_putR (k := 0) (ki := 0) cf_X7 (Nat.le_of_ble_eq_true rfl) f_X7_11 d_X7_init_10 (fun _ => ⟨rfl, rfl⟩) rfl (Or.inr ⟨_, rfl⟩) rfl (fun z => absurd z (by decide)) ⟨by decide, by decide, is_1.2.2.1, is_1.2.2.2⟩ ?_
  refine jm_aloadn d_X7_init_13 rfl ?_
  refine jm_getT (i := 0) (a := -11) (Nat.le_of_ble_eq_true rfl) (by decide) rfl f_X7_15 d_X7_init_14 ?_
  refine jm_putR (k := 7) (ki := 7) cf_X7 (Nat.le_of_ble_eq_true rfl) f_X7_21 d_X7_init_17 (fun z => absurd z (by decide)) rfl (Or.inl ⟨_, rfl⟩) rfl (fun z => absurd z (by decide)) ⟨by decide, by decide, is_1.2.2.1, is_1.2.2.2⟩ ?_
  exact jm_ret (o := none) d_X7_init_20 rfl ⟨(Nat.le_of_ble_eq_true rfl), (Nat.le_of_ble_eq_true rfl)⟩ jm_r_V h rfl
def km_X5_3 (μ : jm_M) : jm_M := (jm_up (jm_up (jm_up (jm_new (jm_up (jm_new (jm_up (jm_new (jm_up (jm_new (jm_up (jm_new (jm_up (jm_new (jm_up (jm_new (jm_up (jm_new μ 4) 3 2 ((4 : Nat) : Int)) 5) 3 3 ((5 : Nat) : Int)) 6) 3 5 ((6 : Nat) : Int)) 7) 3 6 ((7 : Nat) : Int)) 8) 3 7 ((8 : Nat) : Int)) 9) 3 8 ((9 : Nat) : Int)) 10) 3 9 ((10 : Nat) : Int)) 11) 3 12 ((11 : Nat) : Int)) 3 11 1) ((11 : Nat) : Int) 0 2)
theorem ci_X5_3 {E : jm_E} {d : Nat} {μ : jm_M} {Q : Option jm_V → jm_M → Prop} (h : Q none (km_X5_3 μ)) : jm_Cl E m_X5_init (d + 1) 4 12 8 72 [jm_R ((3 : Nat) : Int)] μ Q := by
  refine jm_Cl.of2 (by decide +kernel) (L0 := [some (jm_R ((3 : Nat) : Int))]) rfl (Nat.le_of_ble_eq_true rfl) (fun _ => ?_)
  refine jm_aloadn d_X5_init_0 rfl ?_
  refine jm_objInit l_X5_3 oj_1 oj_2 d_X5_init_1 (by decide) (Nat.le_of_ble_eq_true rfl) ?_
  refine jm_aloadn d_X5_init_4 rfl ?_
  refine jm_bipush (v := 8) d_X5_init_5 rfl (jm_okI (by decide) (by decide)) ?_
  refine jm_newa (at0 := .long) (ty := .long) (t := 3) (N := 8) rfl (Or.inr (Or.inl ⟨rfl, rfl⟩)) ay_long d_X5_init_7 rfl (by decide) (by decide) (by decide) (Nat.le_of_ble_eq_true rfl) (Nat.le_of_ble_eq_true rfl) (fun z => absurd z (by decide)) ?_
  refine jm_putR (k := 2) (ki := 2) cf_X5 (Nat.le_of_ble_eq_true rfl) f_X5_11 d_X5_init_9 (fun _ => ⟨rfl, rfl⟩) rfl (Or.inr ⟨_, rfl⟩) rfl (fun z => absurd z (by decide)) ⟨by decide, by decide, is_3.2.2.1, is_3.2.2.2⟩ ?_
  refine jm_aloadn d_X5_init_12 rfl ?_
  refine jm_bipush (v := 8) d_X5_init_13 rfl (jm_okI (by decide) (by decide)) ?_
  refine jm_newa (at0 := .int) (ty := .int) (t := 2) (N := 8) rfl (Or.inl ⟨rfl, rfl⟩) ay_int d_X5_init_15 rfl (by decide) (by decide) (by decide) (Nat.le_of_ble_eq_true rfl) (Nat.le_of_ble_eq_true rfl) (fun z => absurd z (by decide)) ?_
  refine jm_putR (k := 3) (ki := 3) cf_X5 (Nat.le_of_ble_eq_true rfl) f_X5_15 d_X5_init_17 (fun _ => ⟨rfl, rfl⟩) rfl (Or.inr ⟨_, rfl⟩) rfl (fun z => absurd z (by decide)) ⟨by decide, by decide, is_3.2.2.1, is_3.2.2.2⟩ ?_
  refine jm_aloadn d_X5_init_20 rfl ?_
  refine jm_bipush (v := 10) d_X5_init_21 rfl (jm_okI (by decide) (by decide)) ?_
  refine jm_newa (at0 := .long) (ty := .long) (t := 3) (N := 10) rfl (Or.inr (Or.inl ⟨rfl, rfl⟩)) ay_long d_X5_init_23 rfl (by decide) (by decide) (by decide) (Nat.le_of_ble_eq_true rfl) (Nat.le_of_ble_eq_true rfl) (fun z => absurd z (by decide)) ?_
  refine jm_putR (k := 5) (ki := 5) cf_X5 (Nat.le_of_ble_eq_true rfl) f_X5_19 d_X5_init_25 (fun _ => ⟨rfl, rfl⟩) rfl (Or.inr ⟨_, rfl⟩) rfl (fun z => absurd z (by decide)) ⟨by decide, by decide, is_3.2.2.1, is_3.2.2.2⟩ ?_
  refine jm_aloadn d_X5_init_28 rfl ?_
  refine jm_bipush (v := 10) d_X5_init_29 rfl (jm_okI (by decide) (by decide)) ?_
  refine jm_newa (at0 := .int) (ty := .int) (t := 2) (N := 10) rfl (Or.inl ⟨rfl, rfl⟩) ay_int d_X5_init_31 rfl (by decide) (by decide) (by decide) (Nat.le_of_ble_eq_true rfl) (Nat.le_of_ble_eq_true rfl) (fun z => absurd z (by decide)) ?_
  refine jm_putR (k := 6) (ki := 6) cf_X5 (Nat.le_of_ble_eq_true rfl) f_X5_22 d_X5_init_33 (fun _ => ⟨rfl, rfl⟩) rfl (Or.inr ⟨_, rfl⟩) rfl (fun z => absurd z (by decide)) ⟨by decide, by decide, is_3.2.2.1, is_3.2.2.2⟩ ?_
  refine jm_aloadn d_X5_init_36 rfl ?_
  refine jm_bipush (v := 10) d_X5_init_37 rfl (jm_okI (by decide) (by decide)) ?_
  refine jm_newa (at0 := .int) (ty := .int) (t := 2) (N := 10) rfl (Or.inl ⟨rfl, rfl⟩) ay_int d_X5_init_39 rfl (by decide) (by decide) (by decide) (Nat.le_of_ble_eq_true rfl) (Nat.le_of_ble_eq_true rfl) (fun z => absurd z (by decide)) ?_
  refine jm_putR (k := 7) (ki := 7) cf_X5 (Nat.le_of_ble_eq_true rfl) f_X5_25 d_X5_init_41 (fun _ => ⟨rfl, rfl⟩) rfl (Or.inr ⟨_, rfl⟩) rfl (fun z => absurd z (by decide)) ⟨by decide, by decide, is_3.2.2.1, is_3.2.2.2⟩ ?_
  refine jm_aloadn d_X5_init_44 rfl ?_
  refine jm_bipush (v := 10) d_X5_init_45 rfl (jm_okI (by decide) (by decide)) ?_
  refine jm_newa (at0 := .int) (ty := .int) (t := 2) (N := 10) rfl (Or.inl ⟨rfl, rfl⟩) ay_int d_X5_init_47 rfl (by decide) (by decide) (by decide) (Nat.le_of_ble_eq_true rfl) (Nat.le_of_ble_eq_true rfl) (fun z => absurd z (by decide)) ?_
  refine jm_putR (k := 8) (ki := 8) cf_X5 (Nat.le_of_ble_eq_true rfl) f_X5_28 d_X5_init_49 (fun _ => ⟨rfl, rfl⟩) rfl (Or.inr ⟨_, rfl⟩) rfl (fun z => absurd z (by decide)) ⟨by decide, by decide, is_3.2.2.1, is_3.2.2.2⟩ ?_
  refine jm_aloadn d_X5_init_52 rfl ?_
  refine jm_bipush (v := 10) d_X5_init_53 rfl (jm_okI (by decide) (by decide)) ?_
  refine jm_newa (at0 := .int) (ty := .int) (t := 2) (N := 10) rfl (Or.inl ⟨rfl, rfl⟩) ay_int d_X5_init_55 rfl (by decide) (by decide) (by decide) (Nat.le_of_ble_eq_true rfl) (Nat.le_of_ble_eq_true rfl) (fun z => absurd z (by decide)) ?_
  refine jm_putR (k := 9) (ki := 9) cf_X5 (Nat.le_of_ble_eq_true rfl) f_X5_31 d_X5_init_57 (fun _ => ⟨rfl, rfl⟩) rfl (Or.inr ⟨_, rfl⟩) rfl (fun z => absurd z (by decide)) ⟨by decide, by decide, is_3.2.2.1, is_3.2.2.2⟩ ?_
  refine jm_aloadn d_X5_init_60 rfl ?_
  refine jm_bipush (v := 6) d_X5_init_61 rfl (jm_okI (by decide) (by decide)) ?_
  refine jm_newa (at0 := .int) (ty := .int) (t := 2) (N := 6) rfl (Or.inl ⟨rfl, rfl⟩) ay_int d_X5_init_63 rfl (by decide) (by decide) (by decide) (Nat.le_of_ble_eq_true rfl) (Nat.le_of_ble_eq_true rfl) (fun z => absurd z (by decide)) ?_
  refine jm_putR (k := 12) (ki := 12) cf_X5 (Nat.le_of_ble_eq_true rfl) f_X5_34 d_X5_init_65 (fun _ => ⟨rfl, rfl⟩) rfl (Or.inr ⟨_, rfl⟩) rfl (fun z => absurd z (by decide)) ⟨by decide, by decide, is_3.2.2.1, is_3.2.2.2⟩ ?_
  refine jm_aloadn d_X5_init_68 rfl ?_
  refine jm_iconst (v := 1) d_X5_init_69 rfl (jm_okI (by decide) (by decide)) ?_
  refine jm_putI (k := 11) (ki := 11) cf_X5 (Nat.le_of_ble_eq_true rfl) f_X5_37 d_X5_init_70 (fun z => absurd z (by decide)) rfl rfl rfl (fun z => absurd z (by decide)) ⟨by decide, by decide, is_3.2.2.1, is_3.2.2.2⟩ ?_
  refine jm_aloadn d_X5_init_73 rfl ?_
  refine jm_getR (k := 12) (ki := 12) cf_X5 (Nat.le_of_ble_eq_true rfl) f_X5_34 d_X5_init_74 rfl rfl ⟨by decide, by decide, is_3.2.2.1, is_3.2.2.2⟩ ((jm_up_i (by decide)).trans jm_up_at) ?_
  refine jm_iconst (v := 0) d_X5_init_77 rfl (jm_okI (by decide) (by decide)) ?_
  refine jm_iconst (v := 2) d_X5_init_78 rfl (jm_okI (by decide) (by decide)) ?_
  refine jm_iastore d_X5_init_79 ⟨by decide, by decide, by decide +kernel, by decide, by decide +kernel⟩ ?_
  exact jm_ret (o := none) d_X5_init_80 rfl ⟨(Nat.le_of_ble_eq_true rfl), (Nat.le_of_ble_eq_true rfl)⟩ jm_r_V h rfl
def km_X5_12 (μ : jm_M) : jm_M := (jm_up (jm_up (jm_up (jm_new (jm_up (jm_new (jm_up (jm_new (jm_up (jm_new (jm_up (jm_new (jm_up (jm_new (jm_up (jm_new (jm_up (jm_new μ 13) 12 2 ((13 : Nat) : Int)) 14) 12 3 ((14 : Nat) : Int)) 15) 12 5 ((15 : Nat) : Int)) 16) 12 6 ((16 : Nat) : Int)) 17) 12 7 ((17 : Nat) : Int)) 18) 12 8 ((18 : Nat) : Int)) 19) 12 9 ((19 : Nat) : Int)) 20) 12 12 ((20 : Nat) : Int)) 12 11 1) ((20 : Nat) : Int) 0 2)
theorem ci_X5_12 {E : jm_E} {d : Nat} {μ : jm_M} {Q : Option jm_V → jm_M → Prop} (h : Q none (km_X5_12 μ)) : jm_Cl E m_X5_init (d + 1) 13 21 8 72 [jm_R ((12 : Nat) : Int)] μ Q := by
  refine jm_Cl.of2 (by decide +kernel) (L0 := [some (jm_R ((12 : Nat) : Int))]) rfl (Nat.le_of_ble_eq_true rfl) (fun _ => ?_)
  refine jm_aloadn d_X5_init_0 rfl ?_
  refine jm_objInit l_X5_3 oj_1 oj_2 d_X5_init_1 (by decide) (Nat.le_of_ble_eq_true rfl) ?_
  refine jm_aloadn d_X5_init_4 rfl ?_
  refine jm_bipush (v := 8) d_X5_init_5 rfl (jm_okI (by decide) (by decide)) ?_
  refine jm_newa (at0 := .long) (ty := .long) (t := 3) (N := 8) rfl (Or.inr (Or.inl ⟨rfl, rfl⟩)) ay_long d_X5_init_7 rfl (by decide) (by decide) (by decide) (Nat.le_of_ble_eq_true rfl) (Nat.le_of_ble_eq_true rfl) (fun z => absurd z (by decide)) ?_
  refine jm_putR (k := 2) (ki := 2) cf_X5 (Nat.le_of_ble_eq_true rfl) f_X5_11 d_X5_init_9 (fun _ => ⟨rfl, rfl⟩) rfl (Or.inr ⟨_, rfl⟩) rfl (fun z => absurd z (by decide)) ⟨by decide, by decide, is_12.2.2.1, is_12.2.2.2⟩ ?_
  refine jm_aloadn d_X5_init_12 rfl ?_
  refine jm_bipush (v := 8) d_X5_init_13 rfl (jm_okI (by decide) (by decide)) ?_
  refine jm_newa (at0 := .int) (ty := .int) (t := 2) (N := 8) rfl (Or.inl ⟨rfl, rfl⟩) ay_int d_X5_init_15 rfl (by decide) (by decide) (by decide) (Nat.le_of_ble_eq_true rfl) (Nat.le_of_ble_eq_true rfl) (fun z => absurd z (by decide)) ?_
  refine jm_putR (k := 3) (ki := 3) cf_X5 (Nat.le_of_ble_eq_true rfl) f_X5_15 d_X5_init_17 (fun _ => ⟨rfl, rfl⟩) rfl (Or.inr ⟨_, rfl⟩) rfl (fun z => absurd z (by decide)) ⟨by decide, by decide, is_12.2.2.1, is_12.2.2.2⟩ ?_
  refine jm_aloadn d_X5_init_20 rfl ?_
  refine jm_bipush (v := 10) d_X5_init_21 rfl (jm_okI (by decide) (by decide)) ?_
  refine jm_newa (at0 := .long) (ty := .long) (t := 3) (N := 10) rfl (Or.inr (Or.inl ⟨rfl, rfl⟩)) ay_long d_X5_init_23 rfl (by decide) (by decide) (by decide) (Nat.le_of_ble_eq_true rfl) (Nat.le_of_ble_eq_true rfl) (fun z => absurd z (by decide)) ?_
  refine jm_putR (k := 5) (ki := 5) cf_X5 (Nat.le_of_ble_eq_true rfl) f_X5_19 d_X5_init_25 (fun _ => ⟨rfl, rfl⟩) rfl (Or.inr ⟨_, rfl⟩) rfl (fun z => absurd z (by decide)) ⟨by decide, by decide, is_12.2.2.1, is_12.2.2.2⟩ ?_
  refine jm_aloadn d_X5_init_28 rfl ?_
  refine jm_bipush (v := 10) d_X5_init_29 rfl (jm_okI (by decide) (by decide)) ?_
  refine jm_newa (at0 := .int) (ty := .int) (t := 2) (N := 10) rfl (Or.inl ⟨rfl, rfl⟩) ay_int d_X5_init_31 rfl (by decide) (by decide) (by decide) (Nat.le_of_ble_eq_true rfl) (Nat.le_of_ble_eq_true rfl) (fun z => absurd z (by decide)) ?_
  refine jm_putR (k := 6) (ki := 6) cf_X5 (Nat.le_of_ble_eq_true rfl) f_X5_22 d_X5_init_33 (fun _ => ⟨rfl, rfl⟩) rfl (Or.inr ⟨_, rfl⟩) rfl (fun z => absurd z (by decide)) ⟨by decide, by decide, is_12.2.2.1, is_12.2.2.2⟩ ?_
  refine jm_aloadn d_X5_init_36 rfl ?_
  refine jm_bipush (v := 10) d_X5_init_37 rfl (jm_okI (by decide) (by decide)) ?_
  refine jm_newa (at0 := .int) (ty := .int) (t := 2) (N := 10) rfl (Or.inl ⟨rfl, rfl⟩) ay_int d_X5_init_39 rfl (by decide) (by decide) (by decide) (Nat.le_of_ble_eq_true rfl) (Nat.le_of_ble_eq_true rfl) (fun z => absurd z (by decide)) ?_
  refine jm_putR (k := 7) (ki := 7) cf_X5 (Nat.le_of_ble_eq_true rfl) f_X5_25 d_X5_init_41 (fun _ => ⟨rfl, rfl⟩) rfl (Or.inr ⟨_, rfl⟩) rfl (fun z => absurd z (by decide)) ⟨by decide, by decide, is_12.2.2.1, is_12.2.2.2⟩ ?_
  refine jm_aloadn d_X5_init_44 rfl ?_
  refine jm_bipush (v := 10) d_X5_init_45 rfl (jm_okI (by decide) (by decide)) ?_
  refine jm_newa (at0 := .int) (ty := .int) (t := 2) (N := 10) rfl (Or.inl ⟨rfl, rfl⟩) ay_int d_X5_init_47 rfl (by decide) (by decide) (by decide) (Nat.le_of_ble_eq_true rfl) (Nat.le_of_ble_eq_true rfl) (fun z => absurd z (by decide)) ?_
  refine jm_putR (k := 8) (ki := 8) cf_X5 (Nat.le_of_ble_eq_true rfl) f_X5_28 d_X5_init_49 (fun _ => ⟨rfl, rfl⟩) rfl (Or.inr ⟨_, rfl⟩) rfl (fun z => absurd z (by decide)) ⟨by decide, by decide, is_12.2.2.1, is_12.2.2.2⟩ ?_
  refine jm_aloadn d_X5_init_52 rfl ?_
  refine jm_bipush (v := 10) d_X5_init_53 rfl (jm_okI (by decide) (by decide)) ?_
  refine jm_newa (at0 := .int) (ty := .int) (t := 2) (N := 10) rfl (Or.inl ⟨rfl, rfl⟩) ay_int d_X5_init_55 rfl (by decide) (by decide) (by decide) (Nat.le_of_ble_eq_true rfl) (Nat.le_of_ble_eq_true rfl) (fun z => absurd z (by decide)) ?_
  refine jm_putR (k := 9) (ki := 9) cf_X5 (Nat.le_of_ble_eq_true rfl) f_X5_31 d_X5_init_57 (fun _ => ⟨rfl, rfl⟩) rfl (Or.inr ⟨_, rfl⟩) rfl (fun z => absurd z (by decide)) ⟨by decide, by decide, is_12.2.2.1, is_12.2.2.2⟩ ?_
  refine jm_aloadn d_X5_init_60 rfl ?_
  refine jm_bipush (v := 6) d_X5_init_61 rfl (jm_okI (by decide) (by decide)) ?_
  refine jm_newa (at0 := .int) (ty := .int) (t := 2) (N := 6) rfl (Or.inl ⟨rfl, rfl⟩) ay_int d_X5_init_63 rfl (by decide) (by decide) (by decide) (Nat.le_of_ble_eq_true rfl) (Nat.le_of_ble_eq_true rfl) (fun z => absurd z (by decide)) ?_
  refine jm_putR (k := 12) (ki := 12) cf_X5 (Nat.le_of_ble_eq_true rfl) f_X5_34 d_X5_init_65 (fun _ => ⟨rfl, rfl⟩) rfl (Or.inr ⟨_, rfl⟩) rfl (fun z => absurd z (by decide)) ⟨by decide, by decide, is_12.2.2.1, is_12.2.2.2⟩ ?_
  refine jm_aloadn d_X5_init_68 rfl ?_
  refine jm_iconst (v := 1) d_X5_init_69 rfl (jm_okI (by decide) (by decide)) ?_
  refine jm_putI (k := 11) (ki := 11) cf_X5 (Nat.le_of_ble_eq_true rfl) f_X5_37 d_X5_init_70 (fun z => absurd z (by decide)) rfl rfl rfl (fun z => absurd z (by decide)) ⟨by decide, by decide, is_12.2.2.1, is_12.2.2.2⟩ ?_
  refine jm_aloadn d_X5_init_73 rfl ?_
  refine jm_getR (k := 12) (ki := 12) cf_X5 (Nat.le_of_ble_eq_true rfl) f_X5_34 d_X5_init_74 rfl rfl ⟨by decide, by decide, is_12.2.2.1, is_12.2.2.2⟩ ((jm_up_i (by decide)).trans jm_up_at) ?_
  refine jm_iconst (v := 0) d_X5_init_77 rfl (jm_okI (by decide) (by decide)) ?_
  refine jm_iconst (v := 2) d_X5_init_78 rfl (jm_okI (by decide) (by decide)) ?_
  refine jm_iastore d_X5_init_79 ⟨by decide, by decide, by decide +kernel, by decide, by decide +kernel⟩ ?_
  exact jm_ret (o := none) d_X5_init_80 rfl ⟨(Nat.le_of_ble_eq_true rfl), (Nat.le_of_ble_eq_true rfl)⟩ jm_r_V h rfl
def km_X5_22 (μ : jm_M) : jm_M := (jm_up (jm_up (jm_up (jm_new (jm_up (jm_new (jm_up (jm_new (jm_up (jm_new (jm_up (jm_new (jm_up (jm_new (jm_up (jm_new (jm_up (jm_new μ 23) 22 2 ((23 : Nat) : Int)) 24) 22 3 ((24 : Nat) : Int)) 25) 22 5 ((25 : Nat) : Int)) 26) 22 6 ((26 : Nat) : Int)) 27) 22 7 ((27 : Nat) : Int)) 28) 22 8 ((28 : Nat) : Int)) 29) 22 9 ((29 : Nat) : Int)) 30) 22 12 ((30 : Nat) : Int)) 22 11 1) ((30 : Nat) : Int) 0 2)
theorem ci_X5_22 {E : jm_E} {d : Nat} {μ : jm_M} {Q : Option jm_V → jm_M → Prop} (h : Q none (km_X5_22 μ)) : jm_Cl E m_X5_init (d + 1) 23 31 8 72 [jm_R ((22 : Nat) : Int)] μ Q := by
  refine jm_Cl.of2 (by decide +kernel) (L0 := [some (jm_R ((22 : Nat) : Int))]) rfl (Nat.le_of_ble_eq_true rfl) (fun _ => ?_)
  refine jm_aloadn d_X5_init_0 rfl ?_
  refine jm_objInit l_X5_3 oj_1 oj_2 d_X5_init_1 (by decide) (Nat.le_of_ble_eq_true rfl) ?_
  refine jm_aloadn d_X5_init_4 rfl ?_
  refine jm_bipush (v := 8) d_X5_init_5 rfl (jm_okI (by decide) (by decide)) ?_
  refine jm_newa (at0 := .long) (ty := .long) (t := 3) (N := 8) rfl (Or.inr (Or.inl ⟨rfl, rfl⟩)) ay_long d_X5_init_7 rfl (by decide) (by decide) (by decide) (Nat.le_of_ble_eq_true rfl) (Nat.le_of_ble_eq_true rfl) (fun z => absurd z (by decide)) ?_
  refine jm_putR (k := 2) (ki := 2) cf_X5 (Nat.le_of_ble_eq_true rfl) f_X5_11 d_X5_init_9 (fun _ => ⟨rfl, rfl⟩) rfl (Or.inr ⟨_, rfl⟩) rfl (fun z => absurd z (by decide)) ⟨by decide, by decide, is_22.2.2.1, is_22.2.2.2⟩ ?_
  refine jm_aloadn d_X5_init_12 rfl ?_
  refine jm_bipush (v := 8) d_X5_init_13 rfl (jm_okI (by decide) (by decide)) ?_
  refine jm_newa (at0 := .int) (ty := .int) (t := 2) (N := 8) rfl (Or.inl ⟨rfl, rfl⟩) ay_int d_X5_init_15 rfl (by decide) (by decide) (by decide) (Nat.le_of_ble_eq_true rfl) (Nat.le_of_ble_eq_true rfl) (fun z => absurd z (by decide)) ?_
  refine jm_putR (k := 3) (ki := 3) cf_X5 (Nat.le_of_ble_eq_true rfl) f_X5_15 d_X5_init_17 (fun _ => ⟨rfl, rfl⟩) rfl (Or.inr ⟨_, rfl⟩) rfl (fun z => absurd z (by decide)) ⟨by decide, by decide, is_22.2.2.1, is_22.2.2.2⟩ ?_
  refine jm_aloadn d_X5_init_20 rfl ?_
  refine jm_bipush (v := 10) d_X5_init_21 rfl (jm_okI (by decide) (by decide)) ?_
  refine jm_newa (at0 := .long) (ty := .long) (t := 3) (N := 10) rfl (Or.inr (Or.inl ⟨rfl, rfl⟩)) ay_long d_X5_init_23 rfl (by decide) (by decide) (by decide) (Nat.le_of_ble_eq_true rfl) (Nat.le_of_ble_eq_true rfl) (fun z => absurd z (by decide)) ?_
  refine jm_putR (k := 5) (ki := 5) cf_X5 (Nat.le_of_ble_eq_true rfl) f_X5_19 d_X5_init_25 (fun _ => ⟨rfl, rfl⟩) rfl (Or.inr ⟨_, rfl⟩) rfl (fun z => absurd z (by decide)) ⟨by decide, by decide, is_22.2.2.1, is_22.2.2.2⟩ ?_
  refine jm_aloadn d_X5_init_28 rfl ?_
  refine jm_bipush (v := 10) d_X5_init_29 rfl (jm_okI (by decide) (by decide)) ?_
  refine jm_newa (at0 := .int) (ty := .int) (t := 2) (N := 10) rfl (Or.inl ⟨rfl, rfl⟩) ay_int d_X5_init_31 rfl (by decide) (by decide) (by decide) (Nat.le_of_ble_eq_true rfl) (Nat.le_of_ble_eq_true rfl) (fun z => absurd z (by decide)) ?_
  refine jm_putR (k := 6) (ki := 6) cf_X5 (Nat.le_of_ble_eq_true rfl) f_X5_22 d_X5_init_33 (fun _ => ⟨rfl, rfl⟩) rfl (Or.inr ⟨_, rfl⟩) rfl (fun z => absurd z (by decide)) ⟨by decide, by decide, is_22.2.2.1, is_22.2.2.2⟩ ?_
  refine jm_aloadn d_X5_init_36 rfl ?_
  refine jm_bipush (v := 10) d_X5_init_37 rfl (jm_okI (by decide) (by decide)) ?_
  refine jm_newa (at0 := .int) (ty := .int) (t := 2) (N := 10) rfl (Or.inl ⟨rfl, rfl⟩) ay_int d_X5_init_39 rfl (by decide) (by decide) (by decide) (Nat.le_of_ble_eq_true rfl) (Nat.le_of_ble_eq_true rfl) (fun z => absurd z (by decide)) ?_
  refine jm_putR (k := 7) (ki := 7) cf_X5 (Nat.le_of_ble_eq_true rfl) f_X5_25 d_X5_init_41 (fun _ => ⟨rfl, rfl⟩) rfl (Or.inr ⟨_, rfl⟩) rfl (fun z => absurd z (by decide)) ⟨by decide, by decide, is_22.2.2.1, is_22.2.2.2⟩ ?_
  refine jm_aloadn d_X5_init_44 rfl ?_
  refine jm_bipush (v := 10) d_X5_init_45 rfl (jm_okI (by decide) (by decide)) ?_
  refine jm_newa (at0 := .int) (ty := .int) (t := 2) (N := 10) rfl (Or.inl ⟨rfl, rfl⟩) ay_int d_X5_init_47 rfl (by decide) (by decide) (by decide) (Nat.le_of_ble_eq_true rfl) (Nat.le_of_ble_eq_true rfl) (fun z => absurd z (by decide)) ?_
  refine jm_putR (k := 8) (ki := 8) cf_X5 (Nat.le_of_ble_eq_true rfl) f_X5_28 d_X5_init_49 (fun _ => ⟨rfl, rfl⟩) rfl (Or.inr ⟨_, rfl⟩) rfl (fun z => absurd z (by decide)) ⟨by decide, by decide, is_22.2.2.1, is_22.2.2.2⟩ ?_
  refine jm_aloadn d_X5_init_52 rfl ?_
  refine jm_bipush (v := 10) d_X5_init_53 rfl (jm_okI (by decide) (by decide)) ?_
  refine jm_newa (at0 := .int) (ty := .int) (t := 2) (N := 10) rfl (Or.inl ⟨rfl, rfl⟩) ay_int d_X5_init_55 rfl (by decide) (by decide) (by decide) (Nat.le_of_ble_eq_true rfl) (Nat.le_of_ble_eq_true rfl) (fun z => absurd z (by decide)) ?_
  refine jm_putR (k := 9) (ki := 9) cf_X5 (Nat.le_of_ble_eq_true rfl) f_X5_31 d_X5_init_57 (fun _ => ⟨rfl, rfl⟩) rfl (Or.inr ⟨_, rfl⟩) rfl (fun z => absurd z (by decide)) ⟨by decide, by decide, is_22.2.2.1, is_22.2.2.2⟩ ?_
  refine jm_aloadn d_X5_init_60 rfl ?_
  refine jm_bipush (v := 6) d_X5_init_61 rfl (jm_okI (by decide) (by decide)) ?_
  refine jm_newa (at0 := .int) (ty := .int) (t := 2) (N := 6) rfl (Or.inl ⟨rfl, rfl⟩) ay_int d_X5_init_63 rfl (by decide) (by decide) (by decide) (Nat.le_of_ble_eq_true rfl) (Nat.le_of_ble_eq_true rfl) (fun z => absurd z (by decide)) ?_
  refine jm_putR (k := 12) (ki := 12) cf_X5 (Nat.le_of_ble_eq_true rfl) f_X5_34 d_X5_init_65 (fun _ => ⟨rfl, rfl⟩) rfl (Or.inr ⟨_, rfl⟩) rfl (fun z => absurd z (by decide)) ⟨by decide, by decide, is_22.2.2.1, is_22.2.2.2⟩ ?_
  refine jm_aloadn d_X5_init_68 rfl ?_
  refine jm_iconst (v := 1) d_X5_init_69 rfl (jm_okI (by decide) (by decide)) ?_
  refine jm_putI (k := 11) (ki := 11) cf_X5 (Nat.le_of_ble_eq_true rfl) f_X5_37 d_X5_init_70 (fun z => absurd z (by decide)) rfl rfl rfl (fun z => absurd z (by decide)) ⟨by decide, by decide, is_22.2.2.1, is_22.2.2.2⟩ ?_
  refine jm_aloadn d_X5_init_73 rfl ?_
  refine jm_getR (k := 12) (ki := 12) cf_X5 (Nat.le_of_ble_eq_true rfl) f_X5_34 d_X5_init_74 rfl rfl ⟨by decide, by decide, is_22.2.2.1, is_22.2.2.2⟩ ((jm_up_i (by decide)).trans jm_up_at) ?_
  refine jm_iconst (v := 0) d_X5_init_77 rfl (jm_okI (by decide) (by decide)) ?_
  refine jm_iconst (v := 2) d_X5_init_78 rfl (jm_okI (by decide) (by decide)) ?_
  refine jm_iastore d_X5_init_79 ⟨by decide, by decide, by decide +kernel, by decide, by decide +kernel⟩ ?_
  exact jm_ret (o := none) d_X5_init_80 rfl ⟨(Nat.le_of_ble_eq_true rfl), (Nat.le_of_ble_eq_true rfl)⟩ jm_r_V h rfl
def km_X6_21 (μ : jm_M) : jm_M := (jm_up (jm_new (jm_up (jm_new (jm_up (jm_new (jm_up (jm_new (jm_up (jm_new (jm_up (jm_new (jm_up (km_X5_22 (jm_new μ 22)) 21 0 ((22 : Nat) : Int)) 31) 21 4 ((31 : Nat) : Int)) 32) 21 5 ((32 : Nat) : Int)) 33) 21 6 ((33 : Nat) : Int)) 34) 21 7 ((34 : Nat) : Int)) 35) 21 8 ((35 : Nat) : Int)) 36) 21 9 ((36 : Nat) : Int))
theorem ci_X6_21 {E : jm_E} {d : Nat} {μ : jm_M} {Q : Option jm_V → jm_M → Prop} (h : Q none (km_X6_21 μ)) : jm_Cl E m_X6_init (d + 2) 22 37 15 2488 [jm_R ((21 : Nat) : Int), jm_I 400] μ Q := by
  refine jm_Cl.of2 (by decide +kernel) (L0 := [some (jm_R ((21 : Nat) : Int)), some (jm_I 400), none]) rfl (Nat.le_of_ble_eq_true rfl) (fun _ => ?_)
  refine jm_aloadn d_X6_init_0 rfl ?_
  refine jm_objInit l_X6_3 oj_1 oj_2 d_X6_init_1 (by decide) (Nat.le_of_ble_eq_true rfl) ?_
  refine jm_iloadn d_X6_init_4 rfl ?_
  refine jm_iconst (v := 0) d_X6_init_5 rfl (jm_okI (by decide) (by decide)) ?_
  refine jm_mmax l_X6_9 d_X6_init_6 ⟨(Nat.le_of_ble_eq_true rfl), (Nat.le_of_ble_eq_true rfl)⟩ (Nat.le_of_ble_eq_true rfl) ?_
  refine jm_istoren (L' := [some (jm_R _), some (jm_I _), some (jm_I _)]) d_X6_init_9 (Nat.le_of_ble_eq_true rfl) rfl ?_
  refine jm_aloadn d_X6_init_10 rfl ?_
  refine jm_newo tyX5 cf_X5.1 tyX5_ok rfl rfl hz_X5 cl_X6_15 it_X5 in_X5 d_X6_init_11 rfl (by decide) (Nat.le_of_ble_eq_true rfl) (Nat.le_of_ble_eq_true rfl) (fun z => absurd z (by decide)) ?_
  refine jm_dup rfl d_X6_init_14 ?_
  refine jm_invI (n1 := 31) (mc := 8) (ms := 72) (av := []) w_X5_init (Or.inl l_X6_17) d_X6_init_15 rfl (by decide) ⟨(Nat.le_of_ble_eq_true rfl), (Nat.le_of_ble_eq_true rfl)⟩ (Nat.le_of_ble_eq_true rfl) rfl ?_
  refine ci_X5_22 (d := d) (fun _ => ?_)
  refine jm_putR (k := 0) (ki := 0) cf_X6 (Nat.le_of_ble_eq_true rfl) f_X6_18 d_X6_init_18 (fun z => absurd z (by decide)) rfl (Or.inl ⟨_, rfl⟩) rfl (fun z => absurd z (by decide)) ⟨by decide, by decide, is_21.2.2.1, is_21.2.2.2⟩ ?_
  refine jm_aloadn d_X6_init_21 rfl ?_
  refine jm_iloadn d_X6_init_22 rfl ?_
  refine jm_newa (at0 := .int) (ty := .int) (t := 2) (N := 400) rfl (Or.inl ⟨rfl, rfl⟩) ay_int d_X6_init_23 rfl (by decide) (by decide) (by decide) (Nat.le_of_ble_eq_true rfl) (Nat.le_of_ble_eq_true rfl) (fun z => absurd z (by decide)) ?_
  refine jm_putR (k := 4) (ki := 4) cf_X6 (Nat.le_of_ble_eq_true rfl) f_X6_24 d_X6_init_25 (fun _ => ⟨rfl, rfl⟩) rfl (Or.inr ⟨_, rfl⟩) rfl (fun z => absurd z (by decide)) ⟨by decide, by decide, is_21.2.2.1, is_21.2.2.2⟩ ?_
  refine jm_aloadn d_X6_init_28 rfl ?_
  refine jm_iloadn d_X6_init_29 rfl ?_
  refine jm_newa (at0 := .int) (ty := .int) (t := 2) (N := 400) rfl (Or.inl ⟨rfl, rfl⟩) ay_int d_X6_init_30 rfl (by decide) (by decide) (by decide) (Nat.le_of_ble_eq_true rfl) (Nat.le_of_ble_eq_true rfl) (fun z => absurd z (by decide)) ?_
  refine jm_putR (k := 5) (ki := 5) cf_X6 (Nat.le_of_ble_eq_true rfl) f_X6_28 d_X6_init_32 (fun _ => ⟨rfl, rfl⟩) rfl (Or.inr ⟨_, rfl⟩) rfl (fun z => absurd z (by decide)) ⟨by decide, by decide, is_21.2.2.1, is_21.2.2.2⟩ ?_
  refine jm_aloadn d_X6_init_35 rfl ?_
  refine jm_iloadn d_X6_init_36 rfl ?_
  refine jm_newa (at0 := .int) (ty := .int) (t := 2) (N := 400) rfl (Or.inl ⟨rfl, rfl⟩) ay_int d_X6_init_37 rfl (by decide) (by decide) (by decide) (Nat.le_of_ble_eq_true rfl) (Nat.le_of_ble_eq_true rfl) (fun z => absurd z (by decide)) ?_
  refine jm_putR (k := 6) (ki := 6) cf_X6 (Nat.le_of_ble_eq_true rfl) f_X6_31 d_X6_init_39 (fun _ => ⟨rfl, rfl⟩) rfl (Or.inr ⟨_, rfl⟩) rfl (fun z => absurd z (by decide)) ⟨by decide, by decide, is_21.2.2.1, is_21.2.2.2⟩ ?_
  refine jm_aloadn d_X6_init_42 rfl ?_
  refine jm_iloadn d_X6_init_43 rfl ?_
  refine jm_newa (at0 := .int) (ty := .int) (t := 2) (N := 400) rfl (Or.inl ⟨rfl, rfl⟩) ay_int d_X6_init_44 rfl (by decide) (by decide) (by decide) (Nat.le_of_ble_eq_true rfl) (Nat.le_of_ble_eq_true rfl) (fun z => absurd z (by decide)) ?_
  refine jm_putR (k := 7) (ki := 7) cf_X6 (Nat.le_of_ble_eq_true rfl) f_X6_34 d_X6_init_46 (fun _ => ⟨rfl, rfl⟩) rfl (Or.inr ⟨_, rfl⟩) rfl (fun z => absurd z (by decide)) ⟨by decide, by decide, is_21.2.2.1, is_21.2.2.2⟩ ?_
  refine jm_aloadn d_X6_init_49 rfl ?_
  refine jm_iloadn d_X6_init_50 rfl ?_
  refine jm_newa (at0 := .int) (ty := .int) (t := 2) (N := 400) rfl (Or.inl ⟨rfl, rfl⟩) ay_int d_X6_init_51 rfl (by decide) (by decide) (by decide) (Nat.le_of_ble_eq_true rfl) (Nat.le_of_ble_eq_true rfl) (fun z => absurd z (by decide)) ?_
  refine jm_putR (k := 8) (ki := 8) cf_X6 (Nat.le_of_ble_eq_true rfl) f_X6_37 d_X6_init_53 (fun _ => ⟨rfl, rfl⟩) rfl (Or.inr ⟨_, rfl⟩) rfl (fun z => absurd z (by decide)) ⟨by decide, by decide, is_21.2.2.1, is_21.2.2.2⟩ ?_
  refine jm_aloadn d_X6_init_56 rfl ?_
  refine jm_iloadn d_X6_init_57 rfl ?_
  refine jm_newa (at0 := .int) (ty := .int) (t := 2) (N := 400) rfl (Or.inl ⟨rfl, rfl⟩) ay_int d_X6_init_58 rfl (by decide) (by decide) (by decide) (Nat.le_of_ble_eq_true rfl) (Nat.le_of_ble_eq_true rfl) (fun z => absurd z (by decide)) ?_
  refine jm_putR (k := 9) (ki := 9) cf_X6 (Nat.le_of_ble_eq_true rfl) f_X6_40 d_X6_init_60 (fun _ => ⟨rfl, rfl⟩) rfl (Or.inr ⟨_, rfl⟩) rfl (fun z => absurd z (by decide)) ⟨by decide, by decide, is_21.2.2.1, is_21.2.2.2⟩ ?_
  exact jm_ret (o := none) d_X6_init_63 rfl ⟨(Nat.le_of_ble_eq_true rfl), (Nat.le_of_ble_eq_true rfl)⟩ jm_r_V h rfl
def km_X5_38 (μ : jm_M) : jm_M := (jm_up (jm_up (jm_up (jm_new (jm_up (jm_new (jm_up (jm_new (jm_up (jm_new (jm_up (jm_new (jm_up (jm_new (jm_up (jm_new (jm_up (jm_new μ 39) 38 2 ((39 : Nat) : Int)) 40) 38 3 ((40 : Nat) : Int)) 41) 38 5 ((41 : Nat) : Int)) 42) 38 6 ((42 : Nat) : Int)) 43) 38 7 ((43 : Nat) : Int)) 44) 38 8 ((44 : Nat) : Int)) 45) 38 9 ((45 : Nat) : Int)) 46) 38 12 ((46 : Nat) : Int)) 38 11 1) ((46 : Nat) : Int) 0 2)
theorem ci_X5_38 {E : jm_E} {d : Nat} {μ : jm_M} {Q : Option jm_V → jm_M → Prop} (h : Q none (km_X5_38 μ)) : jm_Cl E m_X5_init (d + 1) 39 47 8 72 [jm_R ((38 : Nat) : Int)] μ Q := by
  refine jm_Cl.of2 (by decide +kernel) (L0 := [some (jm_R ((38 : Nat) : Int))]) rfl (Nat.le_of_ble_eq_true rfl) (fun _ => ?_)
  refine jm_aloadn d_X5_init_0 rfl ?_
  refine jm_objInit l_X5_3 oj_1 oj_2 d_X5_init_1 (by decide) (Nat.le_of_ble_eq_true rfl) ?_
  refine jm_aloadn d_X5_init_4 rfl ?_
  refine jm_bipush (v := 8) d_X5_init_5 rfl (jm_okI (by decide) (by decide)) ?_
  refine jm_newa (at0 := .long) (ty := .long) (t := 3) (N := 8) rfl (Or.inr (Or.inl ⟨rfl, rfl⟩)) ay_long d_X5_init_7 rfl (by decide) (by decide) (by decide) (Nat.le_of_ble_eq_true rfl) (Nat.le_of_ble_eq_true rfl) (fun z => absurd z (by decide)) ?_
  refine jm_putR (k := 2) (ki := 2) cf_X5 (Nat.le_of_ble_eq_true rfl) f_X5_11 d_X5_init_9 (fun _ => ⟨rfl, rfl⟩) rfl (Or.inr ⟨_, rfl⟩) rfl (fun z => absurd z (by decide)) ⟨by decide, by decide, is_38.2.2.1, is_38.2.2.2⟩ ?_
  refine jm_aloadn d_X5_init_12 rfl ?_
  refine jm_bipush (v := 8) d_X5_init_13 rfl (jm_okI (by decide) (by decide)) ?_
  refine jm_newa (at0 := .int) (ty := .int) (t := 2) (N := 8) rfl (Or.inl ⟨rfl, rfl⟩) ay_int d_X5_init_15 rfl (by decide) (by decide) (by decide) (Nat.le_of_ble_eq_true rfl) (Nat.le_of_ble_eq_true rfl) (fun z => absurd z (by decide)) ?_
  refine jm_putR (k := 3) (ki := 3) cf_X5 (Nat.le_of_ble_eq_true rfl) f_X5_15 d_X5_init_17 (fun _ => ⟨rfl, rfl⟩) rfl (Or.inr ⟨_, rfl⟩) rfl (fun z => absurd z (by decide)) ⟨by decide, by decide, is_38.2.2.1, is_38.2.2.2⟩ ?_
  refine jm_aloadn d_X5_init_20 rfl ?_
  refine jm_bipush (v := 10) d_X5_init_21 rfl (jm_okI (by decide) (by decide)) ?_
  refine jm_newa (at0 := .long) (ty := .long) (t := 3) (N := 10) rfl (Or.inr (Or.inl ⟨rfl, rfl⟩)) ay_long d_X5_init_23 rfl (by decide) (by decide) (by decide) (Nat.le_of_ble_eq_true rfl) (Nat.le_of_ble_eq_true rfl) (fun z => absurd z (by decide)) ?_
  refine jm_putR (k := 5) (ki := 5) cf_X5 (Nat.le_of_ble_eq_true rfl) f_X5_19 d_X5_init_25 (fun _ => ⟨rfl, rfl⟩) rfl (Or.inr ⟨_, rfl⟩) rfl (fun z => absurd z (by decide)) ⟨by decide, by decide, is_38.2.2.1, is_38.2.2.2⟩ ?_
  refine jm_aloadn d_X5_init_28 rfl ?_
  refine jm_bipush (v := 10) d_X5_init_29 rfl (jm_okI (by decide) (by decide)) ?_
  refine jm_newa (at0 := .int) (ty := .int) (t := 2) (N := 10) rfl (Or.inl ⟨rfl, rfl⟩) ay_int d_X5_init_31 rfl (by decide) (by decide) (by decide) (Nat.le_of_ble_eq_true rfl) (Nat.le_of_ble_eq_true rfl) (fun z => absurd z (by decide)) ?_
  refine jm_putR (k := 6) (ki := 6) cf_X5 (Nat.le_of_ble_eq_true rfl) f_X5_22 d_X5_init_33 (fun _ => ⟨rfl, rfl⟩) rfl (Or.inr ⟨_, rfl⟩) rfl (fun z => absurd z (by decide)) ⟨by decide, by decide, is_38.2.2.1, is_38.2.2.2⟩ ?_
  refine jm_aloadn d_X5_init_36 rfl ?_
  refine jm_bipush (v := 10) d_X5_init_37 rfl (jm_okI (by decide) (by decide)) ?_
  refine jm_newa (at0 := .int) (ty := .int) (t := 2) (N := 10) rfl (Or.inl ⟨rfl, rfl⟩) ay_int d_X5_init_39 rfl (by decide) (by decide) (by decide) (Nat.le_of_ble_eq_true rfl) (Nat.le_of_ble_eq_true rfl) (fun z => absurd z (by decide)) ?_
  refine jm_putR (k := 7) (ki := 7) cf_X5 (Nat.le_of_ble_eq_true rfl) f_X5_25 d_X5_init_41 (fun _ => ⟨rfl, rfl⟩) rfl (Or.inr ⟨_, rfl⟩) rfl (fun z => absurd z (by decide)) ⟨by decide, by decide, is_38.2.2.1, is_38.2.2.2⟩ ?_
  refine jm_aloadn d_X5_init_44 rfl ?_
  refine jm_bipush (v := 10) d_X5_init_45 rfl (jm_okI (by decide) (by decide)) ?_
  refine jm_newa (at0 := .int) (ty := .int) (t := 2) (N := 10) rfl (Or.inl ⟨rfl, rfl⟩) ay_int d_X5_init_47 rfl (by decide) (by decide) (by decide) (Nat.le_of_ble_eq_true rfl) (Nat.le_of_ble_eq_true rfl) (fun z => absurd z (by decide)) ?_
  refine jm_putR (k := 8) (ki := 8) cf_X5 (Nat.le_of_ble_eq_true rfl) f_X5_28 d_X5_init_49 (fun _ => ⟨rfl, rfl⟩) rfl (Or.inr ⟨_, rfl⟩) rfl (fun z => absurd z (by decide)) ⟨by decide, by decide, is_38.2.2.1, is_38.2.2.2⟩ ?_
  refine jm_aloadn d_X5_init_52 rfl ?_
  refine jm_bipush (v := 10) d_X5_init_53 rfl (jm_okI (by decide) (by decide)) ?_
  refine jm_newa (at0 := .int) (ty := .int) (t := 2) (N := 10) rfl (Or.inl ⟨rfl, rfl⟩) ay_int d_X5_init_55 rfl (by decide) (by decide) (by decide) (Nat.le_of_ble_eq_true rfl) (Nat.le_of_ble_eq_true rfl) (fun z => absurd z (by decide)) ?_
  refine jm_putR (k := 9) (ki := 9) cf_X5 (Nat.le_of_ble_eq_true rfl) f_X5_31 d_X5_init_57 (fun _ => ⟨rfl, rfl⟩) rfl (Or.inr ⟨_, rfl⟩) rfl (fun z => absurd z (by decide)) ⟨by decide, by decide, is_38.2.2.1, is_38.2.2.2⟩ ?_
  refine jm_aloadn d_X5_init_60 rfl ?_
  refine jm_bipush (v := 6) d_X5_init_61 rfl (jm_okI (by decide) (by decide)) ?_
  refine jm_newa (at0 := .int) (ty := .int) (t := 2) (N := 6) rfl (Or.inl ⟨rfl, rfl⟩) ay_int d_X5_init_63 rfl (by decide) (by decide) (by decide) (Nat.le_of_ble_eq_true rfl) (Nat.le_of_ble_eq_true rfl) (fun z => absurd z (by decide)) ?_
  refine jm_putR (k := 12) (ki := 12) cf_X5 (Nat.le_of_ble_eq_true rfl) f_X5_34 d_X5_init_65 (fun _ => ⟨rfl, rfl⟩) rfl (Or.inr ⟨_, rfl⟩) rfl (fun z => absurd z (by decide)) ⟨by decide, by decide, is_38.2.2.1, is_38.2.2.2⟩ ?_
  refine jm_aloadn d_X5_init_68 rfl ?_
  refine jm_iconst (v := 1) d_X5_init_69 rfl (jm_okI (by decide) (by decide)) ?_
  refine jm_putI (k := 11) (ki := 11) cf_X5 (Nat.le_of_ble_eq_true rfl) f_X5_37 d_X5_init_70 (fun z => absurd z (by decide)) rfl rfl rfl (fun z => absurd z (by decide)) ⟨by decide, by decide, is_38.2.2.1, is_38.2.2.2⟩ ?_
  refine jm_aloadn d_X5_init_73 rfl ?_
  refine jm_getR (k := 12) (ki := 12) cf_X5 (Nat.le_of_ble_eq_true rfl) f_X5_34 d_X5_init_74 rfl rfl ⟨by decide, by decide, is_38.2.2.1, is_38.2.2.2⟩ ((jm_up_i (by decide)).trans jm_up_at) ?_
  refine jm_iconst (v := 0) d_X5_init_77 rfl (jm_okI (by decide) (by decide)) ?_
  refine jm_iconst (v := 2) d_X5_init_78 rfl (jm_okI (by decide) (by decide)) ?_
  refine jm_iastore d_X5_init_79 ⟨by decide, by decide, by decide +kernel, by decide, by decide +kernel⟩ ?_
  exact jm_ret (o := none) d_X5_init_80 rfl ⟨(Nat.le_of_ble_eq_true rfl), (Nat.le_of_ble_eq_true rfl)⟩ jm_r_V h rfl
def km_X6_37 (μ : jm_M) : jm_M := (jm_up (jm_new (jm_up (jm_new (jm_up (jm_new (jm_up (jm_new (jm_up (jm_new (jm_up (jm_new (jm_up (km_X5_38 (jm_new μ 38)) 37 0 ((38 : Nat) : Int)) 47) 37 4 ((47 : Nat) : Int)) 48) 37 5 ((48 : Nat) : Int)) 49) 37 6 ((49 : Nat) : Int)) 50) 37 7 ((50 : Nat) : Int)) 51) 37 8 ((51 : Nat) : Int)) 52) 37 9 ((52 : Nat) : Int))
theorem ci_X6_37 {E : jm_E} {d : Nat} {μ : jm_M} {Q : Option jm_V → jm_M → Prop} (h : Q none (km_X6_37 μ)) : jm_Cl E m_X6_init (d + 2) 38 53 15 2488 [jm_R ((37 : Nat) : Int), jm_I 400] μ Q := by
  refine jm_Cl.of2 (by decide +kernel) (L0 := [some (jm_R ((37 : Nat) : Int)), some (jm_I 400), none]) rfl (Nat.le_of_ble_eq_true rfl) (fun _ => ?_)
  refine jm_aloadn d_X6_init_0 rfl ?_
  refine jm_objInit l_X6_3 oj_1 oj_2 d_X6_init_1 (by decide) (Nat.le_of_ble_eq_true rfl) ?_
  refine jm_iloadn d_X6_init_4 rfl ?_
  refine jm_iconst (v := 0) d_X6_init_5 rfl (jm_okI (by decide) (by decide)) ?_
  refine jm_mmax l_X6_9 d_X6_init_6 ⟨(Nat.le_of_ble_eq_true rfl), (Nat.le_of_ble_eq_true rfl)⟩ (Nat.le_of_ble_eq_true rfl) ?_
  refine jm_istoren (L' := [some (jm_R _), some (jm_I _), some (jm_I _)]) d_X6_init_9 (Nat.le_of_ble_eq_true rfl) rfl ?_
  refine jm_aloadn d_X6_init_10 rfl ?_
  refine jm_newo tyX5 cf_X5.1 tyX5_ok rfl rfl hz_X5 cl_X6_15 it_X5 in_X5 d_X6_init_11 rfl (by decide) (Nat.le_of_ble_eq_true rfl) (Nat.le_of_ble_eq_true rfl) (fun z => absurd z (by decide)) ?_
  refine jm_dup rfl d_X6_init_14 ?_
  refine jm_invI (n1 := 47) (mc := 8) (ms := 72) (av := []) w_X5_init (Or.inl l_X6_17) d_X6_init_15 rfl (by decide) ⟨(Nat.le_of_ble_eq_true rfl), (Nat.le_of_ble_eq_true rfl)⟩ (Nat.le_of_ble_eq_true rfl) rfl ?_
  refine ci_X5_38 (d := d) (fun _ => ?_)
  refine jm_putR (k := 0) (ki := 0) cf_X6 (Nat.le_of_ble_eq_true rfl) f_X6_18 d_X6_init_18 (fun z => absurd z (by decide)) rfl (Or.inl ⟨_, rfl⟩) rfl (fun z => absurd z (by decide)) ⟨by decide, by decide, is_37.2.2.1, is_37.2.2.2⟩ ?_
  refine jm_aloadn d_X6_init_21 rfl ?_
  refine jm_iloadn d_X6_init_22 rfl ?_
  refine jm_newa (at0 := .int) (ty := .int) (t := 2) (N := 400) rfl (Or.inl ⟨rfl, rfl⟩) ay_int d_X6_init_23 rfl (by decide) (by decide) (by decide) (Nat.le_of_ble_eq_true rfl) (Nat.le_of_ble_eq_true rfl) (fun z => absurd z (by decide)) ?_
  refine jm_putR (k := 4) (ki := 4) cf_X6 (Nat.le_of_ble_eq_true rfl) f_X6_24 d_X6_init_25 (fun _ => ⟨rfl, rfl⟩) rfl (Or.inr ⟨_, rfl⟩) rfl (fun z => absurd z (by decide)) ⟨by decide, by decide, is_37.2.2.1, is_37.2.2.2⟩ ?_
  refine jm_aloadn d_X6_init_28 rfl ?_
  refine jm_iloadn d_X6_init_29 rfl ?_
  refine jm_newa (at0 := .int) (ty := .int) (t := 2) (N := 400) rfl (Or.inl ⟨rfl, rfl⟩) ay_int d_X6_init_30 rfl (by decide) (by decide) (by decide) (Nat.le_of_ble_eq_true rfl) (Nat.le_of_ble_eq_true rfl) (fun z => absurd z (by decide)) ?_
  refine jm_putR (k := 5) (ki := 5) cf_X6 (Nat.le_of_ble_eq_true rfl) f_X6_28 d_X6_init_32 (fun _ => ⟨rfl, rfl⟩) rfl (Or.inr ⟨_, rfl⟩) rfl (fun z => absurd z (by decide)) ⟨by decide, by decide, is_37.2.2.1, is_37.2.2.2⟩ ?_
  refine jm_aloadn d_X6_init_35 rfl ?_
  refine jm_iloadn d_X6_init_36 rfl ?_
  refine jm_newa (at0 := .int) (ty := .int) (t := 2) (N := 400) rfl (Or.inl ⟨rfl, rfl⟩) ay_int d_X6_init_37 rfl (by decide) (by decide) (by decide) (Nat.le_of_ble_eq_true rfl) (Nat.le_of_ble_eq_true rfl) (fun z => absurd z (by decide)) ?_
  refine jm_putR (k := 6) (ki := 6) cf_X6 (Nat.le_of_ble_eq_true rfl) f_X6_31 d_X6_init_39 (fun _ => ⟨rfl, rfl⟩) rfl (Or.inr ⟨_, rfl⟩) rfl (fun z => absurd z (by decide)) ⟨by decide, by decide, is_37.2.2.1, is_37.2.2.2⟩ ?_
  refine jm_aloadn d_X6_init_42 rfl ?_
  refine jm_iloadn d_X6_init_43 rfl ?_
  refine jm_newa (at0 := .int) (ty := .int) (t := 2) (N := 400) rfl (Or.inl ⟨rfl, rfl⟩) ay_int d_X6_init_44 rfl (by decide) (by decide) (by decide) (Nat.le_of_ble_eq_true rfl) (Nat.le_of_ble_eq_true rfl) (fun z => absurd z (by decide)) ?_
  refine jm_putR (k := 7) (ki := 7) cf_X6 (Nat.le_of_ble_eq_true rfl) f_X6_34 d_X6_init_46 (fun _ => ⟨rfl, rfl⟩) rfl (Or.inr ⟨_, rfl⟩) rfl (fun z => absurd z (by decide)) ⟨by decide, by decide, is_37.2.2.1, is_37.2.2.2⟩ ?_
  refine jm_aloadn d_X6_init_49 rfl ?_
  refine jm_iloadn d_X6_init_50 rfl ?_
  refine jm_newa (at0 := .int) (ty := .int) (t := 2) (N := 400) rfl (Or.inl ⟨rfl, rfl⟩) ay_int d_X6_init_51 rfl (by decide) (by decide) (by decide) (Nat.le_of_ble_eq_true rfl) (Nat.le_of_ble_eq_true rfl) (fun z => absurd z (by decide)) ?_
  refine jm_putR (k := 8) (ki := 8) cf_X6 (Nat.le_of_ble_eq_true rfl) f_X6_37 d_X6_init_53 (fun _ => ⟨rfl, rfl⟩) rfl (Or.inr ⟨_, rfl⟩) rfl (fun z => absurd z (by decide)) ⟨by decide, by decide, is_37.2.2.1, is_37.2.2.2⟩ ?_
  refine jm_aloadn d_X6_init_56 rfl ?_
  refine jm_iloadn d_X6_init_57 rfl ?_
  refine jm_newa (at0 := .int) (ty := .int) (t := 2) (N := 400) rfl (Or.inl ⟨rfl, rfl⟩) ay_int d_X6_init_58 rfl (by decide) (by decide) (by decide) (Nat.le_of_ble_eq_true rfl) (Nat.le_of_ble_eq_true rfl) (fun z => absurd z (by decide)) ?_
  refine jm_putR (k := 9) (ki := 9) cf_X6 (Nat.le_of_ble_eq_true rfl) f_X6_40 d_X6_init_60 (fun _ => ⟨rfl, rfl⟩) rfl (Or.inr ⟨_, rfl⟩) rfl (fun z => absurd z (by decide)) ⟨by decide, by decide, is_37.2.2.1, is_37.2.2.2⟩ ?_
  exact jm_ret (o := none) d_X6_init_63 rfl ⟨(Nat.le_of_ble_eq_true rfl), (Nat.le_of_ble_eq_true rfl)⟩ jm_r_V h rfl
def km_X5_54 (μ : jm_M) : jm_M := (jm_up (jm_up (jm_up (jm_new (jm_up (jm_new (jm_up (jm_new (jm_up (jm_new (jm_up (jm_new (jm_up (jm_new (jm_up (jm_new (jm_up (jm_new μ 55) 54 2 ((55 : Nat) : Int)) 56) 54 3 ((56 : Nat) : Int)) 57) 54 5 ((57 : Nat) : Int)) 58) 54 6 ((58 : Nat) : Int)) 59) 54 7 ((59 : Nat) : Int)) 60) 54 8 ((60 : Nat) : Int)) 61) 54 9 ((61 : Nat) : Int)) 62) 54 12 ((62 : Nat) : Int)) 54 11 1) ((62 : Nat) : Int) 0 2)
theorem ci_X5_54 {E : jm_E} {d : Nat} {μ : jm_M} {Q : Option jm_V → jm_M → Prop} (h : Q none (km_X5_54 μ)) : jm_Cl E m_X5_init (d + 1) 55 63 8 72 [jm_R ((54 : Nat) : Int)] μ Q := by
  refine jm_Cl.of2 (by decide +kernel) (L0 := [some (jm_R ((54 : Nat) : Int))]) rfl (Nat.le_of_ble_eq_true rfl) (fun _ => ?_)
  refine jm_aloadn d_X5_init_0 rfl ?_
  refine jm_objInit l_X5_3 oj_1 oj_2 d_X5_init_1 (by decide) (Nat.le_of_ble_eq_true rfl) ?_
  refine jm_aloadn d_X5_init_4 rfl ?_
  refine jm_bipush (v := 8) d_X5_init_5 rfl (jm_okI (by decide) (by decide)) ?_
  refine jm_newa (at0 := .long) (ty := .long) (t := 3) (N := 8) rfl (Or.inr (Or.inl ⟨rfl, rfl⟩)) ay_long d_X5_init_7 rfl (by decide) (by decide) (by decide) (Nat.le_of_ble_eq_true rfl) (Nat.le_of_ble_eq_true rfl) (fun z => absurd z (by decide)) ?_
  refine jm_putR (k := 2) (ki := 2) cf_X5 (Nat.le_of_ble_eq_true rfl) f_X5_11 d_X5_init_9 (fun _ => ⟨rfl, rfl⟩) rfl (Or.inr ⟨_, rfl⟩) rfl (fun z => absurd z (by decide)) ⟨by decide, by decide, is_54.2.2.1, is_54.2.2.2⟩ ?_
  refine jm_aloadn d_X5_init_12 rfl ?_
  refine jm_bipush (v := 8) d_X5_init_13 rfl (jm_okI (by decide) (by decide)) ?_
  refine jm_newa (at0 := .int) (ty := .int) (t := 2) (N := 8) rfl (Or.inl ⟨rfl, rfl⟩) ay_int d_X5_init_15 rfl (by decide) (by decide) (by decide) (Nat.le_of_ble_eq_true rfl) (Nat.le_of_ble_eq_true rfl) (fun z => absurd z (by decide)) ?_
  refine jm_putR (k := 3) (ki := 3) cf_X5 (Nat.le_of_ble_eq_true rfl) f_X5_15 d_X5_init_17 (fun _ => ⟨rfl, rfl⟩) rfl (Or.inr ⟨_, rfl⟩) rfl (fun z => absurd z (by decide)) ⟨by decide, by decide, is_54.2.2.1, is_54.2.2.2⟩ ?_
  refine jm_aloadn d_X5_init_20 rfl ?_
  refine jm_bipush (v := 10) d_X5_init_21 rfl (jm_okI (by decide) (by decide)) ?_
  refine jm_newa (at0 := .long) (ty := .long) (t := 3) (N := 10) rfl (Or.inr (Or.inl ⟨rfl, rfl⟩)) ay_long d_X5_init_23 rfl (by decide) (by decide) (by decide) (Nat.le_of_ble_eq_true rfl) (Nat.le_of_ble_eq_true rfl) (fun z => absurd z (by decide)) ?_
  refine jm_putR (k := 5) (ki := 5) cf_X5 (Nat.le_of_ble_eq_true rfl) f_X5_19 d_X5_init_25 (fun _ => ⟨rfl, rfl⟩) rfl (Or.inr ⟨_, rfl⟩) rfl (fun z => absurd z (by decide)) ⟨by decide, by decide, is_54.2.2.1, is_54.2.2.2⟩ ?_
  refine jm_aloadn d_X5_init_28 rfl ?_
  refine jm_bipush (v := 10) d_X5_init_29 rfl (jm_okI (by decide) (by decide)) ?_
  refine jm_newa (at0 := .int) (ty := .int) (t := 2) (N := 10) rfl (Or.inl ⟨rfl, rfl⟩) ay_int d_X5_init_31 rfl (by decide) (by decide) (by decide) (Nat.le_of_ble_eq_true rfl) (Nat.le_of_ble_eq_true rfl) (fun z => absurd z (by decide)) ?_
  refine jm_putR (k := 6) (ki := 6) cf_X5 (Nat.le_of_ble_eq_true rfl) f_X5_22 d_X5_init_33 (fun _ => ⟨rfl, rfl⟩) rfl (Or.inr ⟨_, rfl⟩) rfl (fun z => absurd z (by decide)) ⟨by decide, by decide, is_54.2.2.1, is_54.2.2.2⟩ ?_
  refine jm_aloadn d_X5_init_36 rfl ?_
  refine jm_bipush (v := 10) d_X5_init_37 rfl (jm_okI (by decide) (by decide)) ?_
  refine jm_newa (at0 := .int) (ty := .int) (t := 2) (N := 10) rfl (Or.inl ⟨rfl, rfl⟩) ay_int d_X5_init_39 rfl (by decide) (by decide) (by decide) (Nat.le_of_ble_eq_true rfl) (Nat.le_of_ble_eq_true rfl) (fun z => absurd z (by decide)) ?_
  refine jm_putR (k := 7) (ki := 7) cf_X5 (Nat.le_of_ble_eq_true rfl) f_X5_25 d_X5_init_41 (fun _ => ⟨rfl, rfl⟩) rfl (Or.inr ⟨_, rfl⟩) rfl (fun z => absurd z (by decide)) ⟨by decide, by decide, is_54.2.2.1, is_54.2.2.2⟩ ?_
  refine jm_aloadn d_X5_init_44 rfl ?_
  refine jm_bipush (v := 10) d_X5_init_45 rfl (jm_okI (by decide) (by decide)) ?_
  refine jm_newa (at0 := .int) (ty := .int) (t := 2) (N := 10) rfl (Or.inl ⟨rfl, rfl⟩) ay_int d_X5_init_47 rfl (by decide) (by decide) (by decide) (Nat.le_of_ble_eq_true rfl) (Nat.le_of_ble_eq_true rfl) (fun z => absurd z (by decide)) ?_
  refine jm_putR (k := 8) (ki := 8) cf_X5 (Nat.le_of_ble_eq_true rfl) f_X5_28 d_X5_init_49 (fun _ => ⟨rfl, rfl⟩) rfl (Or.inr ⟨_, rfl⟩) rfl (fun z => absurd z (by decide)) ⟨by decide, by decide, is_54.2.2.1, is_54.2.2.2⟩ ?_
  refine jm_aloadn d_X5_init_52 rfl ?_
  refine jm_bipush (v := 10) d_X5_init_53 rfl (jm_okI (by decide) (by decide)) ?_
  refine jm_newa (at0 := .int) (ty := .int) (t := 2) (N := 10) rfl (Or.inl ⟨rfl, rfl⟩) ay_int d_X5_init_55 rfl (by decide) (by decide) (by decide) (Nat.le_of_ble_eq_true rfl) (Nat.le_of_ble_eq_true rfl) (fun z => absurd z (by decide)) ?_
  refine jm_putR (k := 9) (ki := 9) cf_X5 (Nat.le_of_ble_eq_true rfl) f_X5_31 d_X5_init_57 (fun _ => ⟨rfl, rfl⟩) rfl (Or.inr ⟨_, rfl⟩) rfl (fun z => absurd z (by decide)) ⟨by decide, by decide, is_54.2.2.1, is_54.2.2.2⟩ ?_
  refine jm_aloadn d_X5_init_60 rfl ?_
  refine jm_bipush (v := 6) d_X5_init_61 rfl (jm_okI (by decide) (by decide)) ?_
  refine jm_newa (at0 := .int) (ty := .int) (t := 2) (N := 6) rfl (Or.inl ⟨rfl, rfl⟩) ay_int d_X5_init_63 rfl (by decide) (by decide) (by decide) (Nat.le_of_ble_eq_true rfl) (Nat.le_of_ble_eq_true rfl) (fun z => absurd z (by decide)) ?_
  refine jm_putR (k := 12) (ki := 12) cf_X5 (Nat.le_of_ble_eq_true rfl) f_X5_34 d_X5_init_65 (fun _ => ⟨rfl, rfl⟩) rfl (Or.inr ⟨_, rfl⟩) rfl (fun z => absurd z (by decide)) ⟨by decide, by decide, is_54.2.2.1, is_54.2.2.2⟩ ?_
  refine jm_aloadn d_X5_init_68 rfl ?_
  refine jm_iconst (v := 1) d_X5_init_69 rfl (jm_okI (by decide) (by decide)) ?_
  refine jm_putI (k := 11) (ki := 11) cf_X5 (Nat.le_of_ble_eq_true rfl) f_X5_37 d_X5_init_70 (fun z => absurd z (by decide)) rfl rfl rfl (fun z => absurd z (by decide)) ⟨by decide, by decide, is_54.2.2.1, is_54.2.2.2⟩ ?_
  refine jm_aloadn d_X5_init_73 rfl ?_
  refine jm_getR (k := 12) (ki := 12) cf_X5 (Nat.le_of_ble_eq_true rfl) f_X5_34 d_X5_init_74 rfl rfl ⟨by decide, by decide, is_54.2.2.1, is_54.2.2.2⟩ ((jm_up_i (by decide)).trans jm_up_at) ?_
  refine jm_iconst (v := 0) d_X5_init_77 rfl (jm_okI (by decide) (by decide)) ?_
  refine jm_iconst (v := 2) d_X5_init_78 rfl (jm_okI (by decide) (by decide)) ?_
  refine jm_iastore d_X5_init_79 ⟨by decide, by decide, by decide +kernel, by decide, by decide +kernel⟩ ?_
  exact jm_ret (o := none) d_X5_init_80 rfl ⟨(Nat.le_of_ble_eq_true rfl), (Nat.le_of_ble_eq_true rfl)⟩ jm_r_V h rfl
def km_X6_53 (μ : jm_M) : jm_M := (jm_up (jm_new (jm_up (jm_new (jm_up (jm_new (jm_up (jm_new (jm_up (jm_new (jm_up (jm_new (jm_up (km_X5_54 (jm_new μ 54)) 53 0 ((54 : Nat) : Int)) 63) 53 4 ((63 : Nat) : Int)) 64) 53 5 ((64 : Nat) : Int)) 65) 53 6 ((65 : Nat) : Int)) 66) 53 7 ((66 : Nat) : Int)) 67) 53 8 ((67 : Nat) : Int)) 68) 53 9 ((68 : Nat) : Int))
theorem ci_X6_53 {E : jm_E} {d : Nat} {μ : jm_M} {Q : Option jm_V → jm_M → Prop} (h : Q none (km_X6_53 μ)) : jm_Cl E m_X6_init (d + 2) 54 69 15 136 [jm_R ((53 : Nat) : Int), jm_I 8] μ Q := by
  refine jm_Cl.of2 (by decide +kernel) (L0 := [some (jm_R ((53 : Nat) : Int)), some (jm_I 8), none]) rfl (Nat.le_of_ble_eq_true rfl) (fun _ => ?_)
  refine jm_aloadn d_X6_init_0 rfl ?_
  refine jm_objInit l_X6_3 oj_1 oj_2 d_X6_init_1 (by decide) (Nat.le_of_ble_eq_true rfl) ?_
  refine jm_iloadn d_X6_init_4 rfl ?_
  refine jm_iconst (v := 0) d_X6_init_5 rfl (jm_okI (by decide) (by decide)) ?_
  refine jm_mmax l_X6_9 d_X6_init_6 ⟨(Nat.le_of_ble_eq_true rfl), (Nat.le_of_ble_eq_true rfl)⟩ (Nat.le_of_ble_eq_true rfl) ?_
  refine jm_istoren (L' := [some (jm_R _), some (jm_I _), some (jm_I _)]) d_X6_init_9 (Nat.le_of_ble_eq_true rfl) rfl ?_
  refine jm_aloadn d_X6_init_10 rfl ?_
  refine jm_newo tyX5 cf_X5.1 tyX5_ok rfl rfl hz_X5 cl_X6_15 it_X5 in_X5 d_X6_init_11 rfl (by decide) (Nat.le_of_ble_eq_true rfl) (Nat.le_of_ble_eq_true rfl) (fun z => absurd z (by decide)) ?_
  refine jm_dup rfl d_X6_init_14 ?_
  refine jm_invI (n1 := 63) (mc := 8) (ms := 72) (av := []) w_X5_init (Or.inl l_X6_17) d_X6_init_15 rfl (by decide) ⟨(Nat.le_of_ble_eq_true rfl), (Nat.le_of_ble_eq_true rfl)⟩ (Nat.le_of_ble_eq_true rfl) rfl ?_
  refine ci_X5_54 (d := d) (fun _ => ?_)
  refine jm_putR (k := 0) (ki := 0) cf_X6 (Nat.le_of_ble_eq_true rfl) f_X6_18 d_X6_init_18 (fun z => absurd z (by decide)) rfl (Or.inl ⟨_, rfl⟩) rfl (fun z => absurd z (by decide)) ⟨by decide, by decide, is_53.2.2.1, is_53.2.2.2⟩ ?_
  refine jm_aloadn d_X6_init_21 rfl ?_
  refine jm_iloadn d_X6_init_22 rfl ?_
  refine jm_newa (at0 := .int) (ty := .int) (t := 2) (N := 8) rfl (Or.inl ⟨rfl, rfl⟩) ay_int d_X6_init_23 rfl (by decide) (by decide) (by decide) (Nat.le_of_ble_eq_true rfl) (Nat.le_of_ble_eq_true rfl) (fun z => absurd z (by decide)) ?_
  refine jm_putR (k := 4) (ki := 4) cf_X6 (Nat.le_of_ble_eq_true rfl) f_X6_24 d_X6_init_25 (fun _ => ⟨rfl, rfl⟩) rfl (Or.inr ⟨_, rfl⟩) rfl (fun z => absurd z (by decide)) ⟨by decide, by decide, is_53.2.2.1, is_53.2.2.2⟩ ?_
  refine jm_aloadn d_X6_init_28 rfl ?_
  refine jm_iloadn d_X6_init_29 rfl ?_
  refine jm_newa (at0 := .int) (ty := .int) (t := 2) (N := 8) rfl (Or.inl ⟨rfl, rfl⟩) ay_int d_X6_init_30 rfl (by decide) (by decide) (by decide) (Nat.le_of_ble_eq_true rfl) (Nat.le_of_ble_eq_true rfl) (fun z => absurd z (by decide)) ?_
  refine jm_putR (k := 5) (ki := 5) cf_X6 (Nat.le_of_ble_eq_true rfl) f_X6_28 d_X6_init_32 (fun _ => ⟨rfl, rfl⟩) rfl (Or.inr ⟨_, rfl⟩) rfl (fun z => absurd z (by decide)) ⟨by decide, by decide, is_53.2.2.1, is_53.2.2.2⟩ ?_
  refine jm_aloadn d_X6_init_35 rfl ?_
  refine jm_iloadn d_X6_init_36 rfl ?_
  refine jm_newa (at0 := .int) (ty := .int) (t := 2) (N := 8) rfl (Or.inl ⟨rfl, rfl⟩) ay_int d_X6_init_37 rfl (by decide) (by decide) (by decide) (Nat.le_of_ble_eq_true rfl) (Nat.le_of_ble_eq_true rfl) (fun z => absurd z (by decide)) ?_
  refine jm_putR (k := 6) (ki := 6) cf_X6 (Nat.le_of_ble_eq_true rfl) f_X6_31 d_X6_init_39 (fun _ => ⟨rfl, rfl⟩) rfl (Or.inr ⟨_, rfl⟩) rfl (fun z => absurd z (by decide)) ⟨by decide, by decide, is_53.2.2.1, is_53.2.2.2⟩ ?_
  refine jm_aloadn d_X6_init_42 rfl ?_
  refine jm_iloadn d_X6_init_43 rfl ?_
  refine jm_newa (at0 := .int) (ty := .int) (t := 2) (N := 8) rfl (Or.inl ⟨rfl, rfl⟩) ay_int d_X6_init_44 rfl (by decide) (by decide) (by decide) (Nat.le_of_ble_eq_true rfl) (Nat.le_of_ble_eq_true rfl) (fun z => absurd z (by decide)) ?_
  refine jm_putR (k := 7) (ki := 7) cf_X6 (Nat.le_of_ble_eq_true rfl) f_X6_34 d_X6_init_46 (fun _ => ⟨rfl, rfl⟩) rfl (Or.inr ⟨_, rfl⟩) rfl (fun z => absurd z (by decide)) ⟨by decide, by decide, is_53.2.2.1, is_53.2.2.2⟩ ?_
  refine jm_aloadn d_X6_init_49 rfl ?_
  refine jm_iloadn d_X6_init_50 rfl ?_
  refine jm_newa (at0 := .int) (ty := .int) (t := 2) (N := 8) rfl (Or.inl ⟨rfl, rfl⟩) ay_int d_X6_init_51 rfl (by decide) (by decide) (by decide) (Nat.le_of_ble_eq_true rfl) (Nat.le_of_ble_eq_true rfl) (fun z => absurd z (by decide)) ?_
  refine jm_putR (k := 8) (ki := 8) cf_X6 (Nat.le_of_ble_eq_true rfl) f_X6_37 d_X6_init_53 (fun _ => ⟨rfl, rfl⟩) rfl (Or.inr ⟨_, rfl⟩) rfl (fun z => absurd z (by decide)) ⟨by decide, by decide, is_53.2.2.1, is_53.2.2.2⟩ ?_
  refine jm_aloadn d_X6_init_56 rfl ?_
  refine jm_iloadn d_X6_init_57 rfl ?_
  refine jm_newa (at0 := .int) (ty := .int) (t := 2) (N := 8) rfl (Or.inl ⟨rfl, rfl⟩) ay_int d_X6_init_58 rfl (by decide) (by decide) (by decide) (Nat.le_of_ble_eq_true rfl) (Nat.le_of_ble_eq_true rfl) (fun z => absurd z (by decide)) ?_
  refine jm_putR (k := 9) (ki := 9) cf_X6 (Nat.le_of_ble_eq_true rfl) f_X6_40 d_X6_init_60 (fun _ => ⟨rfl, rfl⟩) rfl (Or.inr ⟨_, rfl⟩) rfl (fun z => absurd z (by decide)) ⟨by decide, by decide, is_53.2.2.1, is_53.2.2.2⟩ ?_
  exact jm_ret (o := none) d_X6_init_63 rfl ⟨(Nat.le_of_ble_eq_true rfl), (Nat.le_of_ble_eq_true rfl)⟩ jm_r_V h rfl
def km_X1_69 (μ : jm_M) : jm_M := (jm_up (jm_new (jm_up (jm_new μ 70) 69 2 ((70 : Nat) : Int)) 71) 69 3 ((71 : Nat) : Int))
theorem ci_X1_69 {E : jm_E} {d : Nat} {μ : jm_M} {Q : Option jm_V → jm_M → Prop} (h : Q none (km_X1_69 μ)) : jm_Cl E m_X1_init (d + 1) 70 72 2 48 [jm_R ((69 : Nat) : Int)] μ Q := by
  refine jm_Cl.of2 (by decide +kernel) (L0 := [some (jm_R ((69 : Nat) : Int))]) rfl (Nat.le_of_ble_eq_true rfl) (fun _ => ?_)
  refine jm_aloadn d_X1_init_0 rfl ?_
  refine jm_objInit l_X1_3 oj_1 oj_2 d_X1_init_1 (by decide) (Nat.le_of_ble_eq_true rfl) ?_
  refine jm_aloadn d_X1_init_4 rfl ?_
  refine jm_bipush (v := 24) d_X1_init_5 rfl (jm_okI (by decide) (by decide)) ?_
  refine jm_newa (at0 := .int) (ty := .int) (t := 2) (N := 24) rfl (Or.inl ⟨rfl, rfl⟩) ay_int d_X1_init_7 rfl (by decide) (by decide) (by decide) (Nat.le_of_ble_eq_true rfl) (Nat.le_of_ble_eq_true rfl) (fun z => absurd z (by decide)) ?_
  refine jm_putR (k := 2) (ki := 2) cf_X1 (Nat.le_of_ble_eq_true rfl) f_X1_11 d_X1_init_9 (fun _ => ⟨rfl, rfl⟩) rfl (Or.inr ⟨_, rfl⟩) rfl (fun z => absurd z (by decide)) ⟨by decide, by decide, is_69.2.2.1, is_69.2.2.2⟩ ?_
  refine jm_aloadn d_X1_init_12 rfl ?_
  refine jm_bipush (v := 24) d_X1_init_13 rfl (jm_okI (by decide) (by decide)) ?_
  refine jm_newa (at0 := .int) (ty := .int) (t := 2) (N := 24) rfl (Or.inl ⟨rfl, rfl⟩) ay_int d_X1_init_15 rfl (by decide) (by decide) (by decide) (Nat.le_of_ble_eq_true rfl) (Nat.le_of_ble_eq_true rfl) (fun z => absurd z (by decide)) ?_
  refine jm_putR (k := 3) (ki := 3) cf_X1 (Nat.le_of_ble_eq_true rfl) f_X1_15 d_X1_init_17 (fun _ => ⟨rfl, rfl⟩) rfl (Or.inr ⟨_, rfl⟩) rfl (fun z => absurd z (by decide)) ⟨by decide, by decide, is_69.2.2.1, is_69.2.2.2⟩ ?_
  exact jm_ret (o := none) d_X1_init_20 rfl ⟨(Nat.le_of_ble_eq_true rfl), (Nat.le_of_ble_eq_true rfl)⟩ jm_r_V h rfl
def km_X1_72 (μ : jm_M) : jm_M := (jm_up (jm_new (jm_up (jm_new μ 73) 72 2 ((73 : Nat) : Int)) 74) 72 3 ((74 : Nat) : Int))
theorem ci_X1_72 {E : jm_E} {d : Nat} {μ : jm_M} {Q : Option jm_V → jm_M → Prop} (h : Q none (km_X1_72 μ)) : jm_Cl E m_X1_init (d + 1) 73 75 2 48 [jm_R ((72 : Nat) : Int)] μ Q := by
  refine jm_Cl.of2 (by decide +kernel) (L0 := [some (jm_R ((72 : Nat) : Int))]) rfl (Nat.le_of_ble_eq_true rfl) (fun _ => ?_)
  refine jm_aloadn d_X1_init_0 rfl ?_
  refine jm_objInit l_X1_3 oj_1 oj_2 d_X1_init_1 (by decide) (Nat.le_of_ble_eq_true rfl) ?_
  refine jm_aloadn d_X1_init_4 rfl ?_
  refine jm_bipush (v := 24) d_X1_init_5 rfl (jm_okI (by decide) (by decide)) ?_
  refine jm_newa (at0 := .int) (ty := .int) (t := 2) (N := 24) rfl (Or.inl ⟨rfl, rfl⟩) ay_int d_X1_init_7 rfl (by decide) (by decide) (by decide) (Nat.le_of_ble_eq_true rfl) (Nat.le_of_ble_eq_true rfl) (fun z => absurd z (by decide)) ?_
  refine jm_putR (k := 2) (ki := 2) cf_X1 (Nat.le_of_ble_eq_true rfl) f_X1_11 d_X1_init_9 (fun _ => ⟨rfl, rfl⟩) rfl (Or.inr ⟨_, rfl⟩) rfl (fun z => absurd z (by decide)) ⟨by decide, by decide, is_72.2.2.1, is_72.2.2.2⟩ ?_
  refine jm_aloadn d_X1_init_12 rfl ?_
  refine jm_bipush (v := 24) d_X1_init_13 rfl (jm_okI (by decide) (by decide)) ?_
  refine jm_newa (at0 := .int) (ty := .int) (t := 2) (N := 24) rfl (Or.inl ⟨rfl, rfl⟩) ay_int d_X1_init_15 rfl (by decide) (by decide) (by decide) (Nat.le_of_ble_eq_true rfl) (Nat.le_of_ble_eq_true rfl) (fun z => absurd z (by decide)) ?_
  refine jm_putR (k := 3) (ki := 3) cf_X1 (Nat.le_of_ble_eq_true rfl) f_X1_15 d_X1_init_17 (fun _ => ⟨rfl, rfl⟩) rfl (Or.inr ⟨_, rfl⟩) rfl (fun z => absurd z (by decide)) ⟨by decide, by decide, is_72.2.2.1, is_72.2.2.2⟩ ?_
  exact jm_ret (o := none) d_X1_init_20 rfl ⟨(Nat.le_of_ble_eq_true rfl), (Nat.le_of_ble_eq_true rfl)⟩ jm_r_V h rfl
def km_X4_75 (μ : jm_M) : jm_M := (jm_up (jm_new (jm_up (jm_new (jm_up (jm_new μ 76) 75 2 ((76 : Nat) : Int)) 77) 75 3 ((77 : Nat) : Int)) 78) 75 4 ((78 : Nat) : Int))
theorem ci_X4_75 {E : jm_E} {d : Nat} {μ : jm_M} {Q : Option jm_V → jm_M → Prop} (h : Q none (km_X4_75 μ)) : jm_Cl E m_X4_init (d + 1) 76 79 3 192 [jm_R ((75 : Nat) : Int)] μ Q := by
  refine jm_Cl.of2 (by decide +kernel) (L0 := [some (jm_R ((75 : Nat) : Int))]) rfl (Nat.le_of_ble_eq_true rfl) (fun _ => ?_)
  refine jm_aloadn d_X4_init_0 rfl ?_
  refine jm_objInit l_X4_3 oj_1 oj_2 d_X4_init_1 (by decide) (Nat.le_of_ble_eq_true rfl) ?_
  refine jm_aloadn d_X4_init_4 rfl ?_
  refine jm_bipush (v := 64) d_X4_init_5 rfl (jm_okI (by decide) (by decide)) ?_
  refine jm_newa (at0 := .int) (ty := .int) (t := 2) (N := 64) rfl (Or.inl ⟨rfl, rfl⟩) ay_int d_X4_init_7 rfl (by decide) (by decide) (by decide) (Nat.le_of_ble_eq_true rfl) (Nat.le_of_ble_eq_true rfl) (fun z => absurd z (by decide)) ?_
  refine jm_putR (k := 2) (ki := 2) cf_X4 (Nat.le_of_ble_eq_true rfl) f_X4_11 d_X4_init_9 (fun _ => ⟨rfl, rfl⟩) rfl (Or.inr ⟨_, rfl⟩) rfl (fun z => absurd z (by decide)) ⟨by decide, by decide, is_75.2.2.1, is_75.2.2.2⟩ ?_
  refine jm_aloadn d_X4_init_12 rfl ?_
  refine jm_bipush (v := 64) d_X4_init_13 rfl (jm_okI (by decide) (by decide)) ?_
  refine jm_newa (at0 := .int) (ty := .int) (t := 2) (N := 64) rfl (Or.inl ⟨rfl, rfl⟩) ay_int d_X4_init_15 rfl (by decide) (by decide) (by decide) (Nat.le_of_ble_eq_true rfl) (Nat.le_of_ble_eq_true rfl) (fun z => absurd z (by decide)) ?_
  refine jm_putR (k := 3) (ki := 3) cf_X4 (Nat.le_of_ble_eq_true rfl) f_X4_15 d_X4_init_17 (fun _ => ⟨rfl, rfl⟩) rfl (Or.inr ⟨_, rfl⟩) rfl (fun z => absurd z (by decide)) ⟨by decide, by decide, is_75.2.2.1, is_75.2.2.2⟩ ?_
  refine jm_aloadn d_X4_init_20 rfl ?_
  refine jm_bipush (v := 64) d_X4_init_21 rfl (jm_okI (by decide) (by decide)) ?_
  refine jm_newa (at0 := .int) (ty := .int) (t := 2) (N := 64) rfl (Or.inl ⟨rfl, rfl⟩) ay_int d_X4_init_23 rfl (by decide) (by decide) (by decide) (Nat.le_of_ble_eq_true rfl) (Nat.le_of_ble_eq_true rfl) (fun z => absurd z (by decide)) ?_
  refine jm_putR (k := 4) (ki := 4) cf_X4 (Nat.le_of_ble_eq_true rfl) f_X4_18 d_X4_init_25 (fun _ => ⟨rfl, rfl⟩) rfl (Or.inr ⟨_, rfl⟩) rfl (fun z => absurd z (by decide)) ⟨by decide, by decide, is_75.2.2.1, is_75.2.2.2⟩ ?_
  exact jm_ret (o := none) d_X4_init_28 rfl ⟨(Nat.le_of_ble_eq_true rfl), (Nat.le_of_ble_eq_true rfl)⟩ jm_r_V h rfl
def km_X4_79 (μ : jm_M) : jm_M := (jm_up (jm_new (jm_up (jm_new (jm_up (jm_new μ 80) 79 2 ((80 : Nat) : Int)) 81) 79 3 ((81 : Nat) : Int)) 82) 79 4 ((82 : Nat) : Int))
theorem ci_X4_79 {E : jm_E} {d : Nat} {μ : jm_M} {Q : Option jm_V → jm_M → Prop} (h : Q none (km_X4_79 μ)) : jm_Cl E m_X4_init (d + 1) 80 83 3 192 [jm_R ((79 : Nat) : Int)] μ Q := by
  refine jm_Cl.of2 (by decide +kernel) (L0 := [some (jm_R ((79 : Nat) : Int))]) rfl (Nat.le_of_ble_eq_true rfl) (fun _ => ?_)
  refine jm_aloadn d_X4_init_0 rfl ?_
  refine jm_objInit l_X4_3 oj_1 oj_2 d_X4_init_1 (by decide) (Nat.le_of_ble_eq_true rfl) ?_
  refine jm_aloadn d_X4_init_4 rfl ?_
  refine jm_bipush (v := 64) d_X4_init_5 rfl (jm_okI (by decide) (by decide)) ?_
  refine jm_newa (at0 := .int) (ty := .int) (t := 2) (N := 64) rfl (Or.inl ⟨rfl, rfl⟩) ay_int d_X4_init_7 rfl (by decide) (by decide) (by decide) (Nat.le_of_ble_eq_true rfl) (Nat.le_of_ble_eq_true rfl) (fun z => absurd z (by decide)) ?_
  refine jm_putR (k := 2) (ki := 2) cf_X4 (Nat.le_of_ble_eq_true rfl) f_X4_11 d_X4_init_9 (fun _ => ⟨rfl, rfl⟩) rfl (Or.inr ⟨_, rfl⟩) rfl (fun z => absurd z (by decide)) ⟨by decide, by decide, is_79.2.2.1, is_79.2.2.2⟩ ?_
  refine jm_aloadn d_X4_init_12 rfl ?_
  refine jm_bipush (v := 64) d_X4_init_13 rfl (jm_okI (by decide) (by decide)) ?_
  refine jm_newa (at0 := .int) (ty := .int) (t := 2) (N := 64) rfl (Or.inl ⟨rfl, rfl⟩) ay_int d_X4_init_15 rfl (by decide) (by decide) (by decide) (Nat.le_of_ble_eq_true rfl) (Nat.le_of_ble_eq_true rfl) (fun z => absurd z (by decide)) ?_
  refine jm_putR (k := 3) (ki := 3) cf_X4 (Nat.le_of_ble_eq_true rfl) f_X4_15 d_X4_init_17 (fun _ => ⟨rfl, rfl⟩) rfl (Or.inr ⟨_, rfl⟩) rfl (fun z => absurd z (by decide)) ⟨by decide, by decide, is_79.2.2.1, is_79.2.2.2⟩ ?_
  refine jm_aloadn d_X4_init_20 rfl ?_
  refine jm_bipush (v := 64) d_X4_init_21 rfl (jm_okI (by decide) (by decide)) ?_
  refine jm_newa (at0 := .int) (ty := .int) (t := 2) (N := 64) rfl (Or.inl ⟨rfl, rfl⟩) ay_int d_X4_init_23 rfl (by decide) (by decide) (by decide) (Nat.le_of_ble_eq_true rfl) (Nat.le_of_ble_eq_true rfl) (fun z => absurd z (by decide)) ?_
  refine jm_putR (k := 4) (ki := 4) cf_X4 (Nat.le_of_ble_eq_true rfl) f_X4_18 d_X4_init_25 (fun _ => ⟨rfl, rfl⟩) rfl (Or.inr ⟨_, rfl⟩) rfl (fun z => absurd z (by decide)) ⟨by decide, by decide, is_79.2.2.1, is_79.2.2.2⟩ ?_
  exact jm_ret (o := none) d_X4_init_28 rfl ⟨(Nat.le_of_ble_eq_true rfl), (Nat.le_of_ble_eq_true rfl)⟩ jm_r_V h rfl
def km_X5_84 (μ : jm_M) : jm_M := (jm_up (jm_up (jm_up (jm_new (jm_up (jm_new (jm_up (jm_new (jm_up (jm_new (jm_up (jm_new (jm_up (jm_new (jm_up (jm_new (jm_up (jm_new μ 85) 84 2 ((85 : Nat) : Int)) 86) 84 3 ((86 : Nat) : Int)) 87) 84 5 ((87 : Nat) : Int)) 88) 84 6 ((88 : Nat) : Int)) 89) 84 7 ((89 : Nat) : Int)) 90) 84 8 ((90 : Nat) : Int)) 91) 84 9 ((91 : Nat) : Int)) 92) 84 12 ((92 : Nat) : Int)) 84 11 1) ((92 : Nat) : Int) 0 2)
theorem ci_X5_84 {E : jm_E} {d : Nat} {μ : jm_M} {Q : Option jm_V → jm_M → Prop} (h : Q none (km_X5_84 μ)) : jm_Cl E m_X5_init (d + 1) 85 93 8 72 [jm_R ((84 : Nat) : Int)] μ Q := by
  refine jm_Cl.of2 (by decide +kernel) (L0 := [some (jm_R ((84 : Nat) : Int))]) rfl (Nat.le_of_ble_eq_true rfl) (fun _ => ?_)
  refine jm_aloadn d_X5_init_0 rfl ?_
  refine jm_objInit l_X5_3 oj_1 oj_2 d_X5_init_1 (by decide) (Nat.le_of_ble_eq_true rfl) ?_
  refine jm_aloadn d_X5_init_4 rfl ?_
  refine jm_bipush (v := 8) d_X5_init_5 rfl (jm_okI (by decide) (by decide)) ?_
  refine jm_newa (at0 := .long) (ty := .long) (t := 3) (N := 8) rfl (Or.inr (Or.inl ⟨rfl, rfl⟩)) ay_long d_X5_init_7 rfl (by decide) (by decide) (by decide) (Nat.le_of_ble_eq_true rfl) (Nat.le_of_ble_eq_true rfl) (fun z => absurd z (by decide)) ?_
  refine jm_putR (k := 2) (ki := 2) cf_X5 (Nat.le_of_ble_eq_true rfl) f_X5_11 d_X5_init_9 (fun _ => ⟨rfl, rfl⟩) rfl (Or.inr ⟨_, rfl⟩) rfl (fun z => absurd z (by decide)) ⟨by decide, by decide, is_84.2.2.1, is_84.2.2.2⟩ ?_
  refine jm_aloadn d_X5_init_12 rfl ?_
  refine jm_bipush (v := 8) d_X5_init_13 rfl (jm_okI (by decide) (by decide)) ?_
  refine jm_newa (at0 := .int) (ty := .int) (t := 2) (N := 8) rfl (Or.inl ⟨rfl, rfl⟩) ay_int d_X5_init_15 rfl (by decide) (by decide) (by decide) (Nat.le_of_ble_eq_true rfl) (Nat.le_of_ble_eq_true rfl) (fun z => absurd z (by decide)) ?_
  refine jm_putR (k := 3) (ki := 3) cf_X5 (Nat.le_of_ble_eq_true rfl) f_X5_15 d_X5_init_17 (fun _ => ⟨rfl, rfl⟩) rfl (Or.inr ⟨_, rfl⟩) rfl (fun z => absurd z (by decide)) ⟨by decide, by decide, is_84.2.2.1, is_84.2.2.2⟩ ?_
  refine jm_aloadn d_X5_init_20 rfl ?_
  refine jm_bipush (v := 10) d_X5_init_21 rfl (jm_okI (by decide) (by decide)) ?_
  refine jm_newa (at0 := .long) (ty := .long) (t := 3) (N := 10) rfl (Or.inr (Or.inl ⟨rfl, rfl⟩)) ay_long d_X5_init_23 rfl (by decide) (by decide) (by decide) (Nat.le_of_ble_eq_true rfl) (Nat.le_of_ble_eq_true rfl) (fun z => absurd z (by decide)) ?_
  refine jm_putR (k := 5) (ki := 5) cf_X5 (Nat.le_of_ble_eq_true rfl) f_X5_19 d_X5_init_25 (fun _ => ⟨rfl, rfl⟩) rfl (Or.inr ⟨_, rfl⟩) rfl (fun z => absurd z (by decide)) ⟨by decide, by decide, is_84.2.2.1, is_84.2.2.2⟩ ?_
  refine jm_aloadn d_X5_init_28 rfl ?_
  refine jm_bipush (v := 10) d_X5_init_29 rfl (jm_okI (by decide) (by decide)) ?_
  refine jm_newa (at0 := .int) (ty := .int) (t := 2) (N := 10) rfl (Or.inl ⟨rfl, rfl⟩) ay_int d_X5_init_31 rfl (by decide) (by decide) (by decide) (Nat.le_of_ble_eq_true rfl) (Nat.le_of_ble_eq_true rfl) (fun z => absurd z (by decide)) ?_
  refine jm_putR (k := 6) (ki := 6) cf_X5 (Nat.le_of_ble_eq_true rfl) f_X5_22 d_X5_init_33 (fun _ => ⟨rfl, rfl⟩) rfl (Or.inr ⟨_, rfl⟩) rfl (fun z => absurd z (by decide)) ⟨by decide, by decide, is_84.2.2.1, is_84.2.2.2⟩ ?_
  refine jm_aloadn d_X5_init_36 rfl ?_
  refine jm_bipush (v := 10) d_X5_init_37 rfl (jm_okI (by decide) (by decide)) ?_
  refine jm_newa (at0 := .int) (ty := .int) (t := 2) (N := 10) rfl (Or.inl ⟨rfl, rfl⟩) ay_int d_X5_init_39 rfl (by decide) (by decide) (by decide) (Nat.le_of_ble_eq_true rfl) (Nat.le_of_ble_eq_true rfl) (fun z => absurd z (by decide)) ?_
  refine jm_putR (k := 7) (ki := 7) cf_X5 (Nat.le_of_ble_eq_true rfl) f_X5_25 d_X5_init_41 (fun _ => ⟨rfl, rfl⟩) rfl (Or.inr ⟨_, rfl⟩) rfl (fun z => absurd z (by decide)) ⟨by decide, by decide, is_84.2.2.1, is_84.2.2.2⟩ ?_
  refine jm_aloadn d_X5_init_44 rfl ?_
  refine jm_bipush (v := 10) d_X5_init_45 rfl (jm_okI (by decide) (by decide)) ?_
  refine jm_newa (at0 := .int) (ty := .int) (t := 2) (N := 10) rfl (Or.inl ⟨rfl, rfl⟩) ay_int d_X5_init_47 rfl (by decide) (by decide) (by decide) (Nat.le_of_ble_eq_true rfl) (Nat.le_of_ble_eq_true rfl) (fun z => absurd z (by decide)) ?_
  refine jm_putR (k := 8) (ki := 8) cf_X5 (Nat.le_of_ble_eq_true rfl) f_X5_28 d_X5_init_49 (fun _ => ⟨rfl, rfl⟩) rfl (Or.inr ⟨_, rfl⟩) rfl (fun z => absurd z (by decide)) ⟨by decide, by decide, is_84.2.2.1, is_84.2.2.2⟩ ?_
  refine jm_aloadn d_X5_init_52 rfl ?_
  refine jm_bipush (v := 10) d_X5_init_53 rfl (jm_okI (by decide) (by decide)) ?_
  refine jm_newa (at0 := .int) (ty := .int) (t := 2) (N := 10) rfl (Or.inl ⟨rfl, rfl⟩) ay_int d_X5_init_55 rfl (by decide) (by decide) (by decide) (Nat.le_of_ble_eq_true rfl) (Nat.le_of_ble_eq_true rfl) (fun z => absurd z (by decide)) ?_
  refine jm_putR (k := 9) (ki := 9) cf_X5 (Nat.le_of_ble_eq_true rfl) f_X5_31 d_X5_init_57 (fun _ => ⟨rfl, rfl⟩) rfl (Or.inr ⟨_, rfl⟩) rfl (fun z => absurd z (by decide)) ⟨by decide, by decide, is_84.2.2.1, is_84.2.2.2⟩ ?_
  refine jm_aloadn d_X5_init_60 rfl ?_
  refine jm_bipush (v := 6) d_X5_init_61 rfl (jm_okI (by decide) (by decide)) ?_
  refine jm_newa (at0 := .int) (ty := .int) (t := 2) (N := 6) rfl (Or.inl ⟨rfl, rfl⟩) ay_int d_X5_init_63 rfl (by decide) (by decide) (by decide) (Nat.le_of_ble_eq_true rfl) (Nat.le_of_ble_eq_true rfl) (fun z => absurd z (by decide)) ?_
  refine jm_putR (k := 12) (ki := 12) cf_X5 (Nat.le_of_ble_eq_true rfl) f_X5_34 d_X5_init_65 (fun _ => ⟨rfl, rfl⟩) rfl (Or.inr ⟨_, rfl⟩) rfl (fun z => absurd z (by decide)) ⟨by decide, by decide, is_84.2.2.1, is_84.2.2.2⟩ ?_
  refine jm_aloadn d_X5_init_68 rfl ?_
  refine jm_iconst (v := 1) d_X5_init_69 rfl (jm_okI (by decide) (by decide)) ?_
  refine jm_putI (k := 11) (ki := 11) cf_X5 (Nat.le_of_ble_eq_true rfl) f_X5_37 d_X5_init_70 (fun z => absurd z (by decide)) rfl rfl rfl (fun z => absurd z (by decide)) ⟨by decide, by decide, is_84.2.2.1, is_84.2.2.2⟩ ?_
  refine jm_aloadn d_X5_init_73 rfl ?_
  refine jm_getR (k := 12) (ki := 12) cf_X5 (Nat.le_of_ble_eq_true rfl) f_X5_34 d_X5_init_74 rfl rfl ⟨by decide, by decide, is_84.2.2.1, is_84.2.2.2⟩ ((jm_up_i (by decide)).trans jm_up_at) ?_
  refine jm_iconst (v := 0) d_X5_init_77 rfl (jm_okI (by decide) (by decide)) ?_
  refine jm_iconst (v := 2) d_X5_init_78 rfl (jm_okI (by decide) (by decide)) ?_
  refine jm_iastore d_X5_init_79 ⟨by decide, by decide, by decide +kernel, by decide, by decide +kernel⟩ ?_
  exact jm_ret (o := none) d_X5_init_80 rfl ⟨(Nat.le_of_ble_eq_true rfl), (Nat.le_of_ble_eq_true rfl)⟩ jm_r_V h rfl
def km_X1_95 (μ : jm_M) : jm_M := (jm_up (jm_new (jm_up (jm_new μ 96) 95 2 ((96 : Nat) : Int)) 97) 95 3 ((97 : Nat) : Int))
theorem ci_X1_95 {E : jm_E} {d : Nat} {μ : jm_M} {Q : Option jm_V → jm_M → Prop} (h : Q none (km_X1_95 μ)) : jm_Cl E m_X1_init (d + 1) 96 98 2 48 [jm_R ((95 : Nat) : Int)] μ Q := by
  refine jm_Cl.of2 (by decide +kernel) (L0 := [some (jm_R ((95 : Nat) : Int))]) rfl (Nat.le_of_ble_eq_true rfl) (fun _ => ?_)
  refine jm_aloadn d_X1_init_0 rfl ?_
  refine jm_objInit l_X1_3 oj_1 oj_2 d_X1_init_1 (by decide) (Nat.le_of_ble_eq_true rfl) ?_
  refine jm_aloadn d_X1_init_4 rfl ?_
  refine jm_bipush (v := 24) d_X1_init_5 rfl (jm_okI (by decide) (by decide)) ?_
  refine jm_newa (at0 := .int) (ty := .int) (t := 2) (N := 24) rfl (Or.inl ⟨rfl, rfl⟩) ay_int d_X1_init_7 rfl (by decide) (by decide) (by decide) (Nat.le_of_ble_eq_true rfl) (Nat.le_of_ble_eq_true rfl) (fun z => absurd z (by decide)) ?_
  refine jm_putR (k := 2) (ki := 2) cf_X1 (Nat.le_of_ble_eq_true rfl) f_X1_11 d_X1_init_9 (fun _ => ⟨rfl, rfl⟩) rfl (Or.inr ⟨_, rfl⟩) rfl (fun z => absurd z (by decide)) ⟨by decide, by decide, is_95.2.2.1, is_95.2.2.2⟩ ?_
  refine jm_aloadn d_X1_init_12 rfl ?_
  refine jm_bipush (v := 24) d_X1_init_13 rfl (jm_okI (by decide) (by decide)) ?_
  refine jm_newa (at0 := .int) (ty := .int) (t := 2) (N := 24) rfl (Or.inl ⟨rfl, rfl⟩) ay_int d_X1_init_15 rfl (by decide) (by decide) (by decide) (Nat.le_of_ble_eq_true rfl) (Nat.le_of_ble_eq_true rfl) (fun z => absurd z (by decide)) ?_
  refine jm_putR (k := 3) (ki := 3) cf_X1 (Nat.le_of_ble_eq_true rfl) f_X1_15 d_X1_init_17 (fun _ => ⟨rfl, rfl⟩) rfl (Or.inr ⟨_, rfl⟩) rfl (fun z => absurd z (by decide)) ⟨by decide, by decide, is_95.2.2.1, is_95.2.2.2⟩ ?_
  exact jm_ret (o := none) d_X1_init_20 rfl ⟨(Nat.le_of_ble_eq_true rfl), (Nat.le_of_ble_eq_true rfl)⟩ jm_r_V h rfl
def km_X4_98 (μ : jm_M) : jm_M := (jm_up (jm_new (jm_up (jm_new (jm_up (jm_new μ 99) 98 2 ((99 : Nat) : Int)) 100) 98 3 ((100 : Nat) : Int)) 101) 98 4 ((101 : Nat) : Int))
theorem ci_X4_98 {E : jm_E} {d : Nat} {μ : jm_M} {Q : Option jm_V → jm_M → Prop} (h : Q none (km_X4_98 μ)) : jm_Cl E m_X4_init (d + 1) 99 102 3 192 [jm_R ((98 : Nat) : Int)] μ Q := by
  refine jm_Cl.of2 (by decide +kernel) (L0 := [some (jm_R ((98 : Nat) : Int))]) rfl (Nat.le_of_ble_eq_true rfl) (fun _ => ?_)
  refine jm_aloadn d_X4_init_0 rfl ?_
  refine jm_objInit l_X4_3 oj_1 oj_2 d_X4_init_1 (by decide) (Nat.le_of_ble_eq_true rfl) ?_
  refine jm_aloadn d_X4_init_4 rfl ?_
  refine jm_bipush (v := 64) d_X4_init_5 rfl (jm_okI (by decide) (by decide)) ?_
  refine jm_newa (at0 := .int) (ty := .int) (t := 2) (N := 64) rfl (Or.inl ⟨rfl, rfl⟩) ay_int d_X4_init_7 rfl (by decide) (by decide) (by decide) (Nat.le_of_ble_eq_true rfl) (Nat.le_of_ble_eq_true rfl) (fun z => absurd z (by decide)) ?_
  refine jm_putR (k := 2) (ki := 2) cf_X4 (Nat.le_of_ble_eq_true rfl) f_X4_11 d_X4_init_9 (fun _ => ⟨rfl, rfl⟩) rfl (Or.inr ⟨_, rfl⟩) rfl (fun z => absurd z (by decide)) ⟨by decide, by decide, is_98.2.2.1, is_98.2.2.2⟩ ?_
  refine jm_aloadn d_X4_init_12 rfl ?_
  refine jm_bipush (v := 64) d_X4_init_13 rfl (jm_okI (by decide) (by decide)) ?_
  refine jm_newa (at0 := .int) (ty := .int) (t := 2) (N := 64) rfl (Or.inl ⟨rfl, rfl⟩) ay_int d_X4_init_15 rfl (by decide) (by decide) (by decide) (Nat.le_of_ble_eq_true rfl) (Nat.le_of_ble_eq_true rfl) (fun z => absurd z (by decide)) ?_
  refine jm_putR (k := 3) (ki := 3) cf_X4 (Nat.le_of_ble_eq_true rfl) f_X4_15 d_X4_init_17 (fun _ => ⟨rfl, rfl⟩) rfl (Or.inr ⟨_, rfl⟩) rfl (fun z => absurd z (by decide)) ⟨by decide, by decide, is_98.2.2.1, is_98.2.2.2⟩ ?_
  refine jm_aloadn d_X4_init_20 rfl ?_
  refine jm_bipush (v := 64) d_X4_init_21 rfl (jm_okI (by decide) (by decide)) ?_
  refine jm_newa (at0 := .int) (ty := .int) (t := 2) (N := 64) rfl (Or.inl ⟨rfl, rfl⟩) ay_int d_X4_init_23 rfl (by decide) (by decide) (by decide) (Nat.le_of_ble_eq_true rfl) (Nat.le_of_ble_eq_true rfl) (fun z => absurd z (by decide)) ?_
  refine jm_putR (k := 4) (ki := 4) cf_X4 (Nat.le_of_ble_eq_true rfl) f_X4_18 d_X4_init_25 (fun _ => ⟨rfl, rfl⟩) rfl (Or.inr ⟨_, rfl⟩) rfl (fun z => absurd z (by decide)) ⟨by decide, by decide, is_98.2.2.1, is_98.2.2.2⟩ ?_
  exact jm_ret (o := none) d_X4_init_28 rfl ⟨(Nat.le_of_ble_eq_true rfl), (Nat.le_of_ble_eq_true rfl)⟩ jm_r_V h rfl
def km_X0_83 (μ : jm_M) : jm_M := (jm_up (km_X4_98 (jm_new (jm_up (km_X1_95 (jm_new (jm_up (jm_new (jm_up (jm_new (jm_up (km_X5_84 (jm_new μ 84)) 83 1 ((84 : Nat) : Int)) 93) 83 3 ((93 : Nat) : Int)) 94) 83 4 ((94 : Nat) : Int)) 95)) 83 5 ((95 : Nat) : Int)) 98)) 83 6 ((98 : Nat) : Int))
theorem ci_X0_83 {E : jm_E} {d : Nat} {μ : jm_M} {Q : Option jm_V → jm_M → Prop} (h : Q none (km_X0_83 μ)) : jm_Cl E m_X0_init (d + 2) 84 102 18 1137 [jm_R ((83 : Nat) : Int)] μ Q := by
  refine jm_Cl.of2 (by decide +kernel) (L0 := [some (jm_R ((83 : Nat) : Int))]) rfl (Nat.le_of_ble_eq_true rfl) (fun _ => ?_)
  refine jm_aloadn d_X0_init_0 rfl ?_
  refine jm_objInit l_X0_1 oj_1 oj_2 d_X0_init_1 (by decide) (Nat.le_of_ble_eq_true rfl) ?_
  refine jm_aloadn d_X0_init_4 rfl ?_
  refine jm_newo tyX5 cf_X5.1 tyX5_ok rfl rfl hz_X5 cl_X0_7 it_X5 in_X5 d_X0_init_5 rfl (by decide) (Nat.le_of_ble_eq_true rfl) (Nat.le_of_ble_eq_true rfl) (fun z => absurd z (by decide)) ?_
  refine jm_dup rfl d_X0_init_8 ?_
  refine jm_invI (n1 := 93) (mc := 8) (ms := 72) (av := []) w_X5_init (Or.inl l_X0_9) d_X0_init_9 rfl (by decide) ⟨(Nat.le_of_ble_eq_true rfl), (Nat.le_of_ble_eq_true rfl)⟩ (Nat.le_of_ble_eq_true rfl) rfl ?_
  refine ci_X5_84 (d := d) (fun _ => ?_)
  refine jm_putR (k := 1) (ki := 1) cf_X0 (Nat.le_of_ble_eq_true rfl) f_X0_10 d_X0_init_12 (fun _ => ⟨rfl, rfl⟩) rfl (Or.inl ⟨_, rfl⟩) rfl (fun z => absurd z (by decide)) ⟨by decide, by decide, is_83.2.2.1, is_83.2.2.2⟩ ?_
  refine jm_aloadn d_X0_init_15 rfl ?_
  refine jm_sipush (v := 400) d_X0_init_16 rfl (jm_okI (by decide) (by decide)) ?_
  refine jm_newa (at0 := .int) (ty := .int) (t := 2) (N := 400) rfl (Or.inl ⟨rfl, rfl⟩) ay_int d_X0_init_19 rfl (by decide) (by decide) (by decide) (Nat.le_of_ble_eq_true rfl) (Nat.le_of_ble_eq_true rfl) (fun z => absurd z (by decide)) ?_
  refine jm_putR (k := 3) (ki := 3) cf_X0 (Nat.le_of_ble_eq_true rfl) f_X0_18 d_X0_init_21 (fun _ => ⟨rfl, rfl⟩) rfl (Or.inr ⟨_, rfl⟩) rfl (fun z => absurd z (by decide)) ⟨by decide, by decide, is_83.2.2.1, is_83.2.2.2⟩ ?_
  refine jm_aloadn d_X0_init_24 rfl ?_
  refine jm_sipush (v := 400) d_X0_init_25 rfl (jm_okI (by decide) (by decide)) ?_
  refine jm_newa (at0 := .int) (ty := .int) (t := 2) (N := 400) rfl (Or.inl ⟨rfl, rfl⟩) ay_int d_X0_init_28 rfl (by decide) (by decide) (by decide) (Nat.le_of_ble_eq_true rfl) (Nat.le_of_ble_eq_true rfl) (fun z => absurd z (by decide)) ?_
  refine jm_putR (k := 4) (ki := 4) cf_X0 (Nat.le_of_ble_eq_true rfl) f_X0_22 d_X0_init_30 (fun _ => ⟨rfl, rfl⟩) rfl (Or.inr ⟨_, rfl⟩) rfl (fun z => absurd z (by decide)) ⟨by decide, by decide, is_83.2.2.1, is_83.2.2.2⟩ ?_
  refine jm_aloadn d_X0_init_33 rfl ?_
  refine jm_newo tyX1 cf_X1.1 tyX1_ok rfl rfl hz_X1 cl_X0_25 it_X1 in_X1 d_X0_init_34 rfl (by decide) (Nat.le_of_ble_eq_true rfl) (Nat.le_of_ble_eq_true rfl) (fun z => absurd z (by decide)) ?_
  refine jm_dup rfl d_X0_init_37 ?_
  refine jm_invIN (n1 := 98) (mc := 2) (ms := 48) (av := []) (host := RX10) w_X1_init (List.mem_of_getElem? (i := 4) rfl) d_X0_init_38 rfl (by decide) ⟨(Nat.le_of_ble_eq_true rfl), (Nat.le_of_ble_eq_true rfl)⟩ (Nat.le_of_ble_eq_true rfl) rfl ?_
  refine ci_X1_95 (d := d) (fun _ => ?_)
  refine jm_putR (k := 5) (ki := 5) cf_X0 (Nat.le_of_ble_eq_true rfl) f_X0_28 d_X0_init_41 (fun _ => ⟨rfl, rfl⟩) rfl (Or.inl ⟨_, rfl⟩) rfl (fun z => absurd z (by decide)) ⟨by decide, by decide, is_83.2.2.1, is_83.2.2.2⟩ ?_
  refine jm_aloadn d_X0_init_44 rfl ?_
  refine jm_newo tyX4 cf_X4.1 tyX4_ok rfl rfl hz_X4 cl_X0_32 it_X4 in_X4 d_X0_init_45 rfl (by decide) (Nat.le_of_ble_eq_true rfl) (Nat.le_of_ble_eq_true rfl) (fun z => absurd z (by decide)) ?_
  refine jm_dup rfl d_X0_init_48 ?_
  refine jm_invIN (n1 := 102) (mc := 3) (ms := 192) (av := []) (host := RX10) w_X4_init (List.mem_of_getElem? (i := 5) rfl) d_X0_init_49 rfl (by decide) ⟨(Nat.le_of_ble_eq_true rfl), (Nat.le_of_ble_eq_true rfl)⟩ (Nat.le_of_ble_eq_true rfl) rfl ?_
  refine ci_X4_98 (d := d) (fun _ => ?_)
  refine jm_putR (k := 6) (ki := 6) cf_X0 (Nat.le_of_ble_eq_true rfl) f_X0_35 d_X0_init_52 (fun _ => ⟨rfl, rfl⟩) rfl (Or.inl ⟨_, rfl⟩) rfl (fun z => absurd z (by decide)) ⟨by decide, by decide, is_83.2.2.1, is_83.2.2.2⟩ ?_
  exact jm_ret (o := none) d_X0_init_55 rfl ⟨(Nat.le_of_ble_eq_true rfl), (Nat.le_of_ble_eq_true rfl)⟩ jm_r_V h rfl
def km_X5_103 (μ : jm_M) : jm_M := (jm_up (jm_up (jm_up (jm_new (jm_up (jm_new (jm_up (jm_new (jm_up (jm_new (jm_up (jm_new (jm_up (jm_new (jm_up (jm_new (jm_up (jm_new μ 104) 103 2 ((104 : Nat) : Int)) 105) 103 3 ((105 : Nat) : Int)) 106) 103 5 ((106 : Nat) : Int)) 107) 103 6 ((107 : Nat) : Int)) 108) 103 7 ((108 : Nat) : Int)) 109) 103 8 ((109 : Nat) : Int)) 110) 103 9 ((110 : Nat) : Int)) 111) 103 12 ((111 : Nat) : Int)) 103 11 1) ((111 : Nat) : Int) 0 2)
theorem ci_X5_103 {E : jm_E} {d : Nat} {μ : jm_M} {Q : Option jm_V → jm_M → Prop} (h : Q none (km_X5_103 μ)) : jm_Cl E m_X5_init (d + 1) 104 112 8 72 [jm_R ((103 : Nat) : Int)] μ Q := by
  refine jm_Cl.of2 (by decide +kernel) (L0 := [some (jm_R ((103 : Nat) : Int))]) rfl (Nat.le_of_ble_eq_true rfl) (fun _ => ?_)
  refine jm_aloadn d_X5_init_0 rfl ?_
  refine jm_objInit l_X5_3 oj_1 oj_2 d_X5_init_1 (by decide) (Nat.le_of_ble_eq_true rfl) ?_
  refine jm_aloadn d_X5_init_4 rfl ?_
  refine jm_bipush (v := 8) d_X5_init_5 rfl (jm_okI (by decide) (by decide)) ?_
  refine jm_newa (at0 := .long) (ty := .long) (t := 3) (N := 8) rfl (Or.inr (Or.inl ⟨rfl, rfl⟩)) ay_long d_X5_init_7 rfl (by decide) (by decide) (by decide) (Nat.le_of_ble_eq_true rfl) (Nat.le_of_ble_eq_true rfl) (fun z => absurd z (by decide)) ?_
  refine jm_putR (k := 2) (ki := 2) cf_X5 (Nat.le_of_ble_eq_true rfl) f_X5_11 d_X5_init_9 (fun _ => ⟨rfl, rfl⟩) rfl (Or.inr ⟨_, rfl⟩) rfl (fun z => absurd z (by decide)) ⟨by decide, by decide, is_103.2.2.1, is_103.2.2.2⟩ ?_
  refine jm_aloadn d_X5_init_12 rfl ?_
  refine jm_bipush (v := 8) d_X5_init_13 rfl (jm_okI (by decide) (by decide)) ?_
  refine jm_newa (at0 := .int) (ty := .int) (t := 2) (N := 8) rfl (Or.inl ⟨rfl, rfl⟩) ay_int d_X5_init_15 rfl (by decide) (by decide) (by decide) (Nat.le_of_ble_eq_true rfl) (Nat.le_of_ble_eq_true rfl) (fun z => absurd z (by decide)) ?_
  refine jm_putR (k := 3) (ki := 3) cf_X5 (Nat.le_of_ble_eq_true rfl) f_X5_15 d_X5_init_17 (fun _ => ⟨rfl, rfl⟩) rfl (Or.inr ⟨_, rfl⟩) rfl (fun z => absurd z (by decide)) ⟨by decide, by decide, is_103.2.2.1, is_103.2.2.2⟩ ?_
  refine jm_aloadn d_X5_init_20 rfl ?_
  refine jm_bipush (v := 10) d_X5_init_21 rfl (jm_okI (by decide) (by decide)) ?_
  refine jm_newa (at0 := .long) (ty := .long) (t := 3) (N := 10) rfl (Or.inr (Or.inl ⟨rfl, rfl⟩)) ay_long d_X5_init_23 rfl (by decide) (by decide) (by decide) (Nat.le_of_ble_eq_true rfl) (Nat.le_of_ble_eq_true rfl) (fun z => absurd z (by decide)) ?_
  refine jm_putR (k := 5) (ki := 5) cf_X5 (Nat.le_of_ble_eq_true rfl) f_X5_19 d_X5_init_25 (fun _ => ⟨rfl, rfl⟩) rfl (Or.inr ⟨_, rfl⟩) rfl (fun z => absurd z (by decide)) ⟨by decide, by decide, is_103.2.2.1, is_103.2.2.2⟩ ?_
  refine jm_aloadn d_X5_init_28 rfl ?_
  refine jm_bipush (v := 10) d_X5_init_29 rfl (jm_okI (by decide) (by decide)) ?_
  refine jm_newa (at0 := .int) (ty := .int) (t := 2) (N := 10) rfl (Or.inl ⟨rfl, rfl⟩) ay_int d_X5_init_31 rfl (by decide) (by decide) (by decide) (Nat.le_of_ble_eq_true rfl) (Nat.le_of_ble_eq_true rfl) (fun z => absurd z (by decide)) ?_
  refine jm_putR (k := 6) (ki := 6) cf_X5 (Nat.le_of_ble_eq_true rfl) f_X5_22 d_X5_init_33 (fun _ => ⟨rfl, rfl⟩) rfl (Or.inr ⟨_, rfl⟩) rfl (fun z => absurd z (by decide)) ⟨by decide, by decide, is_103.2.2.1, is_103.2.2.2⟩ ?_
  refine jm_aloadn d_X5_init_36 rfl ?_
  refine jm_bipush (v := 10) d_X5_init_37 rfl (jm_okI (by decide) (by decide)) ?_
  refine jm_newa (at0 := .int) (ty := .int) (t := 2) (N := 10) rfl (Or.inl ⟨rfl, rfl⟩) ay_int d_X5_init_39 rfl (by decide) (by decide) (by decide) (Nat.le_of_ble_eq_true rfl) (Nat.le_of_ble_eq_true rfl) (fun z => absurd z (by decide)) ?_
  refine jm_putR (k := 7) (ki := 7) cf_X5 (Nat.le_of_ble_eq_true rfl) f_X5_25 d_X5_init_41 (fun _ => ⟨rfl, rfl⟩) rfl (Or.inr ⟨_, rfl⟩) rfl (fun z => absurd z (by decide)) ⟨by decide, by decide, is_103.2.2.1, is_103.2.2.2⟩ ?_
  refine jm_aloadn d_X5_init_44 rfl ?_
  refine jm_bipush (v := 10) d_X5_init_45 rfl (jm_okI (by decide) (by decide)) ?_
  refine jm_newa (at0 := .int) (ty := .int) (t := 2) (N := 10) rfl (Or.inl ⟨rfl, rfl⟩) ay_int d_X5_init_47 rfl (by decide) (by decide) (by decide) (Nat.le_of_ble_eq_true rfl) (Nat.le_of_ble_eq_true rfl) (fun z => absurd z (by decide)) ?_
  refine jm_putR (k := 8) (ki := 8) cf_X5 (Nat.le_of_ble_eq_true rfl) f_X5_28 d_X5_init_49 (fun _ => ⟨rfl, rfl⟩) rfl (Or.inr ⟨_, rfl⟩) rfl (fun z => absurd z (by decide)) ⟨by decide, by decide, is_103.2.2.1, is_103.2.2.2⟩ ?_
  refine jm_aloadn d_X5_init_52 rfl ?_
  refine jm_bipush (v := 10) d_X5_init_53 rfl (jm_okI (by decide) (by decide)) ?_
  refine jm_newa (at0 := .int) (ty := .int) (t := 2) (N := 10) rfl (Or.inl ⟨rfl, rfl⟩) ay_int d_X5_init_55 rfl (by decide) (by decide) (by decide) (Nat.le_of_ble_eq_true rfl) (Nat.le_of_ble_eq_true rfl) (fun z => absurd z (by decide)) ?_
  refine jm_putR (k := 9) (ki := 9) cf_X5 (Nat.le_of_ble_eq_true rfl) f_X5_31 d_X5_init_57 (fun _ => ⟨rfl, rfl⟩) rfl (Or.inr ⟨_, rfl⟩) rfl (fun z => absurd z (by decide)) ⟨by decide, by decide, is_103.2.2.1, is_103.2.2.2⟩ ?_
  refine jm_aloadn d_X5_init_60 rfl ?_
  refine jm_bipush (v := 6) d_X5_init_61 rfl (jm_okI (by decide) (by decide)) ?_
  refine jm_newa (at0 := .int) (ty := .int) (t := 2) (N := 6) rfl (Or.inl ⟨rfl, rfl⟩) ay_int d_X5_init_63 rfl (by decide) (by decide) (by decide) (Nat.le_of_ble_eq_true rfl) (Nat.le_of_ble_eq_true rfl) (fun z => absurd z (by decide)) ?_
  refine jm_putR (k := 12) (ki := 12) cf_X5 (Nat.le_of_ble_eq_true rfl) f_X5_34 d_X5_init_65 (fun _ => ⟨rfl, rfl⟩) rfl (Or.inr ⟨_, rfl⟩) rfl (fun z => absurd z (by decide)) ⟨by decide, by decide, is_103.2.2.1, is_103.2.2.2⟩ ?_
  refine jm_aloadn d_X5_init_68 rfl ?_
  refine jm_iconst (v := 1) d_X5_init_69 rfl (jm_okI (by decide) (by decide)) ?_
  refine jm_putI (k := 11) (ki := 11) cf_X5 (Nat.le_of_ble_eq_true rfl) f_X5_37 d_X5_init_70 (fun z => absurd z (by decide)) rfl rfl rfl (fun z => absurd z (by decide)) ⟨by decide, by decide, is_103.2.2.1, is_103.2.2.2⟩ ?_
  refine jm_aloadn d_X5_init_73 rfl ?_
  refine jm_getR (k := 12) (ki := 12) cf_X5 (Nat.le_of_ble_eq_true rfl) f_X5_34 d_X5_init_74 rfl rfl ⟨by decide, by decide, is_103.2.2.1, is_103.2.2.2⟩ ((jm_up_i (by decide)).trans jm_up_at) ?_
  refine jm_iconst (v := 0) d_X5_init_77 rfl (jm_okI (by decide) (by decide)) ?_
  refine jm_iconst (v := 2) d_X5_init_78 rfl (jm_okI (by decide) (by decide)) ?_
  refine jm_iastore d_X5_init_79 ⟨by decide, by decide, by decide +kernel, by decide, by decide +kernel⟩ ?_
  exact jm_ret (o := none) d_X5_init_80 rfl ⟨(Nat.le_of_ble_eq_true rfl), (Nat.le_of_ble_eq_true rfl)⟩ jm_r_V h rfl
def km_X1_114 (μ : jm_M) : jm_M := (jm_up (jm_new (jm_up (jm_new μ 115) 114 2 ((115 : Nat) : Int)) 116) 114 3 ((116 : Nat) : Int))
theorem ci_X1_114 {E : jm_E} {d : Nat} {μ : jm_M} {Q : Option jm_V → jm_M → Prop} (h : Q none (km_X1_114 μ)) : jm_Cl E m_X1_init (d + 1) 115 117 2 48 [jm_R ((114 : Nat) : Int)] μ Q := by
  refine jm_Cl.of2 (by decide +kernel) (L0 := [some (jm_R ((114 : Nat) : Int))]) rfl (Nat.le_of_ble_eq_true rfl) (fun _ => ?_)
  refine jm_aloadn d_X1_init_0 rfl ?_
  refine jm_objInit l_X1_3 oj_1 oj_2 d_X1_init_1 (by decide) (Nat.le_of_ble_eq_true rfl) ?_
  refine jm_aloadn d_X1_init_4 rfl ?_
  refine jm_bipush (v := 24) d_X1_init_5 rfl (jm_okI (by decide) (by decide)) ?_
  refine jm_newa (at0 := .int) (ty := .int) (t := 2) (N := 24) rfl (Or.inl ⟨rfl, rfl⟩) ay_int d_X1_init_7 rfl (by decide) (by decide) (by decide) (Nat.le_of_ble_eq_true rfl) (Nat.le_of_ble_eq_true rfl) (fun z => absurd z (by decide)) ?_
  refine jm_putR (k := 2) (ki := 2) cf_X1 (Nat.le_of_ble_eq_true rfl) f_X1_11 d_X1_init_9 (fun _ => ⟨rfl, rfl⟩) rfl (Or.inr ⟨_, rfl⟩) rfl (fun z => absurd z (by decide)) ⟨by decide, by decide, is_114.2.2.1, is_114.2.2.2⟩ ?_
  refine jm_aloadn d_X1_init_12 rfl ?_
  refine jm_bipush (v := 24) d_X1_init_13 rfl (jm_okI (by decide) (by decide)) ?_
  refine jm_newa (at0 := .int) (ty := .int) (t := 2) (N := 24) rfl (Or.inl ⟨rfl, rfl⟩) ay_int d_X1_init_15 rfl (by decide) (by decide) (by decide) (Nat.le_of_ble_eq_true rfl) (Nat.le_of_ble_eq_true rfl) (fun z => absurd z (by decide)) ?_
  refine jm_putR (k := 3) (ki := 3) cf_X1 (Nat.le_of_ble_eq_true rfl) f_X1_15 d_X1_init_17 (fun _ => ⟨rfl, rfl⟩) rfl (Or.inr ⟨_, rfl⟩) rfl (fun z => absurd z (by decide)) ⟨by decide, by decide, is_114.2.2.1, is_114.2.2.2⟩ ?_
  exact jm_ret (o := none) d_X1_init_20 rfl ⟨(Nat.le_of_ble_eq_true rfl), (Nat.le_of_ble_eq_true rfl)⟩ jm_r_V h rfl
def km_X4_117 (μ : jm_M) : jm_M := (jm_up (jm_new (jm_up (jm_new (jm_up (jm_new μ 118) 117 2 ((118 : Nat) : Int)) 119) 117 3 ((119 : Nat) : Int)) 120) 117 4 ((120 : Nat) : Int))
theorem ci_X4_117 {E : jm_E} {d : Nat} {μ : jm_M} {Q : Option jm_V → jm_M → Prop} (h : Q none (km_X4_117 μ)) : jm_Cl E m_X4_init (d + 1) 118 121 3 192 [jm_R ((117 : Nat) : Int)] μ Q := by
  refine jm_Cl.of2 (by decide +kernel) (L0 := [some (jm_R ((117 : Nat) : Int))]) rfl (Nat.le_of_ble_eq_true rfl) (fun _ => ?_)
  refine jm_aloadn d_X4_init_0 rfl ?_
  refine jm_objInit l_X4_3 oj_1 oj_2 d_X4_init_1 (by decide) (Nat.le_of_ble_eq_true rfl) ?_
  refine jm_aloadn d_X4_init_4 rfl ?_
  refine jm_bipush (v := 64) d_X4_init_5 rfl (jm_okI (by decide) (by decide)) ?_
  refine jm_newa (at0 := .int) (ty := .int) (t := 2) (N := 64) rfl (Or.inl ⟨rfl, rfl⟩) ay_int d_X4_init_7 rfl (by decide) (by decide) (by decide) (Nat.le_of_ble_eq_true rfl) (Nat.le_of_ble_eq_true rfl) (fun z => absurd z (by decide)) ?_
  refine jm_putR (k := 2) (ki := 2) cf_X4 (Nat.le_of_ble_eq_true rfl) f_X4_11 d_X4_init_9 (fun _ => ⟨rfl, rfl⟩) rfl (Or.inr ⟨_, rfl⟩) rfl (fun z => absurd z (by decide)) ⟨by decide, by decide, is_117.2.2.1, is_117.2.2.2⟩ ?_
  refine jm_aloadn d_X4_init_12 rfl ?_
  refine jm_bipush (v := 64) d_X4_init_13 rfl (jm_okI (by decide) (by decide)) ?_
  refine jm_newa (at0 := .int) (ty := .int) (t := 2) (N := 64) rfl (Or.inl ⟨rfl, rfl⟩) ay_int d_X4_init_15 rfl (by decide) (by decide) (by decide) (Nat.le_of_ble_eq_true rfl) (Nat.le_of_ble_eq_true rfl) (fun z => absurd z (by decide)) ?_
  refine jm_putR (k := 3) (ki := 3) cf_X4 (Nat.le_of_ble_eq_true rfl) f_X4_15 d_X4_init_17 (fun _ => ⟨rfl, rfl⟩) rfl (Or.inr ⟨_, rfl⟩) rfl (fun z => absurd z (by decide)) ⟨by decide, by decide, is_117.2.2.1, is_117.2.2.2⟩ ?_
  refine jm_aloadn d_X4_init_20 rfl ?_
  refine jm_bipush (v := 64) d_X4_init_21 rfl (jm_okI (by decide) (by decide)) ?_
  refine jm_newa (at0 := .int) (ty := .int) (t := 2) (N := 64) rfl (Or.inl ⟨rfl, rfl⟩) ay_int d_X4_init_23 rfl (by decide) (by decide) (by decide) (Nat.le_of_ble_eq_true rfl) (Nat.le_of_ble_eq_true rfl) (fun z => absurd z (by decide)) ?_
  refine jm_putR (k := 4) (ki := 4) cf_X4 (Nat.le_of_ble_eq_true rfl) f_X4_18 d_X4_init_25 (fun _ => ⟨rfl, rfl⟩) rfl (Or.inr ⟨_, rfl⟩) rfl (fun z => absurd z (by decide)) ⟨by decide, by decide, is_117.2.2.1, is_117.2.2.2⟩ ?_
  exact jm_ret (o := none) d_X4_init_28 rfl ⟨(Nat.le_of_ble_eq_true rfl), (Nat.le_of_ble_eq_true rfl)⟩ jm_r_V h rfl
def km_X0_102 (μ : jm_M) : jm_M := (jm_up (km_X4_117 (jm_new (jm_up (km_X1_114 (jm_new (jm_up (jm_new (jm_up (jm_new (jm_up (km_X5_103 (jm_new μ 103)) 102 1 ((103 : Nat) : Int)) 112) 102 3 ((112 : Nat) : Int)) 113) 102 4 ((113 : Nat) : Int)) 114)) 102 5 ((114 : Nat) : Int)) 117)) 102 6 ((117 : Nat) : Int))
theorem ci_X0_102 {E : jm_E} {d : Nat} {μ : jm_M} {Q : Option jm_V → jm_M → Prop} (h : Q none (km_X0_102 μ)) : jm_Cl E m_X0_init (d + 2) 103 121 18 1137 [jm_R ((102 : Nat) : Int)] μ Q := by
  refine jm_Cl.of2 (by decide +kernel) (L0 := [some (jm_R ((102 : Nat) : Int))]) rfl (Nat.le_of_ble_eq_true rfl) (fun _ => ?_)
  refine jm_aloadn d_X0_init_0 rfl ?_
  refine jm_objInit l_X0_1 oj_1 oj_2 d_X0_init_1 (by decide) (Nat.le_of_ble_eq_true rfl) ?_
  refine jm_aloadn d_X0_init_4 rfl ?_
  refine jm_newo tyX5 cf_X5.1 tyX5_ok rfl rfl hz_X5 cl_X0_7 it_X5 in_X5 d_X0_init_5 rfl (by decide) (Nat.le_of_ble_eq_true rfl) (Nat.le_of_ble_eq_true rfl) (fun z => absurd z (by decide)) ?_
  refine jm_dup rfl d_X0_init_8 ?_
  refine jm_invI (n1 := 112) (mc := 8) (ms := 72) (av := []) w_X5_init (Or.inl l_X0_9) d_X0_init_9 rfl (by decide) ⟨(Nat.le_of_ble_eq_true rfl), (Nat.le_of_ble_eq_true rfl)⟩ (Nat.le_of_ble_eq_true rfl) rfl ?_
  refine ci_X5_103 (d := d) (fun _ => ?_)
  refine jm_putR (k := 1) (ki := 1) cf_X0 (Nat.le_of_ble_eq_true rfl) f_X0_10 d_X0_init_12 (fun _ => ⟨rfl, rfl⟩) rfl (Or.inl ⟨_, rfl⟩) rfl (fun z => absurd z (by decide)) ⟨by decide, by decide, is_102.2.2.1, is_102.2.2.2⟩ ?_
  refine jm_aloadn d_X0_init_15 rfl ?_
  refine jm_sipush (v := 400) d_X0_init_16 rfl (jm_okI (by decide) (by decide)) ?_
  refine jm_newa (at0 := .int) (ty := .int) (t := 2) (N := 400) rfl (Or.inl ⟨rfl, rfl⟩) ay_int d_X0_init_19 rfl (by decide) (by decide) (by decide) (Nat.le_of_ble_eq_true rfl) (Nat.le_of_ble_eq_true rfl) (fun z => absurd z (by decide)) ?_
  refine jm_putR (k := 3) (ki := 3) cf_X0 (Nat.le_of_ble_eq_true rfl) f_X0_18 d_X0_init_21 (fun _ => ⟨rfl, rfl⟩) rfl (Or.inr ⟨_, rfl⟩) rfl (fun z => absurd z (by decide)) ⟨by decide, by decide, is_102.2.2.1, is_102.2.2.2⟩ ?_
  refine jm_aloadn d_X0_init_24 rfl ?_
  refine jm_sipush (v := 400) d_X0_init_25 rfl (jm_okI (by decide) (by decide)) ?_
  refine jm_newa (at0 := .int) (ty := .int) (t := 2) (N := 400) rfl (Or.inl ⟨rfl, rfl⟩) ay_int d_X0_init_28 rfl (by decide) (by decide) (by decide) (Nat.le_of_ble_eq_true rfl) (Nat.le_of_ble_eq_true rfl) (fun z => absurd z (by decide)) ?_
  refine jm_putR (k := 4) (ki := 4) cf_X0 (Nat.le_of_ble_eq_true rfl) f_X0_22 d_X0_init_30 (fun _ => ⟨rfl, rfl⟩) rfl (Or.inr ⟨_, rfl⟩) rfl (fun z => absurd z (by decide)) ⟨by decide, by decide, is_102.2.2.1, is_102.2.2.2⟩ ?_
  refine jm_aloadn d_X0_init_33 rfl ?_
  refine jm_newo tyX1 cf_X1.1 tyX1_ok rfl rfl hz_X1 cl_X0_25 it_X1 in_X1 d_X0_init_34 rfl (by decide) (Nat.le_of_ble_eq_true rfl) (Nat.le_of_ble_eq_true rfl) (fun z => absurd z (by decide)) ?_
  refine jm_dup rfl d_X0_init_37 ?_
  refine jm_invIN (n1 := 117) (mc := 2) (ms := 48) (av := []) (host := RX10) w_X1_init (List.mem_of_getElem? (i := 4) rfl) d_X0_init_38 rfl (by decide) ⟨(Nat.le_of_ble_eq_true rfl), (Nat.le_of_ble_eq_true rfl)⟩ (Nat.le_of_ble_eq_true rfl) rfl ?_
  refine ci_X1_114 (d := d) (fun _ => ?_)
  refine jm_putR (k := 5) (ki := 5) cf_X0 (Nat.le_of_ble_eq_true rfl) f_X0_28 d_X0_init_41 (fun _ => ⟨rfl, rfl⟩) rfl (Or.inl ⟨_, rfl⟩) rfl (fun z => absurd z (by decide)) ⟨by decide, by decide, is_102.2.2.1, is_102.2.2.2⟩ ?_
  refine jm_aloadn d_X0_init_44 rfl ?_
  refine jm_newo tyX4 cf_X4.1 tyX4_ok rfl rfl hz_X4 cl_X0_32 it_X4 in_X4 d_X0_init_45 rfl (by decide) (Nat.le_of_ble_eq_true rfl) (Nat.le_of_ble_eq_true rfl) (fun z => absurd z (by decide)) ?_
  refine jm_dup rfl d_X0_init_48 ?_
  refine jm_invIN (n1 := 121) (mc := 3) (ms := 192) (av := []) (host := RX10) w_X4_init (List.mem_of_getElem? (i := 5) rfl) d_X0_init_49 rfl (by decide) ⟨(Nat.le_of_ble_eq_true rfl), (Nat.le_of_ble_eq_true rfl)⟩ (Nat.le_of_ble_eq_true rfl) rfl ?_
  refine ci_X4_117 (d := d) (fun _ => ?_)
  refine jm_putR (k := 6) (ki := 6) cf_X0 (Nat.le_of_ble_eq_true rfl) f_X0_35 d_X0_init_52 (fun _ => ⟨rfl, rfl⟩) rfl (Or.inl ⟨_, rfl⟩) rfl (fun z => absurd z (by decide)) ⟨by decide, by decide, is_102.2.2.1, is_102.2.2.2⟩ ?_
  exact jm_ret (o := none) d_X0_init_55 rfl ⟨(Nat.le_of_ble_eq_true rfl), (Nat.le_of_ble_eq_true rfl)⟩ jm_r_V h rfl
def km_X3_121 (μ : jm_M) : jm_M := (jm_up (jm_new (jm_up (jm_new μ 122) 121 4 ((122 : Nat) : Int)) 123) 121 5 ((123 : Nat) : Int))
theorem ci_X3_121 {E : jm_E} {d : Nat} {μ : jm_M} {Q : Option jm_V → jm_M → Prop} (h : Q none (km_X3_121 μ)) : jm_Cl E m_X3_init (d + 1) 122 124 2 16 [jm_R ((121 : Nat) : Int)] μ Q := by
  refine jm_Cl.of2 (by decide +kernel) (L0 := [some (jm_R ((121 : Nat) : Int))]) rfl (Nat.le_of_ble_eq_true rfl) (fun _ => ?_)
  refine jm_aloadn d_X3_init_0 rfl ?_
  refine jm_objInit l_X3_3 oj_1 oj_2 d_X3_init_1 (by decide) (Nat.le_of_ble_eq_true rfl) ?_
  refine jm_aloadn d_X3_init_4 rfl ?_
  refine jm_bipush (v := 8) d_X3_init_5 rfl (jm_okI (by decide) (by decide)) ?_
  refine jm_newa (at0 := .int) (ty := .int) (t := 2) (N := 8) rfl (Or.inl ⟨rfl, rfl⟩) ay_int d_X3_init_7 rfl (by decide) (by decide) (by decide) (Nat.le_of_ble_eq_true rfl) (Nat.le_of_ble_eq_true rfl) (fun z => absurd z (by decide)) ?_
  refine jm_putR (k := 4) (ki := 4) cf_X3 (Nat.le_of_ble_eq_true rfl) f_X3_9 d_X3_init_9 (fun _ => ⟨rfl, rfl⟩) rfl (Or.inr ⟨_, rfl⟩) rfl (fun z => absurd z (by decide)) ⟨by decide, by decide, is_121.2.2.1, is_121.2.2.2⟩ ?_
  refine jm_aloadn d_X3_init_12 rfl ?_
  refine jm_bipush (v := 8) d_X3_init_13 rfl (jm_okI (by decide) (by decide)) ?_
  refine jm_newa (at0 := .int) (ty := .int) (t := 2) (N := 8) rfl (Or.inl ⟨rfl, rfl⟩) ay_int d_X3_init_15 rfl (by decide) (by decide) (by decide) (Nat.le_of_ble_eq_true rfl) (Nat.le_of_ble_eq_true rfl) (fun z => absurd z (by decide)) ?_
  refine jm_putR (k := 5) (ki := 5) cf_X3 (Nat.le_of_ble_eq_true rfl) f_X3_15 d_X3_init_17 (fun _ => ⟨rfl, rfl⟩) rfl (Or.inr ⟨_, rfl⟩) rfl (fun z => absurd z (by decide)) ⟨by decide, by decide, is_121.2.2.1, is_121.2.2.2⟩ ?_
  exact jm_ret (o := none) d_X3_init_20 rfl ⟨(Nat.le_of_ble_eq_true rfl), (Nat.le_of_ble_eq_true rfl)⟩ jm_r_V h rfl
def km_X9_124 (μ : jm_M) : jm_M := (jm_up (jm_new (jm_up (jm_new (jm_up (jm_new (jm_up (jm_new (jm_up (jm_new μ 125) 124 1 ((125 : Nat) : Int)) 126) 124 2 ((126 : Nat) : Int)) 127) 124 7 ((127 : Nat) : Int)) 128) 124 8 ((128 : Nat) : Int)) 129) 124 9 ((129 : Nat) : Int))
theorem ci_X9_124 {E : jm_E} {d : Nat} {μ : jm_M} {Q : Option jm_V → jm_M → Prop} (h : Q none (km_X9_124 μ)) : jm_Cl E m_X9_init (d + 1) 125 130 5 120 [jm_R ((124 : Nat) : Int)] μ Q := by
  refine jm_Cl.of2 (by decide +kernel) (L0 := [some (jm_R ((124 : Nat) : Int))]) rfl (Nat.le_of_ble_eq_true rfl) (fun _ => ?_)
  refine jm_aloadn d_X9_init_0 rfl ?_
  refine jm_objInit l_X9_3 oj_1 oj_2 d_X9_init_1 (by decide) (Nat.le_of_ble_eq_true rfl) ?_
  refine jm_aloadn d_X9_init_4 rfl ?_
  refine jm_bipush (v := 24) d_X9_init_5 rfl (jm_okI (by decide) (by decide)) ?_
  refine jm_newa (at0 := .int) (ty := .int) (t := 2) (N := 24) rfl (Or.inl ⟨rfl, rfl⟩) ay_int d_X9_init_7 rfl (by decide) (by decide) (by decide) (Nat.le_of_ble_eq_true rfl) (Nat.le_of_ble_eq_true rfl) (fun z => absurd z (by decide)) ?_
  refine jm_putR (k := 1) (ki := 1) cf_X9 (Nat.le_of_ble_eq_true rfl) f_X9_11 d_X9_init_9 (fun _ => ⟨rfl, rfl⟩) rfl (Or.inr ⟨_, rfl⟩) rfl (fun z => absurd z (by decide)) ⟨by decide, by decide, is_124.2.2.1, is_124.2.2.2⟩ ?_
  refine jm_aloadn d_X9_init_12 rfl ?_
  refine jm_bipush (v := 24) d_X9_init_13 rfl (jm_okI (by decide) (by decide)) ?_
  refine jm_newa (at0 := .int) (ty := .int) (t := 2) (N := 24) rfl (Or.inl ⟨rfl, rfl⟩) ay_int d_X9_init_15 rfl (by decide) (by decide) (by decide) (Nat.le_of_ble_eq_true rfl) (Nat.le_of_ble_eq_true rfl) (fun z => absurd z (by decide)) ?_
  refine jm_putR (k := 2) (ki := 2) cf_X9 (Nat.le_of_ble_eq_true rfl) f_X9_17 d_X9_init_17 (fun _ => ⟨rfl, rfl⟩) rfl (Or.inr ⟨_, rfl⟩) rfl (fun z => absurd z (by decide)) ⟨by decide, by decide, is_124.2.2.1, is_124.2.2.2⟩ ?_
  refine jm_aloadn d_X9_init_20 rfl ?_
  refine jm_bipush (v := 24) d_X9_init_21 rfl (jm_okI (by decide) (by decide)) ?_
  refine jm_newa (at0 := .int) (ty := .int) (t := 2) (N := 24) rfl (Or.inl ⟨rfl, rfl⟩) ay_int d_X9_init_23 rfl (by decide) (by decide) (by decide) (Nat.le_of_ble_eq_true rfl) (Nat.le_of_ble_eq_true rfl) (fun z => absurd z (by decide)) ?_
  refine jm_putR (k := 7) (ki := 7) cf_X9 (Nat.le_of_ble_eq_true rfl) f_X9_20 d_X9_init_25 (fun _ => ⟨rfl, rfl⟩) rfl (Or.inr ⟨_, rfl⟩) rfl (fun z => absurd z (by decide)) ⟨by decide, by decide, is_124.2.2.1, is_124.2.2.2⟩ ?_
  refine jm_aloadn d_X9_init_28 rfl ?_
  refine jm_bipush (v := 24) d_X9_init_29 rfl (jm_okI (by decide) (by decide)) ?_
  refine jm_newa (at0 := .int) (ty := .int) (t := 2) (N := 24) rfl (Or.inl ⟨rfl, rfl⟩) ay_int d_X9_init_31 rfl (by decide) (by decide) (by decide) (Nat.le_of_ble_eq_true rfl) (Nat.le_of_ble_eq_true rfl) (fun z => absurd z (by decide)) ?_
  refine jm_putR (k := 8) (ki := 8) cf_X9 (Nat.le_of_ble_eq_true rfl) f_X9_23 d_X9_init_33 (fun _ => ⟨rfl, rfl⟩) rfl (Or.inr ⟨_, rfl⟩) rfl (fun z => absurd z (by decide)) ⟨by decide, by decide, is_124.2.2.1, is_124.2.2.2⟩ ?_
  refine jm_aloadn d_X9_init_36 rfl ?_
  refine jm_bipush (v := 24) d_X9_init_37 rfl (jm_okI (by decide) (by decide)) ?_
  refine jm_newa (at0 := .int) (ty := .int) (t := 2) (N := 24) rfl (Or.inl ⟨rfl, rfl⟩) ay_int d_X9_init_39 rfl (by decide) (by decide) (by decide) (Nat.le_of_ble_eq_true rfl) (Nat.le_of_ble_eq_true rfl) (fun z => absurd z (by decide)) ?_
  refine jm_putR (k := 9) (ki := 9) cf_X9 (Nat.le_of_ble_eq_true rfl) f_X9_26 d_X9_init_41 (fun _ => ⟨rfl, rfl⟩) rfl (Or.inr ⟨_, rfl⟩) rfl (fun z => absurd z (by decide)) ⟨by decide, by decide, is_124.2.2.1, is_124.2.2.2⟩ ?_
  exact jm_ret (o := none) d_X9_init_44 rfl ⟨(Nat.le_of_ble_eq_true rfl), (Nat.le_of_ble_eq_true rfl)⟩ jm_r_V h rfl
def km_X2_130 (μ : jm_M) : jm_M := (jm_up (jm_new (jm_up (jm_new (jm_up μ 130 2 (-1)) 131) 130 4 ((131 : Nat) : Int)) 132) 130 5 ((132 : Nat) : Int))
theorem ci_X2_130 {E : jm_E} {d : Nat} {μ : jm_M} {Q : Option jm_V → jm_M → Prop} (h : Q none (km_X2_130 μ)) : jm_Cl E m_X2_init (d + 1) 131 133 2 14 [jm_R ((130 : Nat) : Int)] μ Q := by
  refine jm_Cl.of2 (by decide +kernel) (L0 := [some (jm_R ((130 : Nat) : Int))]) rfl (Nat.le_of_ble_eq_true rfl) (fun _ => ?_)
  refine jm_aloadn d_X2_init_0 rfl ?_
  refine jm_objInit l_X2_3 oj_1 oj_2 d_X2_init_1 (by decide) (Nat.le_of_ble_eq_true rfl) ?_
  refine jm_aloadn d_X2_init_4 rfl ?_
  refine jm_iconst (v := (-1)) d_X2_init_5 rfl (jm_okI (by decide) (by decide)) ?_
  refine jm_putI (k := 2) (ki := 2) cf_X2 (Nat.le_of_ble_eq_true rfl) f_X2_9 d_X2_init_6 (fun z => absurd z (by decide)) rfl rfl rfl (fun z => absurd z (by decide)) ⟨by decide, by decide, is_130.2.2.1, is_130.2.2.2⟩ ?_
  refine jm_aloadn d_X2_init_9 rfl ?_
  refine jm_bipush (v := 7) d_X2_init_10 rfl (jm_okI (by decide) (by decide)) ?_
  refine jm_newa (at0 := .int) (ty := .int) (t := 2) (N := 7) rfl (Or.inl ⟨rfl, rfl⟩) ay_int d_X2_init_12 rfl (by decide) (by decide) (by decide) (Nat.le_of_ble_eq_true rfl) (Nat.le_of_ble_eq_true rfl) (fun z => absurd z (by decide)) ?_
  refine jm_putR (k := 4) (ki := 4) cf_X2 (Nat.le_of_ble_eq_true rfl) f_X2_15 d_X2_init_14 (fun _ => ⟨rfl, rfl⟩) rfl (Or.inr ⟨_, rfl⟩) rfl (fun z => absurd z (by decide)) ⟨by decide, by decide, is_130.2.2.1, is_130.2.2.2⟩ ?_
  refine jm_aloadn d_X2_init_17 rfl ?_
  refine jm_bipush (v := 7) d_X2_init_18 rfl (jm_okI (by decide) (by decide)) ?_
  refine jm_newa (at0 := .int) (ty := .int) (t := 2) (N := 7) rfl (Or.inl ⟨rfl, rfl⟩) ay_int d_X2_init_20 rfl (by decide) (by decide) (by decide) (Nat.le_of_ble_eq_true rfl) (Nat.le_of_ble_eq_true rfl) (fun z => absurd z (by decide)) ?_
  refine jm_putR (k := 5) (ki := 5) cf_X2 (Nat.le_of_ble_eq_true rfl) f_X2_19 d_X2_init_22 (fun _ => ⟨rfl, rfl⟩) rfl (Or.inr ⟨_, rfl⟩) rfl (fun z => absurd z (by decide)) ⟨by decide, by decide, is_130.2.2.1, is_130.2.2.2⟩ ?_
  exact jm_ret (o := none) d_X2_init_25 rfl ⟨(Nat.le_of_ble_eq_true rfl), (Nat.le_of_ble_eq_true rfl)⟩ jm_r_V h rfl
def km_X10_0 (μ : jm_M) : jm_M := (jm_up (km_X2_130 (jm_new (jm_up (km_X9_124 (jm_new (jm_up (km_X3_121 (jm_new (jm_up (km_X0_102 (jm_new (jm_up (km_X0_83 (jm_new (jm_up (km_X4_79 (jm_new (jm_up (km_X4_75 (jm_new (jm_up (km_X1_72 (jm_new (jm_up (km_X1_69 (jm_new (jm_up (km_X6_53 (jm_new (jm_up (km_X6_37 (jm_new (jm_up (km_X6_21 (jm_new (jm_up (km_X5_12 (jm_new (jm_up (km_X5_3 (jm_new (jm_up (km_X7_1 (jm_new μ 1)) 0 0 ((1 : Nat) : Int)) 3)) 0 1 ((3 : Nat) : Int)) 12)) 0 2 ((12 : Nat) : Int)) 21)) 0 3 ((21 : Nat) : Int)) 37)) 0 4 ((37 : Nat) : Int)) 53)) 0 5 ((53 : Nat) : Int)) 69)) 0 6 ((69 : Nat) : Int)) 72)) 0 7 ((72 : Nat) : Int)) 75)) 0 8 ((75 : Nat) : Int)) 79)) 0 9 ((79 : Nat) : Int)) 83)) 0 10 ((83 : Nat) : Int)) 102)) 0 11 ((102 : Nat) : Int)) 121)) 0 12 ((121 : Nat) : Int)) 124)) 0 13 ((124 : Nat) : Int)) 130)) 0 14 ((130 : Nat) : Int))
theorem ci_X10_0 {E : jm_E} {d : Nat} {μ : jm_M} {Q : Option jm_V → jm_M → Prop} (h : Q none (km_X10_0 μ)) : jm_Cl E m_X10_init (d + 3) 1 133 132 9229 [jm_R ((0 : Nat) : Int)] μ Q := by
  refine jm_Cl.of2 (by decide +kernel) (L0 := [some (jm_R ((0 : Nat) : Int))]) rfl (Nat.le_of_ble_eq_true rfl) (fun _ => ?_)
  refine jm_aloadn d_X10_init_0 rfl ?_
  refine jm_objInit l_X10_1 oj_1 oj_2 d_X10_init_1 (by decide) (Nat.le_of_ble_eq_true rfl) ?_
  refine jm_aloadn d_X10_init_4 rfl ?_
  refine jm_newo tyX7 cf_X7.1 tyX7_ok rfl rfl hz_X7 cl_X10_7 it_X7 in_X7 d_X10_init_5 rfl (by decide) (Nat.le_of_ble_eq_true rfl) (Nat.le_of_ble_eq_true rfl) (fun z => absurd z (by decide)) ?_
  refine jm_dup rfl d_X10_init_8 ?_
  refine jm_invIN (n1 := 3) (mc := 1) (ms := 940) (av := []) (host := RX10) w_X7_init (List.mem_of_getElem? (i := 0) rfl) d_X10_init_9 rfl (by decide) ⟨(Nat.le_of_ble_eq_true rfl), (Nat.le_of_ble_eq_true rfl)⟩ (Nat.le_of_ble_eq_true rfl) rfl ?_
  refine ci_X7_1 (d := d + 1) (fun _ => ?_)
  refine jm_putR (k := 0) (ki := 0) cf_X10 (Nat.le_of_ble_eq_true rfl) f_X10_10 d_X10_init_12 (fun _ => ⟨rfl, rfl⟩) rfl (Or.inl ⟨_, rfl⟩) rfl (fun z => absurd z (by decide)) ⟨by decide, by decide, is_0.2.2.1, is_0.2.2.2⟩ ?_
  refine jm_aloadn d_X10_init_15 rfl ?_
  refine jm_newo tyX5 cf_X5.1 tyX5_ok rfl rfl hz_X5 cl_X10_16 it_X5 in_X5 d_X10_init_16 rfl (by decide) (Nat.le_of_ble_eq_true rfl) (Nat.le_of_ble_eq_true rfl) (fun z => absurd z (by decide)) ?_
  refine jm_dup rfl d_X10_init_19 ?_
  refine jm_invI (n1 := 12) (mc := 8) (ms := 72) (av := []) w_X5_init (Or.inl l_X10_18) d_X10_init_20 rfl (by decide) ⟨(Nat.le_of_ble_eq_true rfl), (Nat.le_of_ble_eq_true rfl)⟩ (Nat.le_of_ble_eq_true rfl) rfl ?_
  refine ci_X5_3 (d := d + 1) (fun _ => ?_)
  refine jm_putR (k := 1) (ki := 1) cf_X10 (Nat.le_of_ble_eq_true rfl) f_X10_19 d_X10_init_23 (fun _ => ⟨rfl, rfl⟩) rfl (Or.inl ⟨_, rfl⟩) rfl (fun z => absurd z (by decide)) ⟨by decide, by decide, is_0.2.2.1, is_0.2.2.2⟩ ?_
  refine jm_aloadn d_X10_init_26 rfl ?_
  refine jm_newo tyX5 cf_X5.1 tyX5_ok rfl rfl hz_X5 cl_X10_16 it_X5 in_X5 d_X10_init_27 rfl (by decide) (Nat.le_of_ble_eq_true rfl) (Nat.le_of_ble_eq_true rfl) (fun z => absurd z (by decide)) ?_
  refine jm_dup rfl d_X10_init_30 ?_
  refine jm_invI (n1 := 21) (mc := 8) (ms := 72) (av := []) w_X5_init (Or.inl l_X10_18) d_X10_init_31 rfl (by decide) ⟨(Nat.le_of_ble_eq_true rfl), (Nat.le_of_ble_eq_true rfl)⟩ (Nat.le_of_ble_eq_true rfl) rfl ?_
  refine ci_X5_12 (d := d + 1) (fun _ => ?_)
  refine jm_putR (k := 2) (ki := 2) cf_X10 (Nat.le_of_ble_eq_true rfl) f_X10_23 d_X10_init_34 (fun _ => ⟨rfl, rfl⟩) rfl (Or.inl ⟨_, rfl⟩) rfl (fun z => absurd z (by decide)) ⟨by decide, by decide, is_0.2.2.1, is_0.2.2.2⟩ ?_
  refine jm_aloadn d_X10_init_37 rfl ?_
  refine jm_newo tyX6 cf_X6.1 tyX6_ok rfl rfl hz_X6 cl_X10_26 it_X6 in_X6 d_X10_init_38 rfl (by decide) (Nat.le_of_ble_eq_true rfl) (Nat.le_of_ble_eq_true rfl) (fun z => absurd z (by decide)) ?_
  refine jm_dup rfl d_X10_init_41 ?_
  refine jm_sipush (v := 400) d_X10_init_42 rfl (jm_okI (by decide) (by decide)) ?_
  refine jm_invI (n1 := 37) (mc := 15) (ms := 2488) (av := [jm_I 400]) w_X6_init (Or.inl l_X10_28) d_X10_init_45 rfl (by decide) ⟨(Nat.le_of_ble_eq_true rfl), (Nat.le_of_ble_eq_true rfl)⟩ (Nat.le_of_ble_eq_true rfl) rfl ?_
  refine ci_X6_21 (d := d) (fun _ => ?_)
  refine jm_putR (k := 3) (ki := 3) cf_X10 (Nat.le_of_ble_eq_true rfl) f_X10_31 d_X10_init_48 (fun _ => ⟨rfl, rfl⟩) rfl (Or.inl ⟨_, rfl⟩) rfl (fun z => absurd z (by decide)) ⟨by decide, by decide, is_0.2.2.1, is_0.2.2.2⟩ ?_
  refine jm_aloadn d_X10_init_51 rfl ?_
  refine jm_newo tyX6 cf_X6.1 tyX6_ok rfl rfl hz_X6 cl_X10_26 it_X6 in_X6 d_X10_init_52 rfl (by decide) (Nat.le_of_ble_eq_true rfl) (Nat.le_of_ble_eq_true rfl) (fun z => absurd z (by decide)) ?_
  refine jm_dup rfl d_X10_init_55 ?_
  refine jm_sipush (v := 400) d_X10_init_56 rfl (jm_okI (by decide) (by decide)) ?_
  refine jm_invI (n1 := 53) (mc := 15) (ms := 2488) (av := [jm_I 400]) w_X6_init (Or.inl l_X10_28) d_X10_init_59 rfl (by decide) ⟨(Nat.le_of_ble_eq_true rfl), (Nat.le_of_ble_eq_true rfl)⟩ (Nat.le_of_ble_eq_true rfl) rfl ?_
  refine ci_X6_37 (d := d) (fun _ => ?_)
  refine jm_putR (k := 4) (ki := 4) cf_X10 (Nat.le_of_ble_eq_true rfl) f_X10_35 d_X10_init_62 (fun _ => ⟨rfl, rfl⟩) rfl (Or.inl ⟨_, rfl⟩) rfl (fun z => absurd z (by decide)) ⟨by decide, by decide, is_0.2.2.1, is_0.2.2.2⟩ ?_
  refine jm_aloadn d_X10_init_65 rfl ?_
  refine jm_newo tyX6 cf_X6.1 tyX6_ok rfl rfl hz_X6 cl_X10_26 it_X6 in_X6 d_X10_init_66 rfl (by decide) (Nat.le_of_ble_eq_true rfl) (Nat.le_of_ble_eq_true rfl) (fun z => absurd z (by decide)) ?_
  refine jm_dup rfl d_X10_init_69 ?_
  refine jm_bipush (v := 8) d_X10_init_70 rfl (jm_okI (by decide) (by decide)) ?_
  refine jm_invI (n1 := 69) (mc := 15) (ms := 136) (av := [jm_I 8]) w_X6_init (Or.inl l_X10_28) d_X10_init_72 rfl (by decide) ⟨(Nat.le_of_ble_eq_true rfl), (Nat.le_of_ble_eq_true rfl)⟩ (Nat.le_of_ble_eq_true rfl) rfl ?_
  refine ci_X6_53 (d := d) (fun _ => ?_)
  refine jm_putR (k := 5) (ki := 5) cf_X10 (Nat.le_of_ble_eq_true rfl) f_X10_38 d_X10_init_75 (fun _ => ⟨rfl, rfl⟩) rfl (Or.inl ⟨_, rfl⟩) rfl (fun z => absurd z (by decide)) ⟨by decide, by decide, is_0.2.2.1, is_0.2.2.2⟩ ?_
  refine jm_aloadn d_X10_init_78 rfl ?_
  refine jm_newo tyX1 cf_X1.1 tyX1_ok rfl rfl hz_X1 cl_X10_41 it_X1 in_X1 d_X10_init_79 rfl (by decide) (Nat.le_of_ble_eq_true rfl) (Nat.le_of_ble_eq_true rfl) (fun z => absurd z (by decide)) ?_
  refine jm_dup rfl d_X10_init_82 ?_
  refine jm_invIN (n1 := 72) (mc := 2) (ms := 48) (av := []) (host := RX10) w_X1_init (List.mem_of_getElem? (i := 1) rfl) d_X10_init_83 rfl (by decide) ⟨(Nat.le_of_ble_eq_true rfl), (Nat.le_of_ble_eq_true rfl)⟩ (Nat.le_of_ble_eq_true rfl) rfl ?_
  refine ci_X1_69 (d := d + 1) (fun _ => ?_)
  refine jm_putR (k := 6) (ki := 6) cf_X10 (Nat.le_of_ble_eq_true rfl) f_X10_44 d_X10_init_86 (fun _ => ⟨rfl, rfl⟩) rfl (Or.inl ⟨_, rfl⟩) rfl (fun z => absurd z (by decide)) ⟨by decide, by decide, is_0.2.2.1, is_0.2.2.2⟩ ?_
  refine jm_aloadn d_X10_init_89 rfl ?_
  refine jm_newo tyX1 cf_X1.1 tyX1_ok rfl rfl hz_X1 cl_X10_41 it_X1 in_X1 d_X10_init_90 rfl (by decide) (Nat.le_of_ble_eq_true rfl) (Nat.le_of_ble_eq_true rfl) (fun z => absurd z (by decide)) ?_
  refine jm_dup rfl d_X10_init_93 ?_
  refine jm_invIN (n1 := 75) (mc := 2) (ms := 48) (av := []) (host := RX10) w_X1_init (List.mem_of_getElem? (i := 1) rfl) d_X10_init_94 rfl (by decide) ⟨(Nat.le_of_ble_eq_true rfl), (Nat.le_of_ble_eq_true rfl)⟩ (Nat.le_of_ble_eq_true rfl) rfl ?_
  refine ci_X1_72 (d := d + 1) (fun _ => ?_)
  refine jm_putR (k := 7) (ki := 7) cf_X10 (Nat.le_of_ble_eq_true rfl) f_X10_48 d_X10_init_97 (fun _ => ⟨rfl, rfl⟩) rfl (Or.inl ⟨_, rfl⟩) rfl (fun z => absurd z (by decide)) ⟨by decide, by decide, is_0.2.2.1, is_0.2.2.2⟩ ?_
  refine jm_aloadn d_X10_init_100 rfl ?_
  refine jm_newo tyX4 cf_X4.1 tyX4_ok rfl rfl hz_X4 cl_X10_51 it_X4 in_X4 d_X10_init_101 rfl (by decide) (Nat.le_of_ble_eq_true rfl) (Nat.le_of_ble_eq_true rfl) (fun z => absurd z (by decide)) ?_
  refine jm_dup rfl d_X10_init_104 ?_
  refine jm_invIN (n1 := 79) (mc := 3) (ms := 192) (av := []) (host := RX10) w_X4_init (List.mem_of_getElem? (i := 2) rfl) d_X10_init_105 rfl (by decide) ⟨(Nat.le_of_ble_eq_true rfl), (Nat.le_of_ble_eq_true rfl)⟩ (Nat.le_of_ble_eq_true rfl) rfl ?_
  refine ci_X4_75 (d := d + 1) (fun _ => ?_)
  refine jm_putR (k := 8) (ki := 8) cf_X10 (Nat.le_of_ble_eq_true rfl) f_X10_54 d_X10_init_108 (fun _ => ⟨rfl, rfl⟩) rfl (Or.inl ⟨_, rfl⟩) rfl (fun z => absurd z (by decide)) ⟨by decide, by decide, is_0.2.2.1, is_0.2.2.2⟩ ?_
  refine jm_aloadn d_X10_init_111 rfl ?_
  refine jm_newo tyX4 cf_X4.1 tyX4_ok rfl rfl hz_X4 cl_X10_51 it_X4 in_X4 d_X10_init_112 rfl (by decide) (Nat.le_of_ble_eq_true rfl) (Nat.le_of_ble_eq_true rfl) (fun z => absurd z (by decide)) ?_
  refine jm_dup rfl d_X10_init_115 ?_
  refine jm_invIN (n1 := 83) (mc := 3) (ms := 192) (av := []) (host := RX10) w_X4_init (List.mem_of_getElem? (i := 2) rfl) d_X10_init_116 rfl (by decide) ⟨(Nat.le_of_ble_eq_true rfl), (Nat.le_of_ble_eq_true rfl)⟩ (Nat.le_of_ble_eq_true rfl) rfl ?_
  refine ci_X4_79 (d := d + 1) (fun _ => ?_)
  refine jm_putR (k := 9) (ki := 9) cf_X10 (Nat.le_of_ble_eq_true rfl) f_X10_58 d_X10_init_119 (fun _ => ⟨rfl, rfl⟩) rfl (Or.inl ⟨_, rfl⟩) rfl (fun z => absurd z (by decide)) ⟨by decide, by decide, is_0.2.2.1, is_0.2.2.2⟩ ?_
  refine jm_aloadn d_X10_init_122 rfl ?_
  refine jm_newo tyX0 cf_X0.1 tyX0_ok rfl rfl hz_X0 cl_X10_61 it_X0 in_X0 d_X10_init_123 rfl (by decide) (Nat.le_of_ble_eq_true rfl) (Nat.le_of_ble_eq_true rfl) (fun z => absurd z (by decide)) ?_
  refine jm_dup rfl d_X10_init_126 ?_
  refine jm_invIN (n1 := 102) (mc := 18) (ms := 1137) (av := []) (host := RX10) w_X0_init (List.mem_of_getElem? (i := 3) rfl) d_X10_init_127 rfl (by decide) ⟨(Nat.le_of_ble_eq_true rfl), (Nat.le_of_ble_eq_true rfl)⟩ (Nat.le_of_ble_eq_true rfl) rfl ?_
  refine ci_X0_83 (d := d) (fun _ => ?_)
  refine jm_putR (k := 10) (ki := 10) cf_X10 (Nat.le_of_ble_eq_true rfl) f_X10_64 d_X10_init_130 (fun _ => ⟨rfl, rfl⟩) rfl (Or.inl ⟨_, rfl⟩) rfl (fun z => absurd z (by decide)) ⟨by decide, by decide, is_0.2.2.1, is_0.2.2.2⟩ ?_
  refine jm_aloadn d_X10_init_133 rfl ?_
  refine jm_newo tyX0 cf_X0.1 tyX0_ok rfl rfl hz_X0 cl_X10_61 it_X0 in_X0 d_X10_init_134 rfl (by decide) (Nat.le_of_ble_eq_true rfl) (Nat.le_of_ble_eq_true rfl) (fun z => absurd z (by decide)) ?_
  refine jm_dup rfl d_X10_init_137 ?_
  refine jm_invIN (n1 := 121) (mc := 18) (ms := 1137) (av := []) (host := RX10) w_X0_init (List.mem_of_getElem? (i := 3) rfl) d_X10_init_138 rfl (by decide) ⟨(Nat.le_of_ble_eq_true rfl), (Nat.le_of_ble_eq_true rfl)⟩ (Nat.le_of_ble_eq_true rfl) rfl ?_
  refine ci_X0_102 (d := d) (fun _ => ?_)
  refine jm_putR (k := 11) (ki := 11) cf_X10 (Nat.le_of_ble_eq_true rfl) f_X10_68 d_X10_init_141 (fun _ => ⟨rfl, rfl⟩) rfl (Or.inl ⟨_, rfl⟩) rfl (fun z => absurd z (by decide)) ⟨by decide, by decide, is_0.2.2.1, is_0.2.2.2⟩ ?_
  refine jm_aloadn d_X10_init_144 rfl ?_
  refine jm_newo tyX3 cf_X3.1 tyX3_ok rfl rfl hz_X3 cl_X10_71 it_X3 in_X3 d_X10_init_145 rfl (by decide) (Nat.le_of_ble_eq_true rfl) (Nat.le_of_ble_eq_true rfl) (fun z => absurd z (by decide)) ?_
  refine jm_dup rfl d_X10_init_148 ?_
  refine jm_invIN (n1 := 124) (mc := 2) (ms := 16) (av := []) (host := RX10) w_X3_init (List.mem_of_getElem? (i := 6) rfl) d_X10_init_149 rfl (by decide) ⟨(Nat.le_of_ble_eq_true rfl), (Nat.le_of_ble_eq_true rfl)⟩ (Nat.le_of_ble_eq_true rfl) rfl ?_
  refine ci_X3_121 (d := d + 1) (fun _ => ?_)
  refine jm_putR (k := 12) (ki := 12) cf_X10 (Nat.le_of_ble_eq_true rfl) f_X10_74 d_X10_init_152 (fun _ => ⟨rfl, rfl⟩) rfl (Or.inl ⟨_, rfl⟩) rfl (fun z => absurd z (by decide)) ⟨by decide, by decide, is_0.2.2.1, is_0.2.2.2⟩ ?_
  refine jm_aloadn d_X10_init_155 rfl ?_
  refine jm_newo tyX9 cf_X9.1 tyX9_ok rfl rfl hz_X9 cl_X10_78 it_X9 in_X9 d_X10_init_156 rfl (by decide) (Nat.le_of_ble_eq_true rfl) (Nat.le_of_ble_eq_true rfl) (fun z => absurd z (by decide)) ?_
  refine jm_dup rfl d_X10_init_159 ?_
  refine jm_invIN (n1 := 130) (mc := 5) (ms := 120) (av := []) (host := RX10) w_X9_init (List.mem_of_getElem? (i := 7) rfl) d_X10_init_160 rfl (by decide) ⟨(Nat.le_of_ble_eq_true rfl), (Nat.le_of_ble_eq_true rfl)⟩ (Nat.le_of_ble_eq_true rfl) rfl ?_
  refine ci_X9_124 (d := d + 1) (fun _ => ?_)
  refine jm_putR (k := 13) (ki := 13) cf_X10 (Nat.le_of_ble_eq_true rfl) f_X10_81 d_X10_init_163 (fun _ => ⟨rfl, rfl⟩) rfl (Or.inl ⟨_, rfl⟩) rfl (fun z => absurd z (by decide)) ⟨by decide, by decide, is_0.2.2.1, is_0.2.2.2⟩ ?_
  refine jm_aloadn d_X10_init_166 rfl ?_
  refine jm_newo tyX2 cf_X2.1 tyX2_ok rfl rfl hz_X2 cl_X10_85 it_X2 in_X2 d_X10_init_167 rfl (by decide) (Nat.le_of_ble_eq_true rfl) (Nat.le_of_ble_eq_true rfl) (fun z => absurd z (by decide)) ?_
  refine jm_dup rfl d_X10_init_170 ?_
  refine jm_invIN (n1 := 133) (mc := 2) (ms := 14) (av := []) (host := RX10) w_X2_init (List.mem_of_getElem? (i := 8) rfl) d_X10_init_171 rfl (by decide) ⟨(Nat.le_of_ble_eq_true rfl), (Nat.le_of_ble_eq_true rfl)⟩ (Nat.le_of_ble_eq_true rfl) rfl ?_
  refine ci_X2_130 (d := d + 1) (fun _ => ?_)
  refine jm_putR (k := 14) (ki := 14) cf_X10 (Nat.le_of_ble_eq_true rfl) f_X10_88 d_X10_init_174 (fun _ => ⟨rfl, rfl⟩) rfl (Or.inl ⟨_, rfl⟩) rfl (fun z => absurd z (by decide)) ⟨by decide, by decide, is_0.2.2.1, is_0.2.2.2⟩ ?_
  exact jm_ret (o := none) d_X10_init_177 rfl ⟨(Nat.le_of_ble_eq_true rfl), (Nat.le_of_ble_eq_true rfl)⟩ jm_r_V h rfl
/-- the memory at the head of the law's loop -/
def km_all : jm_M := (jm_new (jm_new (jm_new (jm_new (km_X10_0 (jm_new (fun _ _ => 0) 0)) 133) 134) 135) 136)
theorem km_wf : jm_WF km_all := by
  unfold jm_WF
  decide +kernel
theorem r_L_law_0 {E : jm_E} {d C2 S2 : Nat} {Q : Option jm_V → jm_M → Prop} (hC : 137 ≤ C2) (hS : 9412 ≤ S2) (h : jm_G E m_L_law (jm_rm (d + 4) C2 S2) jm_N jm_N 137 9412 30 [some (jm_R (-2)), some (jm_R ((0 : Nat) : Int)), some (jm_R ((133 : Nat) : Int)), some (jm_R ((134 : Nat) : Int)), some (jm_R ((135 : Nat) : Int)), some (jm_R ((136 : Nat) : Int)), none, none, none, none, none, none, none, none, none] [] km_all Q) : jm_G E m_L_law (jm_rm (d + 4) C2 S2) jm_N 0 0 0 0 [some (jm_R (-2)), none, none, none, none, none, none, none, none, none, none, none, none, none, none] [] (fun _ _ => 0) Q := by
  refine jm_newo tyX10 cf_X10.1 tyX10_ok rfl rfl hz_X10 cl_L_24 it_X10 in_X10 d_L_law_0 rfl (by decide) (by show _ ≤ C2; omega) (by show _ ≤ S2; omega) (fun z => absurd z (by decide)) ?_
  refine jm_dup rfl d_L_law_3 ?_
  refine jm_invI (n1 := 133) (mc := 132) (ms := 9229) (av := []) w_X10_init (Or.inl l_L_104) d_L_law_4 rfl (by decide) ⟨by omega, by omega⟩ (Nat.le_of_ble_eq_true rfl) rfl ?_
  refine ci_X10_0 (d := d) (fun _ => ?_)
  refine jm_astoren (L' := [some (jm_R _), some (jm_R _), none, none, none, none, none, none, none, none, none, none, none, none, none]) d_L_law_7 (Nat.le_of_ble_eq_true rfl) rfl ?_
  refine jm_bipush (v := 64) d_L_law_8 rfl (jm_okI (by decide) (by decide)) ?_
  refine jm_newa (at0 := .int) (ty := .int) (t := 2) (N := 64) rfl (Or.inl ⟨rfl, rfl⟩) ay_int d_L_law_10 rfl (by decide) (by decide) (by decide) (by show _ ≤ C2; omega) (by show _ ≤ S2; omega) (fun z => absurd z (by decide)) ?_
  refine jm_astoren (L' := [some (jm_R _), some (jm_R _), some (jm_R _), none, none, none, none, none, none, none, none, none, none, none, none]) d_L_law_12 (Nat.le_of_ble_eq_true rfl) rfl ?_
  refine jm_bipush (v := 32) d_L_law_13 rfl (jm_okI (by decide) (by decide)) ?_
  refine jm_newa (at0 := .int) (ty := .int) (t := 2) (N := 32) rfl (Or.inl ⟨rfl, rfl⟩) ay_int d_L_law_15 rfl (by decide) (by decide) (by decide) (by show _ ≤ C2; omega) (by show _ ≤ S2; omega) (fun z => absurd z (by decide)) ?_
  refine jm_astoren (L' := [some (jm_R _), some (jm_R _), some (jm_R _), some (jm_R _), none, none, none, none, none, none, none, none, none, none, none]) d_L_law_17 (Nat.le_of_ble_eq_true rfl) rfl ?_
  refine jm_bipush (v := 16) d_L_law_18 rfl (jm_okI (by decide) (by decide)) ?_
  refine jm_newa (at0 := .int) (ty := .int) (t := 2) (N := 16) rfl (Or.inl ⟨rfl, rfl⟩) ay_int d_L_law_20 rfl (by decide) (by decide) (by decide) (by show _ ≤ C2; omega) (by show _ ≤ S2; omega) (fun z => absurd z (by decide)) ?_
  refine jm_astore (L' := [some (jm_R _), some (jm_R _), some (jm_R _), some (jm_R _), some (jm_R _), none, none, none, none, none, none, none, none, none, none]) d_L_law_22 (Nat.le_of_ble_eq_true rfl) rfl ?_
  refine jm_bipush (v := 56) d_L_law_24 rfl (jm_okI (by decide) (by decide)) ?_
  refine jm_newa (at0 := .int) (ty := .int) (t := 2) (N := 56) rfl (Or.inl ⟨rfl, rfl⟩) ay_int d_L_law_26 rfl (by decide) (by decide) (by decide) (by show _ ≤ C2; omega) (by show _ ≤ S2; omega) (fun _ => km_wf) ?_
  refine jm_astore (L' := [some (jm_R _), some (jm_R _), some (jm_R _), some (jm_R _), some (jm_R _), some (jm_R _), none, none, none, none, none, none, none, none, none]) d_L_law_28 (Nat.le_of_ble_eq_true rfl) rfl ?_
  exact h
