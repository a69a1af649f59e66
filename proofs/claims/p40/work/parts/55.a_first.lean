/-! the law's first look at the class: nothing is told -/
theorem km_table : ∀ p : Fin 2, km_all (3 + 19 * ((p : Nat) : Int)) 1 = 0 ∧ km_all (3 + 19 * ((p : Nat) : Int)) 4 = 0 ∧ km_all (3 + 19 * ((p : Nat) : Int)) 10 = 0 ∧ km_all (3 + 19 * ((p : Nat) : Int)) 11 = 1 ∧ km_all (3 + 19 * ((p : Nat) : Int)) 14 = 0 ∧ km_all (3 + 19 * ((p : Nat) : Int)) 15 = 0 ∧ km_all (3 + 19 * ((p : Nat) : Int) + 8) 0 = 2 ∧ km_all (3 + 19 * ((p : Nat) : Int)) 13 = 0 := by decide +kernel
theorem km_desk : km_all 21 0 = 22 ∧ km_all 21 1 = 0 ∧ km_all 21 2 = 0 ∧ km_all 69 0 = 0 ∧ km_all 69 1 = 0 ∧ km_all 75 1 = 0 ∧ km_all 1 1 = 0 ∧ km_all 21 3 = 0 ∧ km_all 130 2 = -1 := by decide +kernel
theorem km_tRu (p : Fin 2) : tRu km_all (3 + 19 * ((p : Nat) : Int)) (fun _ => 0) := by
  obtain ⟨a1, a2, a3, a4, a5, a6, a7, -⟩ := km_table p
  exact ⟨a1, a2, a3, by rw [if_pos rfl]; exact a4, a5, a6, fun _ => a7, fun i i0 i1 => absurd (show i < 0 from i1) (by omega), fun i i0 i1 => absurd (show i < 0 from i1) (by omega), fun i i0 i1 => absurd (show i < 0 from i1) (by omega)⟩
theorem km_tRu3 : tRu km_all 3 (fun _ => 0) := km_tRu 0
theorem km_tRu22 : tRu km_all 22 (fun _ => 0) := km_tRu 1
theorem km_tTl : tTl km_all (fun _ => 0) (fun _ => 0) 0 := by
  obtain ⟨b1, b2, b3, b4, b5, b6, b7, b8, b9⟩ := km_desk
  exact ⟨km_tRu3, 22, Or.inr rfl, ⟨Or.inl rfl, Or.inr (Or.inl rfl), rfl⟩, b1, zTi_0.1, km_tRu22, ⟨b2, b3, fun f t f0 f1 t0 t1 => absurd (show t < 0 from t1) (by omega)⟩, sLay_good zTi_0.1 0 (Nat.zero_le _) (fun t ht => absurd ht (Nat.not_lt_zero _)), by decide⟩
theorem km_cDk : cDk km_all (zD0 zT0) := by
  obtain ⟨b1, b2, b3, b4, b5, b6, b7, b8, b9⟩ := km_desk
  exact ⟨⟨km_tRu3, fun i i0 i1 => absurd (show i < 0 from i1) (by omega), fun i i0 i1 => absurd (show i < 0 from i1) (by omega), Or.inl (km_table 0).2.2.2.2.2.2.2⟩, km_tTl, ⟨b4, b5, fun t t0 t1 => absurd (show t < 0 from t1) (by omega)⟩, b6, fun t t0 t1 => absurd (show t < 0 from t1) (by omega)⟩
theorem tMn_fr {a b : jm_M} {q : Int} {mn : Nat} {mt : Int → Int} (f : ∀ x, q ≤ x → x ≤ q + 2 → b x = a x) (h : tMn a q mn mt) : tMn b q mn mt :=
  ⟨by rw [f q (by omega) (by omega)]; exact h.1, by rw [f q (by omega) (by omega)]; exact h.2.1, fun t t0 t1 => by rw [f (q + 1) (by omega) (by omega), f (q + 2) (by omega) (by omega)]; exact h.2.2 t t0 t1⟩
theorem tSn_fr {a b : jm_M} {q : Int} {P : sPg} (f : ∀ x, q ≤ x → x ≤ q + 3 → b x = a x) (h : tSn a q P) : tSn b q P :=
  ⟨by rw [f q (by omega) (by omega)]; exact h.1, fun i i0 i1 => by rw [f (q + 1) (by omega) (by omega), f (q + 2) (by omega) (by omega), f (q + 3) (by omega) (by omega)]; exact h.2 i i0 i1⟩
theorem law_30 {E : jm_E} {C2 S2 cs sl : Nat} {Q : Option jm_V → jm_M → Prop} (hc : cs + 9 ≤ C2) (hs : sl + 120 ≤ S2) (hL : jm_sL E < 2147483648)
    (h : ∀ ν ρ, pVf ν ρ → sWR ρ → tTl ν ρ (fun _ => 0) 0 → jm_G E m_L_law (jm_rm (60 + 1) C2 S2) jm_N jm_N cs sl 210 [some (jm_R (-2)), some (jm_R 0), none, some (jm_R 134), some (jm_R 135), some (jm_R 136), some (jm_I 0), none, none, none, none, none, none, none, none] [] ν Q) :
    jm_G E m_L_law (jm_rm (60 + 1) C2 S2) jm_N jm_N cs sl 30 [some (jm_R (-2)), some (jm_R 0), some (jm_R 133), some (jm_R 134), some (jm_R 135), some (jm_R 136), none, none, none, none, none, none, none, none, none] [] km_all Q := by
  obtain ⟨b1, b2, b3, b4, b5, b6, b7, b8, b9⟩ := km_desk
  have hD := km_cDk
  have hV : sVd (zD0 zT0) := sVd_00 zTi_0
  have ht := km_tTl
  have hM : tMn km_all 69 0 (fun _ => 0) := hD.2.2.1
  have hVM : sVM (fun _ => 0) 0 (fun _ => 0) := hV.2.2.2.1
  have hSn : tSn km_all 75 (fun _ => 0, fun _ => 0, fun _ => 0, 0) := hD.2.2.2
  have hWp : sWp (fun _ => 0, fun _ => 0, fun _ => 0, 0) := hV.2.2.2.2.1
  have e0 : sTry (fun _ => 0) (fun _ => 0) 0 0 0 = -1 := by decide
  have o0 : sCo (zD0 zT0).1 0 0 0 0 = 0 := by decide
  have o3 : sCo (zD0 zT0).1 0 0 0 3 = 1 := by decide
  have o6 : sCo (zD0 zT0).1 0 0 0 6 = 0 := by decide
  refine r_L_law_30 (d := 60) hc hs ?_
  refine c_C_count (d := 59) hD hV b7 (jq_I ⟨fun z => absurd o0 z, fun _ => ?_⟩)
  refine c_C_count (d := 59) hD hV b7 (jq_I ⟨fun z => absurd o3 z, fun _ => ?_⟩)
  refine c_C_count (d := 59) hD hV b7 (jq_I ⟨fun z => absurd o6 z, fun _ => ?_⟩)
  refine c_C_threads (d := 59) ht (jq_I ⟨fun z => absurd rfl z, fun _ => ?_⟩)
  refine c_C_undo (d := 57) ht (fun t h => absurd h (Nat.not_lt_zero _)) (by decide) (fun _ => jq_I ⟨fun z => absurd rfl z, fun _ => ?_⟩) (fun z => absurd rfl z)
  refine c_C_say (d := 55) ht (fun z => absurd (e0.symm.trans z) (by decide)) (fun _ => jq_I ⟨fun z => absurd e0 z, fun _ => ?_⟩)
  refine c_C_may (d := 54) ht (fun _ => jq_I ⟨fun z => absurd rfl z, fun _ => ?_⟩) (fun _ z => absurd (show (0 : Int) < 0 from z) (by decide))
  refine c_C_why (d := 59) (jq_I ⟨fun z => absurd b8 z, fun _ => ?_⟩)
  have w0 : ((sWl (fun _ => 0) 0 (fun _ => 0) 0).length : Int) = 1 := rfl
  have w1 : ((sWl (fun _ => 0) 0 (fun _ => 0) 1).length : Int) = 0 := rfl
  have wy : ¬ 20000 < sWays (fun _ => 0) (fun _ => 0) 0 := by decide
  refine c_C_wholes (d := 15) ht hM hVM (fun z => absurd ⟨by decide, by decide⟩ z) (fun _ _ z => absurd z wy) (fun _ _ _ ν1 f1 _ _ _ => jq_I ⟨fun z => absurd w0 z, fun _ => ?_⟩)
  have ht1 : tTl ν1 (fun _ => 0) (fun _ => 0) 0 := tTl_of (fun q hq => f1 q (by omega) (by omega) (by omega)) ht
  have hM1 : tMn ν1 69 0 (fun _ => 0) := tMn_fr (fun x x0 x1 => f1 x (by omega) (by omega) (by omega)) hM
  refine c_C_wholes (d := 15) ht1 hM1 hVM (fun z => absurd ⟨by decide, by decide⟩ z) (fun _ _ z => absurd z wy) (fun _ _ _ ν2 f2 _ _ _ => jq_I ⟨fun z => absurd w1 z, fun _ => ?_⟩)
  have ht2 : tTl ν2 (fun _ => 0) (fun _ => 0) 0 := tTl_of (fun q hq => f2 q (by omega) (by omega) (by omega)) ht1
  have hM2 : tMn ν2 69 0 (fun _ => 0) := tMn_fr (fun x x0 x1 => f2 x (by omega) (by omega) (by omega)) hM1
  refine c_C_wholes (d := 15) ht2 hM2 hVM (fun _ => jq_I ⟨fun z => absurd rfl z, fun _ => ?_⟩) (fun _ z => absurd z (by decide)) (fun _ z => absurd z (by decide))
  have m2 : ν2 130 2 = -1 := by rw [f2 130 (by decide) (by decide) (by decide), f1 130 (by decide) (by decide) (by decide)]; exact b9
  refine c_C_mended (d := 59) (jq_I ⟨fun z => absurd m2 z, fun _ => ?_⟩)
  have r1 : ((sOr (fun _ => 0) 0 (fun _ => 0) 0 0 sEmpty).length : Int) = 1 := rfl
  have r0 : sTorn 0 (fun _ => 0) = 0 := rfl
  refine c_C_orders (d := 43) ht2 hM2 hVM (fun z => absurd ⟨r0, by decide⟩ z) (fun _ _ ν3 f3 _ _ _ => jq_I ⟨fun z => absurd r1 z, fun _ => ?_⟩)
  have ht3 : tTl ν3 (fun _ => 0) (fun _ => 0) 0 := tTl_of (fun q hq => f3 q (by omega) (by omega) (by omega)) ht2
  have hS3 : tSn ν3 75 (fun _ => 0, fun _ => 0, fun _ => 0, 0) := tSn_fr (fun x x0 x1 => by rw [f3 x (by omega) (by omega) (by omega), f2 x (by omega) (by omega) (by omega), f1 x (by omega) (by omega) (by omega)]) hSn
  refine c_C_said (d := 52) ht3 (by decide) hS3 hWp (jq_I ⟨fun z => absurd rfl z, fun _ => ?_⟩)
  have s0 : (if ((-1 : Int) = -1 ∨ (0 : Int) ≤ -1 ∧ (-1 : Int) < (fun _ => 0 : sR) 0) ∧ ((-1 : Int) = -1 ∨ (0 : Int) ≤ -1 ∧ (-1 : Int) < (fun _ => 0 : sR) 1) then sCnt (sSpk (sLay (fun _ => 0) (fun _ => 0) 0) (-1) (-1)) 0 0 0 else -1) = 0 := rfl
  refine c_C_spoke (d := 55) ht3 (jq_I ⟨fun z => absurd s0 z, fun _ => ?_⟩)
  have d0 : (sDr (fun _ => 0) (5 : Int).toNat (fun _ => 0) 0 1 0).2.2 = 0 := rfl
  have d1 : (sDr (fun _ => 0) (5 : Int).toNat (fun _ => 0) 0 1 0).2.1 = 0 := rfl
  have d2 : (sDr (fun _ => 0) (5 : Int).toNat (fun _ => 0) 0 1 0).1 = fun _ => 0 := rfl
  refine c_C_drawn (d := 53) ht3 (by decide) (fun z => absurd ⟨by decide, by decide⟩ z) (fun _ _ ν4 f4 t4 => jq_I ⟨fun _ => ?_, fun z => absurd d0 z⟩)
  have x4 : tTx ν4 (fun _ => 0) 0 := ⟨by rw [f4.2.1, f3 1 (by decide) (by decide) (by decide), f2 1 (by decide) (by decide) (by decide), f1 1 (by decide) (by decide) (by decide)]; exact b7, fun i i0 i1 => absurd i1 (by omega)⟩
  have told : ∀ c e : Int, jc E m_L_told 60 [jm_R 0, jm_R 133, jm_R 134, jm_I c, jm_I e] ν4 (fun (o : Option jm_V) (m : jm_M) => ∀ r : Int, o = some (jm_I r) → (r = 0 ∨ r = 1) → ((r ≠ 0 → jm_G E m_L_law (jm_rm (60 + 1) C2 S2) jm_N jm_N (cs + 0) (sl + 0) 210 [some (jm_R (-2)), some (jm_R 0), none, some (jm_R 134), some (jm_R 135), some (jm_R 136), some (jm_I 0), none, none, none, none, none, none, none, none] [] m Q) ∧ (¬ (r ≠ 0) → Q (some (jm_I 0)) m))) := fun c e =>
    c_L_told (d := 51) x4 (Int.le_refl 0) (fun ν ρ h1 h2 h3 _ => jq_Z ⟨fun _ => h ν ρ h1 h2 h3, fun z => absurd (show (1 : Int) ≠ 0 by decide) z⟩)
  exact ⟨hL, fun _ => ⟨fun _ => told _ _, fun _ => ⟨⟨by decide, by omega⟩, told _ _⟩⟩, fun _ => ⟨⟨by decide, by omega⟩, fun _ => told _ _, fun _ => ⟨⟨by decide, by omega⟩, told _ _⟩⟩⟩
