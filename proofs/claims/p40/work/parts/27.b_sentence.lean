/-! the class's row of bits -/
def sEn : List Bool → Nat
  | [] => 0
  | x :: s => 2 * sEn s + (if x then 1 else 0)
theorem sEn_lt : ∀ s : List Bool, sEn s < 2 ^ s.length
  | [] => by decide
  | x :: s => by
    have := sEn_lt s
    show 2 * sEn s + _ < 2 ^ (s.length + 1)
    rw [Nat.pow_succ]
    split <;> omega
theorem jm_xor_1 {n : Nat} (h : n < 2 ^ 31) : jm_xor (n : Int) 1 = ((2 * (n / 2) + (1 - n % 2) : Nat) : Int) := by
  unfold jm_xor
  have e : nI n ^^^ nI 1 = nI (n ^^^ 1) := by
    apply Int32.toBitVec.inj
    apply BitVec.eq_of_toNat_eq
    have hx : n ^^^ 1 < 2 ^ 31 := Nat.xor_lt_two_pow h (by decide)
    rw [Int32.toBitVec_xor, BitVec.toNat_xor, pk_tn (by omega), pk_tn (by omega), pk_tn (by omega)]
  have hx : n ^^^ 1 < 2 ^ 31 := Nat.xor_lt_two_pow h (by decide)
  have h2 : n ^^^ 1 = 2 * (n / 2) + (1 - n % 2) := by
    have d := Nat.xor_div_two (a := n) (b := 1)
    have m := Nat.xor_mod_two_eq_one (a := n) (b := 1)
    rw [show (1 : Nat) / 2 = 0 from rfl, Nat.xor_zero] at d
    have m1 : (1 : Nat) % 2 = 1 := rfl
    have := Nat.div_add_mod (n ^^^ 1) 2
    rcases Nat.mod_two_eq_zero_or_one n with q | q
    · have : (n ^^^ 1) % 2 = 1 := m.mpr (fun z => by omega)
      omega
    · have : ¬ (n ^^^ 1) % 2 = 1 := fun z => m.mp z ⟨fun _ => m1, fun _ => q⟩
      omega
  rw [jm_of_nat, show Int32.ofInt 1 = nI 1 from rfl, e, nI_toInt hx, h2]
theorem jm_shl_d {n : Nat} (h : n < 2 ^ 30) : jm_shl (n : Int) 1 = ((2 * n : Nat) : Int) := by
  unfold jm_shl
  rw [jm_of_nat, pk_shlN _ 1 (by decide +kernel) (by omega), nI_toInt (by omega)]
  omega
theorem jm_ushr_h {n : Nat} (h : n < 2 ^ 31) : jm_ushr (n : Int) 1 = ((n / 2 : Nat) : Int) := by
  unfold jm_ushr
  rw [jm_of_nat, pk_ushrN (by omega) (Int32.ofInt 1) 1 (by decide +kernel), nI_toInt (by omega)]
theorem jm_and_m {n : Nat} {x : Int} (h : n < 2 ^ 31) (hx : x = 0 ∨ x = 1) : jm_and (n : Int) (jm_or (-2) x) = ((if x = 1 then n else 2 * (n / 2) : Nat) : Int) := by
  have e1 : jm_or (-2) 1 = -1 := by decide +kernel
  have e0 : jm_or (-2) 0 = -2 := by decide +kernel
  have key : ∀ (m : Int) (k : Nat), (Int32.ofInt m).toBitVec.toNat = k → (n &&& k) < 2 ^ 31 → jm_and (n : Int) m = ((n &&& k : Nat) : Int) := by
    intro m k hk hlt
    unfold jm_and
    have e : nI n &&& Int32.ofInt m = nI (n &&& k) := by
      apply Int32.toBitVec.inj
      apply BitVec.eq_of_toNat_eq
      rw [Int32.toBitVec_and, BitVec.toNat_and, pk_tn (by omega), hk, pk_tn (by omega)]
    rw [jm_of_nat, e, nI_toInt hlt]
  rcases hx with rfl | rfl
  · have hle : n &&& 4294967294 ≤ n := Nat.and_le_left
    rw [e0, key (-2) 4294967294 (by decide +kernel) (by omega), if_neg (by decide)]
    have d := Nat.and_div_two (a := n) (b := 4294967294)
    have m := Nat.and_mod_two_eq_one (a := n) (b := 4294967294)
    have e2 : (4294967294 : Nat) / 2 = 2 ^ 31 - 1 := by decide
    rw [e2, Nat.and_two_pow_sub_one_eq_mod, Nat.mod_eq_of_lt (show n / 2 < 2 ^ 31 by omega)] at d
    have m1 : (4294967294 : Nat) % 2 = 0 := by decide
    have hm : ¬ (n &&& 4294967294) % 2 = 1 := fun z => by have := (m.mp z).2; omega
    omega
  · have hle : n &&& 4294967295 ≤ n := Nat.and_le_left
    rw [e1, key (-1) 4294967295 (by decide +kernel) (by omega), if_pos rfl]
    have : n &&& 4294967295 = n := by
      have e : (4294967295 : Nat) = 2 ^ 32 - 1 := by decide
      rw [e, Nat.and_two_pow_sub_one_of_lt_two_pow (by omega)]
    rw [this]
theorem jm_or_l {n : Nat} {x : Int} (h : n < 2 ^ 31) (hx : x = 0 ∨ x = 1) : jm_or (n : Int) x = ((if x = 1 then 2 * (n / 2) + 1 else n : Nat) : Int) := by
  rcases hx with rfl | rfl
  · rw [show (0 : Int) = ((0 : Nat) : Int) from rfl, jm_or_n h (by decide), Nat.or_zero, if_neg (by decide)]
  · rw [show jm_or (n : Int) 1 = jm_or (n : Int) ((1 : Nat) : Int) from rfl, jm_or_n h (by decide), if_pos rfl]
    have d := Nat.or_div_two (a := n) (b := 1)
    have m := Nat.or_mod_two_eq_one (a := n) (b := 1)
    rw [show (1 : Nat) / 2 = 0 from rfl, Nat.or_zero] at d
    have hm : (n ||| 1) % 2 = 1 := m.mpr (Or.inr rfl)
    omega
/-- the sentence as it lies in the class -/
def tSn (μ : jm_M) (q : Int) (P : sPg) : Prop := μ q 1 = P.2.2.2 ∧ ∀ i : Int, 0 ≤ i → i < P.2.2.2 → μ (q + 1) i = P.1 i ∧ (3 ≤ P.1 i → μ (q + 3) i = P.2.2.1 i) ∧ (6 ≤ P.1 i → μ (q + 2) i = P.2.1 i)
section SB
variable {E : jm_E} {d : Nat} {μ : jm_M} {Q : Option jm_V → jm_M → Prop} {ρ : sR} {a p c : Int} {b : sB} {P : sPg}
theorem c_T_tellN {t x : Int} (h0 : tA μ ρ a p c b) (ht : ¬ (0 ≤ t ∧ t < b.2.1)) (h : Q (some (jm_I (-1))) μ) : jc E m_X6_tell (d + 2) [jm_R a, jm_I t, jm_I x] μ Q :=
  e_X6_tell (d := d + 1) (fun _ => ⟨h0.1.i6, c_T_has h0.1.i6 h0.2.2.2.2.1 (fun z0 z1 => absurd ⟨z0, z1⟩ ht) (fun _ => jq_Z (jb_f (by decide) h))⟩)
theorem c_T_compares {x sg v : Int} (h : Q (some (jm_I (if sCp x sg v = true then 1 else 0))) μ) : jc E m_X4_compares (d + 1) [jm_I x, jm_I sg, jm_I v] μ Q := e_X4_compares (fun _ => m_cmp3 h)
theorem jq_B {F : Int → Prop} {b : Bool} (h : F (if b = true then 1 else 0)) : ∀ r : Int, some (jm_I (if b = true then 1 else 0)) = some (jm_I r) → (r = 0 ∨ r = 1) → F r := fun r e _ => by cases e; exact h
theorem c_T_atom {t i : Int} (h0 : tA μ ρ a p c b) (hs : tSn μ 75 P) (hP : sWp P) (t0 : 0 ≤ t) (t1 : t < b.2.1) (i0 : 0 ≤ i) (i1 : i < P.2.2.2) (o3 : 3 ≤ P.1 i) (h : Q (some (jm_I (if sAt ρ b t P i = true then 1 else 0))) μ) : jc E m_X4_isSo (d + 5) [jm_R 75, jm_R a, jm_I t, jm_I i] μ Q := by
  have h40 := hP.1
  have hsi := hs.2 i i0 i1
  obtain ⟨j, rfl⟩ := jm_nat i0
  have hp := hP.2.1 j (by omega)
  have hG := h0.2.2.2.2.2.1
  have hGt := (hG.2.2.2.2 t t0 t1).2.2.1
  have w0 : sWord ρ b t 0 = b.1 0 t := rfl
  have w1 : sWord ρ b t 1 = b.1 1 t := rfl
  have w2 : sWord ρ b t 2 = b.1 2 t := rfl
  have w3 : sWord ρ b t 3 = b.1 3 t := rfl
  have w4 : sWord ρ b t 4 = b.1 4 t := rfl
  have e3 := hsi.2.1 o3
  rw [show (75 : Int) + 3 = 78 by decide] at e3
  refine e_X4_isSo (d := d + 4) (fun _ => ⟨fun z => absurd z (by omega), fun _ => ⟨fun _ => ⟨is_75, by omega, fun x hx => ?_⟩, fun z => absurd (show (j : Int) < 64 by omega) z⟩⟩)
  rw [hsi.1] at hx
  rw [show (75 : Int) + 3 = 78 by decide, show (75 : Int) + 2 = 77 by decide, e3]
  unfold sAt at h
  refine ⟨fun z => ⟨h0.1.i6, c_T_tell h0 t0 t1 (by decide) (by decide) (jq_I ?_)⟩, fun z3 => ⟨fun z => ⟨h0.1.i6, c_T_tell h0 t0 t1 (by decide) (by decide) (jq_I ?_)⟩, fun z4 => ⟨fun z => ⟨h0.1.i6, c_T_tell h0 t0 t1 (by decide) (by decide) (jq_I ?_)⟩, fun z5 => ⟨fun z => ?_, fun z6 => ⟨fun z => ⟨h0.1.i6, c_T_tell h0 t0 t1 (by decide) (by decide) (jq_I ?_)⟩, fun z7 => ⟨fun z => ⟨h0.1.i6, c_T_tell h0 t0 t1 (by decide) (by decide) (jq_I ?_)⟩, fun z8 => ⟨h0.1.i6, c_T_stateOf h0 (jq_I ?_)⟩⟩⟩⟩⟩⟩⟩
  · rw [w0, e3]
    rw [if_pos (show P.1 j = 3 by omega)] at h
    exact ⟨fun y => by rw [decide_eq_false y] at h; exact h, fun y => by rw [decide_eq_true (Decidable.not_not.mp y)] at h; exact h⟩
  · rw [w2]
    rw [if_neg (show ¬ P.1 j = 3 by omega), if_pos (show P.1 j = 4 by omega)] at h
    have v0 := hp.2.2.2 (by omega) (by omega)
    by_cases q : b.1 2 t = -1
    · rw [decide_eq_false (fun y => y.1 q)] at h
      refine c_T_tellN h0 (by omega) (jq_I ?_)
      rw [e3]
      exact ⟨fun _ => h, fun y => absurd (show (-1 : Int) ≠ P.2.2.1 j by omega) y⟩
    · refine c_T_tell h0 (by omega) (by omega) (by decide) (by decide) (jq_I ?_)
      have w0' : sWord ρ b (b.1 2 t) 0 = b.1 0 (b.1 2 t) := rfl
      rw [w0', e3]
      exact ⟨fun y => by rw [decide_eq_false (fun z => y z.2)] at h; exact h, fun y => by rw [decide_eq_true ⟨q, Decidable.not_not.mp y⟩] at h; exact h⟩
  · rw [w1, e3]
    rw [if_neg (show ¬ P.1 j = 3 by omega), if_neg (show ¬ P.1 j = 4 by omega), if_pos (show P.1 j = 5 by omega)] at h
    exact ⟨fun y => by rw [decide_eq_false y] at h; exact h, fun y => by rw [decide_eq_true (Decidable.not_not.mp y)] at h; exact h⟩
  · have e2 := hsi.2.2 (by omega)
    rw [show (75 : Int) + 2 = 77 by decide] at e2
    rw [if_neg (show ¬ P.1 j = 3 by omega), if_neg (show ¬ P.1 j = 4 by omega), if_neg (show ¬ P.1 j = 5 by omega), if_pos (show P.1 j = 6 by omega)] at h
    rw [e2]
    exact c_T_compares (jq_B h)
  · have e2 := hsi.2.2 (by omega)
    rw [show (75 : Int) + 2 = 77 by decide] at e2
    rw [if_neg (show ¬ P.1 j = 3 by omega), if_neg (show ¬ P.1 j = 4 by omega), if_neg (show ¬ P.1 j = 5 by omega), if_neg (show ¬ P.1 j = 6 by omega), if_pos (show P.1 j = 7 by omega)] at h
    rw [w3, e2, e3]
    exact c_T_compares (jq_B h)
  · have e2 := hsi.2.2 (by omega)
    rw [show (75 : Int) + 2 = 77 by decide] at e2
    rw [if_neg (show ¬ P.1 j = 3 by omega), if_neg (show ¬ P.1 j = 4 by omega), if_neg (show ¬ P.1 j = 5 by omega), if_neg (show ¬ P.1 j = 6 by omega), if_neg (show ¬ P.1 j = 7 by omega), if_pos (show P.1 j = 8 by omega)] at h
    rw [w4, e2, e3]
    exact c_T_compares (jq_B h)
  · have e2 := hsi.2.2 (by omega)
    rw [show (75 : Int) + 2 = 77 by decide] at e2
    rw [if_neg (show ¬ P.1 j = 3 by omega), if_neg (show ¬ P.1 j = 4 by omega), if_neg (show ¬ P.1 j = 5 by omega), if_neg (show ¬ P.1 j = 6 by omega), if_neg (show ¬ P.1 j = 7 by omega), if_neg (show ¬ P.1 j = 8 by omega)] at h
    rw [if_pos ⟨t0, t1⟩, e2, e3]
    exact c_T_compares (jq_B h)
theorem sSk_len {op : Int → Int} {at0 : Int → Bool} {i : Nat} : (sSk op at0 i).length = (sRt op i).length := by rw [sSk_rt, List.length_map]
theorem c_T_holds {t : Int} (h0 : tA μ ρ a p c b) (hs : tSn μ 75 P) (hP : sWp P) (t0 : 0 ≤ t) (t1 : t < b.2.1) (h : Q (some (jm_I (if sHo P (sAt ρ b t P) = true then 1 else 0))) μ) : jc E m_X4_holds (d + 6) [jm_R 75, jm_R a, jm_I t] μ Q := by
  have h40 := hP.1
  refine e_X4_holds (d := d + 5) (fun _ => ?_)
  have key : ∀ (m i : Nat), i + m = P.2.2.2 → ∀ v : Int, v = sEn (sSk P.1 (sAt ρ b t P) i) → jg E m_X4_holds (d + 5) 5 [some (jm_R 75), some (jm_R a), some (jm_I t), some (jm_I v), some (jm_I i), none] [] μ Q := by
    intro m
    induction m with
    | zero =>
      intro i g1 v hv
      have hi : i = P.2.2.2 := by omega
      subst hi
      have hlt := sEn_lt (sSk P.1 (sAt ρ b t P) P.2.2.2)
      have hl := hP.2.2 P.2.2.2 (Nat.le_refl _)
      rw [sSk_len] at hlt
      have p20 : 2 ^ (sRt P.1 P.2.2.2).length ≤ 2 ^ 20 := Nat.pow_le_pow_right (by decide) hl
      have e20 : 2 ^ 20 = 1048576 := rfl
      refine r_X4_holds_5 (d := d + 5) ⟨is_75, ?_⟩
      rw [hs.1]
      refine ⟨fun _ => ?_, fun z => absurd (by omega) z⟩
      rw [hv, jm_and_1 (by omega)]
      unfold sHo at h
      cases hk : sSk P.1 (sAt ρ b t P) P.2.2.2 with
      | nil =>
        rw [hk] at h
        exact ⟨fun _ => h, fun z => absurd rfl z⟩
      | cons x s =>
        rw [hk] at h
        have e : sEn (x :: s) % 2 = if x then 1 else 0 := by
          show (2 * sEn s + _) % 2 = _
          split <;> omega
        rw [e]
        cases x with
        | true => exact ⟨fun z => absurd z (by decide), fun _ => h⟩
        | false => exact ⟨fun _ => h, fun z => absurd rfl z⟩
    | succ m ih =>
      intro i g1 v hv
      have hi : i < P.2.2.2 := by omega
      have hp := hP.2.1 i hi
      have hsi := hs.2 i (by omega) (by omega)
      have hlt := sEn_lt (sSk P.1 (sAt ρ b t P) i)
      have hl := hP.2.2 i (by omega)
      have hl1 := hP.2.2 (i + 1) (by omega)
      rw [sSk_len] at hlt
      have p20 : 2 ^ (sRt P.1 i).length ≤ 2 ^ 20 := Nat.pow_le_pow_right (by decide) hl
      have e20 : 2 ^ 20 = 1048576 := rfl
      have sk : sSk P.1 (sAt ρ b t P) (i + 1) = if P.1 i = 0 then (!(sSk P.1 (sAt ρ b t P) i).headD false) :: (sSk P.1 (sAt ρ b t P) i).tail
        else if P.1 i = 1 then ((sSk P.1 (sAt ρ b t P) i).tail.headD false && (sSk P.1 (sAt ρ b t P) i).headD false) :: (sSk P.1 (sAt ρ b t P) i).tail.tail
        else if P.1 i = 2 then ((sSk P.1 (sAt ρ b t P) i).tail.headD false || (sSk P.1 (sAt ρ b t P) i).headD false) :: (sSk P.1 (sAt ρ b t P) i).tail.tail
        else sAt ρ b t P i :: sSk P.1 (sAt ρ b t P) i := rfl
      have slen : (sSk P.1 (sAt ρ b t P) i).length = (sRt P.1 i).length := sSk_len
      have ih' := ih (i + 1) (by omega)
      have e1 : jm_wr ((i : Int) + 1) = ((i + 1 : Nat) : Int) := by rw [jm_wr_id (by omega) (by omega)]; omega
      refine r_X4_holds_5 (d := d + 5) ⟨is_75, ?_⟩
      rw [hs.1, hsi.1, e1]
      refine ⟨fun z => absurd z (by omega), fun _ => ⟨fun z => absurd z (by omega), fun _ x6 h6 => ⟨by omega, fun z0 => ⟨fun z1 => ⟨fun z2 => ?_, fun z2 x17 h17 => ?_⟩, fun z1 x18 h18 => ?_⟩, fun z0 x19 h19 => ?_⟩⟩⟩
      · refine c_T_atom h0 hs hP t0 t1 (by omega) (by omega) (by omega) (jq_B ?_)
        rw [if_neg z0, if_neg z1, if_neg z2] at sk
        have es : jm_shl v 1 = ((2 * sEn (sSk P.1 (sAt ρ b t P) i) : Nat) : Int) := by rw [hv]; exact jm_shl_d (by omega)
        have e2 : sEn (sSk P.1 (sAt ρ b t P) (i + 1)) = 2 * sEn (sSk P.1 (sAt ρ b t P) i) + (if sAt ρ b t P i then 1 else 0) := by rw [sk]; rfl
        rw [es]
        refine ⟨fun y x15 h15 => ih' x15 ?_, fun y x16 h16 => ih' x16 ?_⟩
        · have : ¬ sAt ρ b t P i = true := fun q => by rw [if_pos q] at y; omega
          rw [if_neg this] at e2
          rw [h15, jm_or_l (by omega) (Or.inl rfl), if_neg (by decide), e2]; rfl
        · have : sAt ρ b t P i = true := by
            by_cases q : sAt ρ b t P i = true
            · exact q
            · rw [if_neg q] at y; exact absurd rfl y
          rw [if_pos this] at e2
          rw [h16, jm_or_l (by omega) (Or.inr rfl), if_pos rfl, e2]
          omega
      · have o : P.1 i = 2 := by omega
        have l2 := hp.2.2.1 (Or.inr o)
        rw [if_neg (by omega), if_neg (by omega), if_pos o] at sk
        refine ih' x17 ?_
        rw [sk, h17, h6, hv]
        match hk : sSk P.1 (sAt ρ b t P) i with
        | [] => rw [hk] at slen; simp at slen; omega
        | [_] => rw [hk] at slen; simp at slen; omega
        | x :: y :: s =>
          rw [hk] at hv hlt
          have b20 : sEn (x :: y :: s) < 2 ^ 31 := by omega
          have d2 : sEn (x :: y :: s) / 2 = sEn (y :: s) := by
            show (2 * sEn (y :: s) + _) / 2 = _
            split <;> omega
          have m2 : sEn (x :: y :: s) % 2 = if x then 1 else 0 := by
            show (2 * sEn (y :: s) + _) % 2 = _
            split <;> omega
          rw [jm_ushr_h b20, jm_and_1 b20, d2, m2]
          have hd : sEn (y :: s) / 2 = sEn s := by
            show (2 * sEn s + _) / 2 = _
            split <;> omega
          cases x with
          | false =>
            show jm_or ((sEn (y :: s) : Nat) : Int) 0 = _
            rw [jm_or_l (by omega) (Or.inl rfl), if_neg (by decide)]
            show ((sEn (y :: s) : Nat) : Int) = ((sEn ((y || false) :: s) : Nat) : Int)
            rw [Bool.or_false]
          | true =>
            show jm_or ((sEn (y :: s) : Nat) : Int) 1 = _
            rw [jm_or_l (by omega) (Or.inr rfl), if_pos (by decide), hd]
            show ((2 * sEn s + 1 : Nat) : Int) = ((sEn ((y || true) :: s) : Nat) : Int)
            rw [Bool.or_true]; rfl
      · have o : P.1 i = 1 := by omega
        have l2 := hp.2.2.1 (Or.inl o)
        rw [if_neg (by omega), if_pos o] at sk
        refine ih' x18 ?_
        rw [sk, h18, h6, hv]
        match hk : sSk P.1 (sAt ρ b t P) i with
        | [] => rw [hk] at slen; simp at slen; omega
        | [_] => rw [hk] at slen; simp at slen; omega
        | x :: y :: s =>
          rw [hk] at hv hlt
          have b20 : sEn (x :: y :: s) < 2 ^ 31 := by omega
          have d2 : sEn (x :: y :: s) / 2 = sEn (y :: s) := by
            show (2 * sEn (y :: s) + _) / 2 = _
            split <;> omega
          have m2 : sEn (x :: y :: s) % 2 = if x then 1 else 0 := by
            show (2 * sEn (y :: s) + _) % 2 = _
            split <;> omega
          rw [jm_ushr_h b20, jm_and_1 b20, d2, m2]
          have hd : sEn (y :: s) / 2 = sEn s := by
            show (2 * sEn s + _) / 2 = _
            split <;> omega
          cases x with
          | true =>
            show jm_and ((sEn (y :: s) : Nat) : Int) (jm_or (-2) 1) = _
            rw [jm_and_m (by omega) (Or.inr rfl), if_pos (by decide)]
            show ((sEn (y :: s) : Nat) : Int) = ((sEn ((y && true) :: s) : Nat) : Int)
            rw [Bool.and_true]
          | false =>
            show jm_and ((sEn (y :: s) : Nat) : Int) (jm_or (-2) 0) = _
            rw [jm_and_m (by omega) (Or.inl rfl), if_neg (by decide), hd]
            show ((2 * sEn s : Nat) : Int) = ((sEn ((y && false) :: s) : Nat) : Int)
            rw [Bool.and_false]; rfl
      · have o : P.1 i = 0 := by omega
        have l2 := hp.2.1 o
        rw [if_pos o] at sk
        refine ih' x19 ?_
        rw [sk, h19, hv]
        match hk : sSk P.1 (sAt ρ b t P) i with
        | [] => rw [hk] at slen; simp at slen; omega
        | x :: s =>
          rw [hk] at hv hlt
          rw [jm_xor_1 (by omega)]
          have d2 : sEn (x :: s) / 2 = sEn s := by
            show (2 * sEn s + _) / 2 = _
            split <;> omega
          have m2 : sEn (x :: s) % 2 = if x then 1 else 0 := by
            show (2 * sEn s + _) % 2 = _
            split <;> omega
          rw [d2, m2]
          cases x <;> rfl
  exact key P.2.2.2 0 (by omega) 0 rfl
end SB
