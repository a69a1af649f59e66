/-! words drawn, of the class -/
def jm_bc (v : Int) : Int :=
  let x1 := jm_wr (v - jm_and (jm_ushr v 1) 1431655765)
  let x2 := jm_wr (jm_and x1 858993459 + jm_and (jm_ushr x1 2) 858993459)
  let x3 := jm_and (jm_wr (x2 + jm_ushr x2 4)) 252645135
  let x4 := jm_wr (x3 + jm_ushr x3 8)
  let x5 := jm_wr (x4 + jm_ushr x4 16)
  jm_and x5 63
theorem jm_bc_k : ∀ q : Fin 1024, jm_bc ((q.1 : Nat) : Int) = ((sBc 10 q.1 : Nat) : Int) := by decide +kernel
theorem sCnt_sh {p : Int → Bool} : ∀ (m : Nat) (t c : Int), sCnt p m t c = c + sCnt p m t 0
  | 0, _, c => by show c = c + 0; omega
  | m + 1, t, c => by
    unfold sCnt
    rw [sCnt_sh m (t + 1) (if p t then c + 1 else c), sCnt_sh m (t + 1) (if p t then 0 + 1 else 0)]
    split <;> omega
theorem sMsk_bc {p : Int → Bool} : ∀ (m k acc : Nat), k + m ≤ 10 → acc < 2 ^ k → ((sBc 10 (sMsk p m k acc).toNat : Nat) : Int) = sBc 10 acc + sCnt p m k 0
  | 0, k, acc, _, _ => by show ((sBc 10 ((acc : Int).toNat) : Nat) : Int) = sBc 10 acc + 0; rw [Int.toNat_natCast]; omega
  | m + 1, k, acc, hk, ha => by
    unfold sMsk sCnt
    have e : ((k : Int) + 1) = ((k + 1 : Nat) : Int) := by omega
    rw [e]
    split
    · rw [sor_add ha, sMsk_bc m (k + 1) _ (by omega) (by rw [Nat.pow_succ]; omega), sBc_add 10 acc k ha (by omega), sCnt_sh m _ (0 + 1)]
      omega
    · rw [sMsk_bc m (k + 1) _ (by omega) (by rw [Nat.pow_succ]; omega)]
theorem sMsk_ext {p q : Int → Bool} : ∀ (m : Nat) (k acc : Int), (∀ j, k ≤ j → j < k + m → p j = q j) → sMsk p m k acc = sMsk q m k acc
  | 0, _, _, _ => rfl
  | m + 1, k, acc, h => by
    unfold sMsk
    rw [h k (by omega) (by omega)]
    exact sMsk_ext m (k + 1) _ (fun j j0 j1 => h j (by omega) (by omega))
theorem sNk_c {p : Int → Int → Bool} {who : Int} : ∀ (m : Nat) (k c : Int), 0 ≤ c → sNk p (-1) who m k c = (false, sCnt (p who) m k c)
  | 0, _, _, _ => rfl
  | m + 1, k, c, hc => by
    unfold sNk sCnt
    split
    · rw [if_neg (by omega)]
      exact sNk_c m (k + 1) (c + 1) (by omega)
    · exact sNk_c m (k + 1) c hc
theorem sNw_c {p : Int → Int → Bool} {K m : Nat} {who c : Int} (hc : 0 ≤ c) : sNw p (-1) K (m + 1) who c = sNw p (-1) K m (who + 1) (sCnt (p who) K 0 c) := by
  rw [sNw, sNk_c K 0 c hc]
  rfl
section WN
variable {E : jm_E} {d : Nat} {μ : jm_M} {Q : Option jm_V → jm_M → Prop} {ρ : sR} {p : Int} {b : sB}
theorem c_J_bitCount {v : Int} (v0 : 0 ≤ v) (v1 : v < 1024) (h : Q (some (jm_I (sBc 10 v.toNat : Nat))) μ) : jc E m_J6_bitCount_0f7a4 (d + 1) [jm_I v] μ Q := by
  refine e_J6_bitCount_0f7a4 (fun _ x1 h1 x2 h2 x3 h3 x4 h4 x5 h5 => ?_)
  subst h1 h2 h3 h4 h5
  have e := jm_bc_k ⟨v.toNat, by omega⟩
  have e2 : ((v.toNat : Nat) : Int) = v := by omega
  simp only [e2] at e
  rw [← e] at h
  exact h
theorem sCh_bc {who : Int} (hW : sWR ρ) (hn : b.2.1 < 400) (w0 : 0 ≤ who) (w1 : who < ρ 0) : ((sBc 10 (sCh ρ b 400 who).toNat : Nat) : Int) = sCnt (sMay ρ b who) (ρ 1).toNat 0 0 := by
  have hK := hW.2.2.1
  have hK10 := hW.2.2.2.1
  have e : sCh ρ b 400 who = sMsk (sMay ρ b who) (ρ 1).toNat 0 0 := by
    unfold sCh
    refine sMsk_ext _ _ _ (fun k k0 k1 => ?_)
    unfold sMay
    rw [sFw_0 w0 w1 k0 (by omega) hn]
  rw [e]
  have := sMsk_bc (p := sMay ρ b who) (ρ 1).toNat 0 0 (by omega) (by decide)
  have z : ((sBc 10 0 : Nat) : Int) = 0 := by decide
  rw [z, Int.zero_add] at this
  exact this
theorem c_T_nextOnes (h0 : tA μ ρ 21 p 400 b) (h : Q (some (jm_I (if b.2.1 < 400 then sNx ρ b (-1) else 0))) μ) : jc E m_X6_nextOnes (d + 6) [jm_R 21] μ Q := by
  have hW := h0.2.2.1
  have hP := hW.1
  have hP8 := hW.2.1
  have hK := hW.2.2.1
  have hK10 := hW.2.2.2.1
  refine e_X6_nextOnes (d := d + 5) (fun _ => ?_)
  have key : ∀ (m : Nat) (x c : Int), x + m = ρ 0 → 0 ≤ x → 0 ≤ c → c ≤ 10 * x → (if b.2.1 < 400 then sNw (sMay ρ b) (-1) (ρ 1).toNat m x c else c) = (if b.2.1 < 400 then sNx ρ b (-1) else 0) → jg E m_X6_nextOnes (d + 5) 4 [some (jm_R 21), some (jm_I c), some (jm_I x)] [] μ Q := by
    intro m
    induction m with
    | zero =>
      intro x c g1 g2 g3 g4 g5
      refine r_X6_nextOnes_4 (d := d + 5) ⟨h0.1.i6, ?_⟩
      rw [h0.2.1, h0.2.2.2.1.1]
      refine ⟨h0.1.i5, fun _ => ?_, fun z => absurd z (by omega)⟩
      rw [← g5] at h
      by_cases q : b.2.1 < 400
      · rw [if_pos q] at h; exact h
      · rw [if_neg q] at h; exact h
    | succ m ih =>
      intro x c g1 g2 g3 g4 g5
      have ci := sCh_in (ρ := ρ) (b := b) (c := 400) (who := x) hW
      refine r_X6_nextOnes_4 (d := d + 5) ⟨h0.1.i6, ?_⟩
      rw [h0.2.1, h0.2.2.2.1.1]
      refine ⟨h0.1.i5, fun z => absurd z (by omega), fun _ => c_T_choices h0 g2 (by omega) (jq_I (c_J_bitCount ci.1 ci.2 (jq_I (fun y hy => ?_))))⟩
      by_cases q : b.2.1 < 400
      · rw [if_pos q, sNw_c g3] at g5
        have e := sCh_bc (b := b) hW q g2 (show x < ρ 0 by omega)
        have e2 := sCnt_sh (p := sMay ρ b x) (ρ 1).toNat 0 c
        have e3 := sCnt_le (sMay ρ b x) (ρ 1).toNat 0 c
        rw [e] at hy
        rw [jm_wr_id (by omega) (by omega), ← e2] at hy
        subst hy
        rw [jm_wr_id (by omega) (by omega)]
        exact ih (x + 1) _ (by omega) (by omega) (by omega) (by omega) (by rw [if_pos q]; exact g5)
      · have e : sCh ρ b 400 x = 0 := by
          refine sMsk_z _ _ _ (fun k _ _ => ?_)
          rw [decide_eq_false]
          unfold sFw
          rw [if_neg (fun z => q z.2.2)]
          decide
        have e0 : ((sBc 10 (sCh ρ b 400 x).toNat : Nat) : Int) = 0 := by rw [e]; decide
        rw [if_neg q] at g5
        rw [e0, jm_wr_id (by omega) (by omega)] at hy
        subst hy
        rw [jm_wr_id (by omega) (by omega), Int.add_zero]
        exact ih (x + 1) c (by omega) (by omega) g3 (by omega) (by rw [if_neg q]; exact g5)
  exact key (ρ 0).toNat 0 0 (by omega) (by decide) (by decide) (by decide) rfl
theorem c_T_addNext {at0 : Int} (h0 : tA μ ρ 21 p 400 b) (hn : b.2.1 < 400) (a0 : 0 ≤ at0) (a1 : at0 < sNx ρ b (-1))
    (h : ∀ ν x j, 0 ≤ x → x < ρ 0 → 0 ≤ j → j < ρ 1 → sWr ρ b x j = 0 → sNx ρ b at0 = 16 * x + j → tA ν ρ 21 p 400 (sPush ρ b x j) → tFr 21 μ ν → Q none ν) : jc E m_X6_addNext (d + 6) [jm_R 21, jm_I at0] μ Q := by
  have hW := h0.2.2.1
  have hP := hW.1
  have hP8 := hW.2.1
  have hK := hW.2.2.1
  have hK10 := hW.2.2.2.1
  have a1' : sNx ρ b (-1) ≤ 80 := by
    have := (sNw_le (sMay ρ b) (ρ 1).toNat (by omega) (ρ 0).toNat 0 0 (by decide) (by decide)).2
    unfold sNx
    omega
  refine e_X6_addNext (d := d + 5) (fun _ => ?_)
  have key : ∀ (m : Nat) (x c : Int), x + m = ρ 0 → 0 ≤ x → 0 ≤ c → c ≤ at0 → at0 < sNw (sMay ρ b) (-1) (ρ 1).toNat m x c → sNw (sMay ρ b) at0 (ρ 1).toNat m x c = sNx ρ b at0 → jg E m_X6_addNext (d + 5) 4 [some (jm_R 21), none, some (jm_I (at0 - c)), some (jm_I x), none, none] [] μ Q := by
    intro m
    induction m with
    | zero =>
      intro x c g1 g2 g3 g4 g5 g6
      exact absurd (show at0 < c from g5) (by omega)
    | succ m ih =>
      intro x c g1 g2 g3 g4 g5 g6
      have ci := sCh_in (ρ := ρ) (b := b) (c := 400) (who := x) hW
      rw [sNw_c g3] at g5
      rw [sNw] at g6
      refine r_X6_addNext_4 (d := d + 5) ⟨h0.1.i6, ?_⟩
      rw [h0.2.1, h0.2.2.2.1.1]
      refine ⟨h0.1.i5, fun z => absurd z (by omega), fun _ => c_T_choices h0 g2 (by omega) (jq_I ?_)⟩
      have inner : ∀ (m' : Nat) (k c : Int), k + m' = ρ 1 → 0 ≤ k → 0 ≤ c → c ≤ at0 → at0 < sNw (sMay ρ b) (-1) (ρ 1).toNat m (x + 1) (sCnt (sMay ρ b x) m' k c) → (if (sNk (sMay ρ b) at0 x m' k c).1 then (sNk (sMay ρ b) at0 x m' k c).2 else sNw (sMay ρ b) at0 (ρ 1).toNat m (x + 1) (sNk (sMay ρ b) at0 x m' k c).2) = sNx ρ b at0 → jg E m_X6_addNext (d + 5) 25 [some (jm_R 21), none, some (jm_I (at0 - c)), some (jm_I x), some (jm_I (sCh ρ b 400 x)), some (jm_I k)] [] μ Q := by
        intro m'
        induction m' with
        | zero =>
          intro k c g1' g2' g3' g4' g5' g6'
          refine r_X6_addNext_25 (d := d + 5) ⟨h0.1.i6, ?_⟩
          rw [h0.2.1, h0.2.2.2.1.2.1, jm_wr_id (a := x + 1) (by omega) (by omega)]
          refine ⟨h0.1.i5, fun _ => ih (x + 1) c (by omega) (by omega) g3' g4' g5' g6', fun z => absurd z (by omega)⟩
        | succ m' ih' =>
          intro k c g1' g2' g3' g4' g5' g6'
          refine r_X6_addNext_25 (d := d + 5) ⟨h0.1.i6, ?_⟩
          rw [h0.2.1, h0.2.2.2.1.2.1, jm_bit ci.1 (by omega) g2' (by omega), sCh_bt g2' (by omega), sFw_0 g2 (by omega) g2' (by omega) hn, jm_wr_id (a := k + 1) (by omega) (by omega)]
          have hp : sMay ρ b x k = decide (sWr ρ b x k = 0) := rfl
          rw [sCnt] at g5'
          rw [sNk] at g6'
          refine ⟨h0.1.i5, fun z => absurd z (by omega), fun _ => ⟨fun z => ?_, fun z => ?_⟩⟩
          · have hw : ¬ sWr ρ b x k = 0 := fun q => by rw [if_pos (decide_eq_true q)] at z; omega
            rw [hp, decide_eq_false hw] at g5' g6'
            exact ih' (k + 1) c (by omega) (by omega) g3' g4' g5' g6'
          · have hw : sWr ρ b x k = 0 := by
              by_cases q : sWr ρ b x k = 0
              · exact q
              · rw [if_neg (by simp [q])] at z; exact absurd rfl z
            rw [hp, decide_eq_true hw, if_pos rfl] at g5' g6'
            by_cases e : c = at0
            · rw [if_pos e] at g6'
              refine ⟨fun z2 => absurd (show at0 - c = 0 by omega) z2, fun _ => c_T_add h0 hn g2 (by omega) g2' (by omega) hw (fun ν A f _ => ?_)⟩
              exact h ν x k g2 (by omega) g2' (by omega) hw g6'.symm A f
            · rw [if_neg e] at g6'
              refine ⟨fun _ => ?_, fun z2 => absurd (show at0 - c ≠ 0 by omega) z2⟩
              rw [jm_wr_id (by omega) (by omega), show at0 - c + -1 = at0 - (c + 1) by omega]
              exact ih' (k + 1) (c + 1) (by omega) (by omega) (by omega) (by omega) g5' g6'
      exact inner (ρ 1).toNat 0 c (by omega) (by decide) g3 g4 g5 g6
  have := key (ρ 0).toNat 0 0 (by omega) (by decide) (by decide) a0 a1 rfl
  rwa [Int.sub_zero] at this
end WN
