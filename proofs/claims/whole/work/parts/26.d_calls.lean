section CC
variable {E : jm_E} {d : Nat} {μ : jm_M} {Q : Option jm_V → jm_M → Prop} {ρ σ : sR} {w : Int → Int} {n : Nat}
/-- as cE, but for what was found -/
def cF (μ ν : jm_M) : Prop := (∀ q, (q = 0 ∨ 2 ≤ q ∧ q ≤ 11 ∨ 22 ≤ q ∧ q ≤ 30 ∨ 69 ≤ q ∧ q ≤ 71 ∨ 75 ≤ q ∧ q ≤ 78 ∨ 83 ≤ q ∧ q ≤ 120 ∨ 127 ≤ q ∧ q ≤ 129 ∨ 132 ≤ q) → ν q = μ q) ∧
  ν 1 1 = μ 1 1 ∧ ν 1 7 = μ 1 7 ∧ ν 1 9 = μ 1 9 ∧ ν 21 0 = μ 21 0 ∧ ν 21 3 = μ 21 3 ∧ ν 124 6 = μ 124 6 ∧ ν 130 2 = μ 130 2 ∧ ν 130 6 = μ 130 6
theorem c_T_keepFound {k : Int} (h : ∀ ν : jm_M, (∀ q, q ≠ 121 → q ≠ 123 → ν q = μ q) → ν 121 6 = k → (∀ j, 0 ≤ j → j < 8 → ν 123 j = μ 122 j) → Q none ν) : jc E m_X3_keepFound (d + 1) [jm_R 121, jm_I k] μ Q := by
  refine e_X3_keepFound (fun _ m1 h1 => h _ (fun q q1 q2 => by rw [jm_up_ne q1, h1]; exact jm_cpy_ne q2) jm_up_at (fun j j0 j1 => ?_))
  rw [jm_up_ne (by decide), h1]
  unfold jm_cpy
  rw [if_pos ⟨rfl, j0, by omega⟩, show 0 + (j - 0) = j by omega]
theorem c_C_isState {st : Int} (ht : 0 ≤ st → st ≤ 8 → Q (some (jm_I 1)) μ) (hf : ¬ (0 ≤ st ∧ st ≤ 8) → Q (some (jm_I 0)) μ) : jc E m_X10_isState (d + 1) [jm_I st] μ Q :=
  e_X10_isState (fun _ => ⟨fun z => hf (by omega), fun z => ⟨fun z2 => hf (by omega), fun z2 => ht (by omega) (by omega)⟩⟩)
theorem c_C_roadLength {x st k sil : Int} (h0 : tTl μ ρ w n) (h : ∀ ν, cE μ ν → tTl ν ρ w n → sPt (ν 122) 0 (sRoad ρ (sLay ρ w n) x st k sil).2 → Q (some (jm_I (sRoad ρ (sLay ρ w n) x st k sil).1)) ν) : jc E m_X10_roadLength (d + 17) [jm_R 0, jm_I sil, jm_I x, jm_I st, jm_I k] μ Q := by
  have h00 := h0
  obtain ⟨hr, p, hp3, hA⟩ := h0
  have hW := hA.2.2.1
  have hP := hW.1
  have hP8 := hW.2.1
  have hK := hW.2.2.1
  have hK10 := hW.2.2.2.1
  have no : ¬ ((0 ≤ st ∧ st ≤ 8) ∧ (1 ≤ k ∧ k ≤ 8) ∧ (0 ≤ x ∧ x ≤ 399)) → Q (some (jm_I (-3))) μ := fun z => by
    have := h μ cE.rfl h00
    unfold sRoad at this
    rw [if_neg z] at this
    exact this trivial
  refine e_X10_roadLength (d := d + 16) (fun _ => ⟨fun z => no (by omega), fun z => ⟨fun z2 => no (by omega), fun z2 => c_C_isState (fun s0 s1 => jq_Z (jb_f (by decide) ⟨fun z3 => no (by omega), fun z3 => ⟨fun z4 => ?_, fun z4 => no (by omega)⟩⟩)) (fun z3 => jq_Z (jb_t rfl (no (by omega))))⟩⟩)
  have ok : (0 ≤ st ∧ st ≤ 8) ∧ (1 ≤ k ∧ k ≤ 8) ∧ (0 ≤ x ∧ x ≤ 399) := by omega
  have b0 : 0 ≤ ρ 0 * ρ 1 := Int.mul_nonneg hP hK
  have b1 : ρ 0 * ρ 1 ≤ 8 * 10 := Int.mul_le_mul hP8 hK10 hK (by decide)
  rw [hr.1, hr.2.1, jm_wr_id (by omega) (by omega)]
  unfold sRoad at h
  rw [if_pos ok] at h
  refine c_T_tooMany b0 (by omega) (by omega) z4 (fun t => jq_Z (jb_f (by decide) ?_)) (fun t => jq_Z (jb_t rfl ?_))
  · rw [if_pos t] at h
    exact h μ cE.rfl h00 trivial
  · rw [if_neg (by rw [t]; decide)] at h
    refine e_X3_aim (d := d + 15) (fun _ _ => ?_)
    have A1 : tA (jm_up (jm_up μ 121 0 x) 121 1 st) ρ 21 p 400 (sLay ρ w n) := (hA.up (by decide)).up (by decide)
    refine c_T_roadWithout (d := d + 1) (w := x) (st := st) (by omega) (by omega) z4 A1 (by rw [jm_up_i (by decide), jm_up_at]) jm_up_at (fun ν A f1 f2 f3 => ?_)
    have c1 : cE μ ν := by
      have o : ∀ q, q ≠ 121 → q ≠ 122 → q ≠ 21 → q < 31 ∨ 36 < q → ν q = μ q := fun q q1 q2 q3 q4 => by rw [f1 q q1 q2 q3 q4, jm_up_ne q1, jm_up_ne q1]
      have e1 := o 1 (by decide) (by decide) (by decide) (by decide)
      have e3 := o 124 (by decide) (by decide) (by decide) (by decide)
      have e4 := o 130 (by decide) (by decide) (by decide) (by decide)
      exact ⟨fun q hq => o q (by omega) (by omega) (by omega) (by omega), by rw [e1], by rw [e1], by rw [e1], by rw [f3 0 (by decide) (by decide), jm_up_ne (by decide), jm_up_ne (by decide)], by rw [f3 3 (by decide) (by decide), jm_up_ne (by decide), jm_up_ne (by decide)], by rw [f2 6 (by decide), jm_up_i (by decide), jm_up_i (by decide)], by rw [e3], by rw [e4], by rw [e4]⟩
    have t1 : tTl ν ρ w n := ⟨tRu_of (fun q q0 q1 => c1.1 q (by omega)) hr, p, hp3, A⟩
    have g := h ν c1 t1
    refine ⟨fun l hl hp => jq_I ?_, fun hl => jq_I ?_⟩
    · rw [hl] at g
      exact g hp
    · rw [hl] at g
      exact g trivial
theorem c_C_road {x st k : Int} (h0 : tTl μ ρ w n) (h1 : (sRoad ρ (sLay ρ w n) x st k (-1)).1 < 0 → ∀ ν, cE μ ν → tTl ν ρ w n → Q (some (jm_I (sRoad ρ (sLay ρ w n) x st k (-1)).1)) ν)
    (h2 : 0 ≤ (sRoad ρ (sLay ρ w n) x st k (-1)).1 → (sRoad ρ (sLay ρ w n) x st k (-1)).1 ≤ 8 → ∀ ν, cF μ ν → tTl ν ρ w n → ν 121 6 = (sRoad ρ (sLay ρ w n) x st k (-1)).1 → sPt (ν 123) 0 (sRoad ρ (sLay ρ w n) x st k (-1)).2 → Q (some (jm_I (sRoad ρ (sLay ρ w n) x st k (-1)).1)) ν) : jc E m_X10_road (d + 18) [jm_R 0, jm_I x, jm_I st, jm_I k] μ Q := by
  have hle := sRoad_le (ρ := ρ) (b := sLay ρ w n) (x := x) (st := st) (k := k) (sil := -1)
  refine e_X10_road (d := d + 17) (fun _ => c_C_roadLength h0 (fun ν c1 t1 hp => jq_I ⟨fun z => h1 z ν c1 t1, fun z => ?_⟩))
  have z' : 0 ≤ (sRoad ρ (sLay ρ w n) x st k (-1)).1 := by omega
  have hl := sRoad_len z'
  refine c_T_keepFound (fun ξ f1 f2 f3 _ => h2 z' hle ξ ⟨fun q hq => by rw [f1 q (by omega) (by omega)]; exact c1.1 q (by omega), ?_⟩ (tTl_of (fun q hq => f1 q (by omega) (by omega)) t1) f2 (sPt_ext _ 0 (fun j j0 j1 => f3 j j0 (by omega)) hp))
  have c2 := c1.2
  rw [f1 1 (by decide) (by decide), f1 21 (by decide) (by decide), f1 124 (by decide) (by decide), f1 130 (by decide) (by decide)]
  exact ⟨c2.1, c2.2.1, c2.2.2.1, c2.2.2.2.1, c2.2.2.2.2.1, c2.2.2.2.2.2.2.1, c2.2.2.2.2.2.2.2.1, c2.2.2.2.2.2.2.2.2⟩
theorem c_C_without {who x st k : Int} (h0 : tTl μ ρ w n) (h : ∀ ν, cE μ ν → tTl ν ρ w n → Q (some (jm_I (if 0 ≤ who ∧ who < ρ 0 then (sRoad ρ (sLay ρ w n) x st k who).1 else -3))) ν) : jc E m_X10_without (d + 18) [jm_R 0, jm_I who, jm_I x, jm_I st, jm_I k] μ Q := by
  have hW := h0.2.choose_spec.2.2.2.1
  refine e_X10_without (d := d + 17) (fun _ => c_T_hasWho is_3 hW h0.1 (fun v0 v1 => jq_Z (jb_t (by decide) (c_C_roadLength h0 (fun ν c1 t1 _ => jq_I ?_)))) (fun z => jq_Z (jb_f (by decide) ?_)))
  · rw [if_pos ⟨v0, v1⟩] at h
    exact h ν c1 t1
  · rw [if_neg z] at h
    exact h μ cE.rfl h0
theorem c_C_game {side x st k : Int} (h0 : tTl μ ρ w n) (h : ∀ ν, cE μ ν → tTl ν ρ w n → Q (some (jm_I (sGame ρ (sLay ρ w n) side x st k))) ν) : jc E m_X10_game (d + 17) [jm_R 0, jm_I side, jm_I x, jm_I st, jm_I k] μ Q := by
  have h00 := h0
  obtain ⟨hr, p, hp3, hA⟩ := h0
  have hW := hA.2.2.1
  have hP := hW.1
  have hP8 := hW.2.1
  have hK := hW.2.2.1
  have hK10 := hW.2.2.2.1
  have no : ¬ ((0 ≤ st ∧ st ≤ 8) ∧ (1 ≤ k ∧ k ≤ 8) ∧ (0 ≤ x ∧ x < (sLay ρ w n).2.1) ∧ 0 < side ∧ side < ((2 ^ (ρ 0).toNat : Nat) : Int) - 1) → Q (some (jm_I (-3))) μ := fun z => by
    have := h μ cE.rfl h00
    unfold sGame at this
    rw [if_neg z] at this
    exact this
  have p2 : 1 ≤ 2 ^ (ρ 0).toNat := Nat.one_le_two_pow
  have p8 : 2 ^ (ρ 0).toNat ≤ 2 ^ 8 := Nat.pow_le_pow_right (by decide) (by omega)
  have e8 : 2 ^ 8 = 256 := rfl
  have eone : jm_wr (jm_shl 1 (ρ 0) - 1) = ((2 ^ (ρ 0).toNat : Nat) : Int) - 1 := by
    have := jm_shl_1 (k := (ρ 0).toNat) (by omega)
    rw [show (((ρ 0).toNat : Nat) : Int) = ρ 0 by omega] at this
    rw [this, jm_wr_id (by omega) (by omega)]
  refine e_X10_game (d := d + 16) (fun _ y hy => ?_)
  rw [hr.1, eone] at hy
  subst hy
  refine ⟨fun z => r_X10_game_27 (d := d + 16) (no (fun q => by omega)), fun z => ⟨fun z2 => r_X10_game_27 (d := d + 16) (no (fun q => by omega)), fun z2 => c_T_has hA.1.i6 hA.2.2.2.2.1 (fun x0 x1 => jq_Z (jb_f (by decide) (c_C_isState (fun s0 s1 => jq_Z (jb_f (by decide) ⟨fun z3 => no (fun q => by omega), fun z3 => ⟨fun z4 => ?_, fun z4 => no (fun q => by omega)⟩⟩)) (fun z3 => jq_Z (jb_t rfl (no (fun q => z3 q.1))))))) (fun z3 => jq_Z (jb_t rfl (no (fun q => z3 q.2.2.1))))⟩⟩
  have ok : (0 ≤ st ∧ st ≤ 8) ∧ (1 ≤ k ∧ k ≤ 8) ∧ (0 ≤ x ∧ x < (sLay ρ w n).2.1) ∧ 0 < side ∧ side < ((2 ^ (ρ 0).toNat : Nat) : Int) - 1 := ⟨⟨s0, s1⟩, ⟨by omega, z4⟩, ⟨x0, x1⟩, by omega, by omega⟩
  have b0 : 0 ≤ ρ 0 * ρ 1 := Int.mul_nonneg hP hK
  have b1 : ρ 0 * ρ 1 ≤ 8 * 10 := Int.mul_le_mul hP8 hK10 hK (by decide)
  rw [hr.1, hr.2.1, jm_wr_id (by omega) (by omega)]
  unfold sGame at h
  rw [if_pos ok] at h
  refine c_T_tooMany b0 (by omega) (by omega) z4 (fun t => jq_Z (jb_f (by decide) ?_)) (fun t => jq_Z (jb_t rfl ?_))
  · rw [if_pos t] at h
    exact h μ cE.rfl h00
  · rw [if_neg (by rw [t]; decide)] at h
    refine e_X3_aim (d := d + 15) (fun _ _ => ?_)
    have A1 : tA (jm_up (jm_up μ 121 0 x) 121 1 st) ρ 21 p 400 (sLay ρ w n) := (hA.up (by decide)).up (by decide)
    refine c_T_forcedBy (d := d + 1) (w := x) (st := st) x0 (by omega) (by omega) (by omega) z4 A1 (by rw [jm_up_i (by decide), jm_up_at]) jm_up_at (fun ν A f1 f2 f3 => jq_I ?_)
    have c1 : cE μ ν := by
      have o : ∀ q, q ≠ 121 → q ≠ 21 → q < 31 ∨ 36 < q → ν q = μ q := fun q q1 q3 q4 => by rw [f1 q q1 q3 q4, jm_up_ne q1, jm_up_ne q1]
      have e1 := o 1 (by decide) (by decide) (by decide)
      have e3 := o 124 (by decide) (by decide) (by decide)
      have e4 := o 130 (by decide) (by decide) (by decide)
      exact ⟨fun q hq => o q (by omega) (by omega) (by omega), by rw [e1], by rw [e1], by rw [e1], by rw [f3 0 (by decide) (by decide), jm_up_ne (by decide), jm_up_ne (by decide)], by rw [f3 3 (by decide) (by decide), jm_up_ne (by decide), jm_up_ne (by decide)], by rw [f2 6 (by decide), jm_up_i (by decide), jm_up_i (by decide)], by rw [e3], by rw [e4], by rw [e4]⟩
    exact h ν c1 ⟨tRu_of (fun q q0 q1 => c1.1 q (by omega)) hr, p, hp3, A⟩
theorem c_C_found {i S : Int} (h6 : μ 121 6 = S) (h8 : S ≤ 8) (h : Q (some (jm_I (if 0 ≤ i ∧ i < S then μ 123 i else -1))) μ) : jc E m_X10_found (d + 2) [jm_R 0, jm_I i] μ Q := by
  refine e_X10_found (d := d + 1) (fun _ => e_X3_foundAt (fun _ => ?_))
  rw [h6]
  refine ⟨fun z => jq_I ?_, fun z => ⟨fun z1 => jq_I ?_, fun z1 => ⟨fun z2 => absurd z2 (by omega), fun z2 => ⟨by omega, jq_I ?_⟩⟩⟩⟩
  · rw [if_neg (by omega)] at h; exact h
  · rw [if_neg (by omega)] at h; exact h
  · rw [if_pos (by omega)] at h; exact h
/-- the place of an image -/
def sIm (k : Int) : Int := if k = 0 then 83 else 102
theorem c_C_imageAt {k : Int} (h1 : ¬ (0 ≤ k ∧ k ≤ 1) → Q (some (jm_R (-1))) μ) (h2 : 0 ≤ k → k ≤ 1 → Q (some (jm_R (sIm k))) μ) : jc E m_X10_imageAt (d + 1) [jm_R 0, jm_I k] μ Q := by
  unfold sIm at h2
  refine e_X10_imageAt (fun _ => ⟨fun z => ⟨fun z2 => h1 (by omega), fun z2 => ?_⟩, fun z => ?_⟩)
  · have := h2 (by omega) (by omega)
    rw [if_neg z] at this; exact this
  · have := h2 (by omega) (by omega)
    rw [if_pos (Decidable.not_not.mp z)] at this; exact this
theorem sIm_is {k : Int} : jm_is jm_N (sIm k) 1 0 := by
  unfold sIm
  split
  · exact is_83
  · exact is_102
theorem c_C_unlike {k x : Int} (h0 : tTl μ ρ w n) (h1 : 0 ≤ k → k ≤ 1 → μ (sIm k) 0 ≠ 0 → sWR σ ∧ tRu μ (sIm k + 1) σ)
    (ha : ¬ ((0 ≤ k ∧ k ≤ 1 ∧ μ (sIm k) 0 ≠ 0) ∧ 1 ≤ x ∧ x ≤ 6) → Q (some (jm_I (-3))) μ)
    (hb : 0 ≤ k → k ≤ 1 → μ (sIm k) 0 ≠ 0 → 1 ≤ x → x ≤ 6 → (sUnl ρ σ x).1 ≤ 0 → ∀ ν, cE μ ν → tTl ν ρ w n → Q (some (jm_I (sUnl ρ σ x).1)) ν)
    (hc : 0 ≤ k → k ≤ 1 → μ (sIm k) 0 ≠ 0 → 1 ≤ x → x ≤ 6 → 0 < (sUnl ρ σ x).1 → ∀ ν, cF μ ν → tTl ν ρ w n → ν 121 6 = (sUnl ρ σ x).1 → sPt (ν 123) 0 (sUnl ρ σ x).2 → Q (some (jm_I (sUnl ρ σ x).1)) ν) :
    jc E m_X10_unlike (d + 17) [jm_R 0, jm_I k, jm_I x] μ Q := by
  have h00 := h0
  obtain ⟨hr, p, hp3, hA⟩ := h0
  have hW := hA.2.2.1
  refine e_X10_unlike (d := d + 16) (fun _ => c_C_imageAt (fun z => jq_R (jb_t rfl (ha (fun q => z ⟨q.1.1, q.1.2.1⟩)))) (fun k0 k1 => jq_R (jb_f (by unfold sIm; split <;> decide) ⟨sIm_is, fun z => ha (fun q => q.1.2.2 z), fun z => ⟨fun z2 => ha (fun q => by omega), fun z2 => ⟨fun z3 x8 hx8 x9 hx9 => ?_, fun z3 => ha (fun q => z3 q.2.2)⟩⟩⟩)))
  obtain ⟨hV, hs⟩ := h1 k0 k1 z
  have P8 := sMx_in (x := ρ 0) (y := σ 0) (z := 8) ⟨hW.1, hW.2.1⟩ ⟨hV.1, hV.2.1⟩
  have K10 := sMx_in (x := ρ 1) (y := σ 1) (z := 10) ⟨hW.2.2.1, hW.2.2.2.1⟩ ⟨hV.2.2.1, hV.2.2.2.1⟩
  rw [hr.1, hs.1, jm_mx_s] at hx8
  rw [hr.2.1, hs.2.1, jm_mx_s] at hx9
  subst hx8 hx9
  have b0 : 0 ≤ sMx (ρ 0) (σ 0) * sMx (ρ 1) (σ 1) := Int.mul_nonneg P8.1 K10.1
  have b1 : sMx (ρ 0) (σ 0) * sMx (ρ 1) (σ 1) ≤ 8 * 10 := Int.mul_le_mul P8.2 K10.2 K10.1 (by decide)
  have hb' := hb k0 k1 z (by omega) z3
  have hc' := hc k0 k1 z (by omega) z3
  unfold sUnl at hb' hc'
  rw [jm_wr_id (by omega) (by omega)]
  refine c_T_tooMany b0 (by omega) (by omega) (by omega) (fun t => jq_Z (jb_f (by decide) ?_)) (fun t => jq_Z (jb_t rfl ?_))
  · rw [if_pos t] at hb'
    exact hb' (by decide) μ cE.rfl h00
  · have nt : ¬ sTM (sMx (ρ 0) (σ 0) * sMx (ρ 1) (σ 1)) x.toNat 1 = true := by rw [t]; decide
    rw [if_neg nt] at hb' hc'
    refine h00.beg (fun ξ A f1 t1 _ => ?_)
    have pl : tPl 53 (sIm k + 1) 8 := ⟨Or.inr (Or.inr rfl), by unfold sIm; split <;> decide, rfl⟩
    have hs' : tRu ξ (sIm k + 1) σ := tRu_of (fun q q0 q1 => f1 q (by have := (show sIm k = 83 ∨ sIm k = 102 by unfold sIm; split <;> simp); omega)) hs
    refine c_T_begin pl hV hs' (fun ξ2 B f2 _ _ => ?_)
    have A2 : tA ξ2 ρ 37 3 400 sEmpty := A.of (fun q hq => f2 q (by omega))
    have c2 : cE μ ξ2 := by
      have o : ∀ q, q ≠ 37 → q ≠ 53 → ξ2 q = μ q := fun q q1 q2 => by rw [f2 q q2, f1 q q1]
      refine ⟨fun q hq => o q (by omega) (by omega), ?_⟩
      rw [o 1 (by decide) (by decide), o 21 (by decide) (by decide), o 121 (by decide) (by decide), o 124 (by decide) (by decide), o 130 (by decide) (by decide)]
      exact ⟨rfl, rfl, rfl, rfl, rfl, rfl, rfl, rfl, rfl⟩
    have t2 : tTl ξ2 ρ w n := tTl_of (fun q hq => f2 q (by omega)) t1
    refine c_T_difference (d := d + 1) (P := (sMx (ρ 0) (σ 0)).toNat) (K := (sMx (ρ 1) (σ 1)).toNat) (by omega) (by omega) (by omega) (by omega) A2 B (fun ν _ _ pb => ?_)
    have c3 : cE μ ν := by
      have o : ∀ q, q ≠ 122 → q ≠ 37 → q ≠ 53 → q < 47 ∨ 52 < q → q < 63 ∨ 68 < q → ν q = ξ2 q := pb.1
      refine ⟨fun q hq => by rw [o q (by omega) (by omega) (by omega) (by omega) (by omega)]; exact c2.1 q hq, ?_⟩
      rw [o 1 (by decide) (by decide) (by decide) (by decide) (by decide), o 21 (by decide) (by decide) (by decide) (by decide) (by decide), o 121 (by decide) (by decide) (by decide) (by decide) (by decide), o 124 (by decide) (by decide) (by decide) (by decide) (by decide), o 130 (by decide) (by decide) (by decide) (by decide) (by decide)]
      exact c2.2
    have t3 : tTl ν ρ w n := tTl_of (fun q hq => by
      by_cases e : 38 ≤ q ∧ q ≤ 46 ∨ 54 ≤ q ∧ q ≤ 62
      · exact pb.1 q (by omega) (by omega) (by omega) (by omega) (by omega)
      · exact pb.1 q (by omega) (by omega) (by omega) (by omega) (by omega)) t2
    refine ⟨fun l hl l1 l6 hp => jq_I ⟨fun z5 => absurd z5 (by omega), fun _ => c_T_keepFound (fun ξ5 f5 g5 g6 _ => ?_)⟩, fun hl => jq_I ⟨fun _ => ?_, fun z5 => absurd (show (0 : Int) ≤ 0 by decide) z5⟩⟩
    · rw [hl] at hc'
      refine hc' (show (0 : Int) < l.length by omega) ξ5 ⟨fun q hq => by rw [f5 q (by omega) (by omega)]; exact c3.1 q (by omega), ?_⟩ (tTl_of (fun q hq => f5 q (by omega) (by omega)) t3) g5 (show sPt (ξ5 123) 0 l from sPt_ext l 0 (fun j j0 j1 => g6 j j0 (by omega)) hp)
      have e2 := c3.2
      rw [f5 1 (by decide) (by decide), f5 21 (by decide) (by decide), f5 124 (by decide) (by decide), f5 130 (by decide) (by decide)]
      exact ⟨e2.1, e2.2.1, e2.2.2.1, e2.2.2.2.1, e2.2.2.2.2.1, e2.2.2.2.2.2.2.1, e2.2.2.2.2.2.2.2.1, e2.2.2.2.2.2.2.2.2⟩
    · rw [hl] at hb'
      exact hb' (by decide) ν c3 t3
end CC
