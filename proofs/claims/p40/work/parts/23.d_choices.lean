theorem sor_nn {m k : Int} : 0 ≤ sor m k := by unfold sor; omega
theorem sMsk_bt {p : Int → Bool} : ∀ (m : Nat) (k acc j : Int), 0 ≤ k → 0 ≤ acc → 0 ≤ j → sbt (sMsk p m k acc) j = (sbt acc j || (decide (k ≤ j ∧ j < k + m) && p j))
  | 0, k, acc, j, _, _, _ => by
    have : ¬ (k ≤ j ∧ j < k + ((0 : Nat) : Int)) := by omega
    show sbt acc j = _
    rw [decide_eq_false this, Bool.false_and, Bool.or_false]
  | m + 1, k, acc, j, k0, a0, j0 => by
    unfold sMsk
    by_cases hp : p k = true
    · rw [if_pos hp, sMsk_bt m (k + 1) _ j (by omega) sor_nn j0, sbt_sor a0 k0 j0]
      by_cases hj : j = k
      · subst hj; simp [hp]; right; omega
      · have e : (k + 1 ≤ j ∧ j < k + 1 + m) ↔ (k ≤ j ∧ j < k + (m + 1 : Nat)) := by omega
        simp [hj, e]
    · rw [if_neg hp, sMsk_bt m (k + 1) _ j (by omega) a0 j0]
      by_cases hj : j = k
      · subst hj
        have : ¬ (j + 1 ≤ j ∧ j < j + 1 + m) := by omega
        simp [this, hp]
      · have e : (k + 1 ≤ j ∧ j < k + 1 + m) ↔ (k ≤ j ∧ j < k + (m + 1 : Nat)) := by omega
        simp [e]
theorem sMsk_z {p : Int → Bool} : ∀ (m : Nat) (k acc : Int), (∀ j, k ≤ j → j < k + m → p j = false) → sMsk p m k acc = acc
  | 0, _, _, _ => rfl
  | m + 1, k, acc, h => by
    unfold sMsk
    rw [if_neg (by rw [h k (by omega) (by omega)]; decide)]
    exact sMsk_z m (k + 1) acc (fun j j0 j1 => h j (by omega) (by omega))
/-- the kinds that one could say next -/
def sCh (ρ : sR) (b : sB) (c who : Int) : Int := sMsk (fun k => decide (sFw ρ b c who k = 0)) (ρ 1).toNat 0 0
theorem sCh_in {ρ : sR} {b : sB} {c who : Int} (hW : sWR ρ) : 0 ≤ sCh ρ b c who ∧ sCh ρ b c who < 1024 := by
  have := hW.2.2.1
  have := hW.2.2.2.1
  exact sMsk_lt _ _ 0 0 (by decide) (by omega) (by decide) (by decide)
theorem sCh_bt {ρ : sR} {b : sB} {c who k : Int} (k0 : 0 ≤ k) (k1 : k < ρ 1) : sbt (sCh ρ b c who) k = decide (sFw ρ b c who k = 0) := by
  unfold sCh
  rw [sMsk_bt _ 0 0 k (by decide) (by decide) k0, sbt_0]
  have : (0 ≤ k ∧ k < 0 + ((ρ 1).toNat : Int)) := by omega
  rw [decide_eq_true this, Bool.true_and, Bool.false_or]
theorem sFw_0 {ρ : sR} {b : sB} {c who k : Int} (w0 : 0 ≤ who) (w1 : who < ρ 0) (k0 : 0 ≤ k) (k1 : k < ρ 1) (hc : b.2.1 < c) : sFw ρ b c who k = sWr ρ b who k := if_pos ⟨⟨w0, w1⟩, ⟨k0, k1⟩, hc⟩
theorem sFw_in {ρ : sR} {b : sB} {c who k : Int} (h : sFw ρ b c who k = 0) : (0 ≤ who ∧ who < ρ 0) ∧ (0 ≤ k ∧ k < ρ 1) ∧ b.2.1 < c ∧ sWr ρ b who k = 0 := by
  unfold sFw at h
  split at h
  · rename_i q; exact ⟨q.1, q.2.1, q.2.2, h⟩
  · omega
section TE
variable {E : jm_E} {d : Nat} {μ : jm_M} {Q : Option jm_V → jm_M → Prop} {ρ : sR} {a p c : Int} {b : sB}
theorem c_T_choices {who : Int} (h0 : tA μ ρ a p c b) (w0 : 0 ≤ who) (w1 : who < ρ 0) (h : Q (some (jm_I (sCh ρ b c who))) μ) : jc E m_X6_choices (d + 5) [jm_R a, jm_I who] μ Q := by
  have h00 := h0
  obtain ⟨hP, hp, hW, hr, hb, hG, hc⟩ := h0
  have hK0 := hW.2.2.1
  have hK1 := hW.2.2.2.1
  refine e_X6_choices (d := d + 4) (fun _ => ⟨hP.i6, c_T_repeats h00 (fun z => jq_Z (jb_f (by decide) ?_)) (fun _ => jq_Z (jb_t rfl ?_))⟩)
  · have e : sCh ρ b c who = 0 := by
      refine sMsk_z _ _ _ (fun k k0 k1 => ?_)
      have : sFw ρ b c who k ≠ 0 := by
        unfold sFw
        split
        · unfold sRep at z
          unfold sWr
          rw [if_pos z]
          decide
        · decide
      simp [this]
    rw [e] at h
    exact h
  · have key : ∀ (m : Nat) (k acc : Int), k + m = ρ 1 → 0 ≤ k → 0 ≤ acc → acc < 1024 → sMsk (fun k => decide (sFw ρ b c who k = 0)) m k acc = sCh ρ b c who → jg E m_X6_choices (d + 4) 14 [some (jm_R a), some (jm_I who), some (jm_I acc), some (jm_I k)] [] μ Q := by
      intro m
      induction m with
      | zero =>
        intro k acc g1 g2 g3 g4 g5
        refine r_X6_choices_14 (d := d + 4) ⟨hP.i6, ?_⟩
        rw [hp, hr.2.1]
        refine ⟨hP.i5, fun _ => ?_, fun z => absurd z (by omega)⟩
        rw [← g5] at h
        exact h
      | succ m ih =>
        intro k acc g1 g2 g3 g4 g5
        have gs := sor_lt (m := acc) (k := k) (n := 10) g3 (by omega) g2 (by omega)
        unfold sMsk at g5
        refine r_X6_choices_14 (d := d + 4) ⟨hP.i6, ?_⟩
        rw [hp, hr.2.1]
        refine ⟨hP.i5, fun z => absurd z (by omega), fun _ => c_T_flaw h00 (jq_I ⟨fun z => ?_, fun z => ?_⟩)⟩
        · rw [if_neg (by simpa using z)] at g5
          rw [jm_wr_id (by omega) (by omega)]
          exact ih (k + 1) acc (by omega) (by omega) g3 g4 g5
        · have z' : sFw ρ b c who k = 0 := Decidable.not_not.mp z
          rw [if_pos (by simpa using z')] at g5
          intro x hx
          rw [jm_or_bit g3 (by omega) g2 (by omega)] at hx
          subst hx
          rw [jm_wr_id (by omega) (by omega)]
          exact ih (k + 1) _ (by omega) (by omega) gs.1 (by omega) g5
    exact key (ρ 1).toNat 0 0 (by omega) (by omega) (by omega) (by omega) rfl
theorem c_T_tell {t x : Int} (h0 : tA μ ρ a p c b) (t0 : 0 ≤ t) (t1 : t < b.2.1) (x0 : 0 ≤ x) (x1 : x ≤ 7) (h : Q (some (jm_I (sWord ρ b t x))) μ) : jc E m_X6_tell (d + 4) [jm_R a, jm_I t, jm_I x] μ Q := by
  have h00 := h0
  obtain ⟨hP, hp, hW, hr, hb, hG, hc⟩ := h0
  have hG1 := hG.2.1
  have hs := hG.st t0 t1
  unfold sWord at h
  refine e_X6_tell (d := d + 3) (fun _ => ⟨hP.i6, c_T_has hP.i6 hb (fun _ _ => jq_Z (jb_t (by decide) ?_)) (fun z => absurd ⟨t0, t1⟩ z)⟩)
  rw [hP.sn, hb.at (f := 0) (g := a + 10) (by omega) (by decide) (by decide) t0 t1, hb.at (f := 1) (g := a + 11) (by omega) (by decide) (by decide) t0 t1, hb.at (f := 2) (g := a + 12) (by omega) (by decide) (by decide) t0 t1, hb.at (f := 3) (g := a + 13) (by omega) (by decide) (by decide) t0 t1, hb.at (f := 4) (g := a + 14) (by omega) (by decide) (by decide) t0 t1, hb.at (f := 5) (g := a + 15) (by omega) (by decide) (by decide) t0 t1]
  refine ⟨fun z => ⟨by omega, ?_⟩, fun z0 => ⟨fun z => ⟨by omega, ?_⟩, fun z1 => ⟨fun z => ⟨by omega, ?_⟩, fun z2 => ⟨fun z => ⟨by omega, ?_⟩, fun z3 => ⟨fun z => ⟨by omega, ?_⟩, fun z4 => ⟨fun z => c_T_stateOf h00 (jq_I ?_), fun z5 => ⟨fun z => c_T_promisee h00 t0 t1 (jq_I ?_), fun z6 => ⟨by omega, fun z => ?_, fun z => c_T_dueOf h00 t0 t1 (jq_I ?_)⟩⟩⟩⟩⟩⟩⟩⟩
  · rw [if_pos z] at h; exact h
  · rw [if_neg z0, if_pos z] at h; exact h
  · rw [if_neg z0, if_neg z1, if_pos z] at h; exact h
  · rw [if_neg z0, if_neg z1, if_neg z2, if_pos z] at h; exact h
  · rw [if_neg z0, if_neg z1, if_neg z2, if_neg z3, if_pos z] at h; exact h
  · rw [if_neg z0, if_neg z1, if_neg z2, if_neg z3, if_neg z4, if_pos z] at h
    rw [if_pos ⟨t0, t1⟩]; exact h
  · rw [if_neg z0, if_neg z1, if_neg z2, if_neg z3, if_neg z4, if_neg z5, if_pos z] at h; exact h
  · rw [if_neg z0, if_neg z1, if_neg z2, if_neg z3, if_neg z4, if_neg z5, if_neg z6, if_neg (fun q => by have := hs.1.mp q; omega)] at h; exact h
  · rw [if_neg z0, if_neg z1, if_neg z2, if_neg z3, if_neg z4, if_neg z5, if_neg z6, if_pos (hs.1.mpr (by omega))] at h; exact h
end TE
