/-- torn minutes that can be told -/
def sVM (ρ : sR) (mn : Nat) (mt : Int → Int) : Prop := mn ≤ 24 ∧ (∀ t : Int, 0 ≤ t → t < mn → (mt (2 * t) = -1 ∨ 0 ≤ mt (2 * t) ∧ mt (2 * t) < ρ 0) ∧ (mt (2 * t + 1) = -1 ∨ 0 ≤ mt (2 * t + 1) ∧ mt (2 * t + 1) < ρ 1)) ∧ sCnt (fun k => decide (mt k = -1)) (2 * mn) 0 0 ≤ 8
/-- the minutes as they lie in the reference -/
def mMn (μ : jm_M) (mn : Nat) (mt : Int → Int) : Prop := μ 135 861 = mn ∧ ∀ i : Int, 0 ≤ i → i < 2 * mn → μ 135 (862 + i) = mt i
section MW
variable {E : jm_E} {d : Nat} {μ : jm_M} {Q : Option jm_V → jm_M → Prop} {ρ : sR} {mn : Nat} {mt : Int → Int}
theorem c_M_fillings {times most : Int} (hW : sWR ρ) (p0 : μ 135 0 = ρ 0) (p1 : μ 135 1 = ρ 1) (hM : mMn μ mn mt) (hV : sVM ρ mn mt) (t0 : 0 ≤ times) (tz : (1 ≤ ρ 0 ∧ 1 ≤ ρ 1) ∨ times ≤ 1) (m0 : 80 ≤ most) (m1 : most ≤ 100000) (t1 : times ≤ 80)
    (ht : most < times * sWays ρ mt mn → Q (some (jm_I (most + 1))) μ) (hf : times * sWays ρ mt mn ≤ most → Q (some (jm_I (times * sWays ρ mt mn))) μ) : jc E m_X11_fillings (d + 1) [jm_R 133, jm_I times, jm_I most] μ Q := by
  have hP := hW.1
  have hP8 := hW.2.1
  have hK := hW.2.2.1
  have hK10 := hW.2.2.2.1
  have hn := hV.1
  have em : jm_wr (most + 1) = most + 1 := jm_wr_id (by omega) (by omega)
  have e861 : jm_wr (2 * μ 135 861) = 2 * mn := by rw [hM.1, jm_wr_id (by omega) (by omega)]
  obtain ⟨V, hVV⟩ : ∃ V, V = times * sWays ρ mt mn := ⟨_, rfl⟩
  rw [← hVV] at ht hf
  refine e_X11_fillings (d := d) (fun _ => ?_)
  have key : ∀ (m : Nat) (k v : Int), 2 * mn - k = m → 0 ≤ k → 0 ≤ v → v ≤ most → v * sPr (sKw ρ mt) m k = V → ((1 ≤ ρ 0 ∧ 1 ≤ ρ 1) ∨ (k = 0 ∧ v ≤ 1) ∨ (k = 1 ∧ v ≤ 8 ∧ (ρ 1 = 0 ∨ v = 0)) ∨ v = 0) → jg E m_X11_fillings d 5 [some (jm_R 133), none, some (jm_I most), some (jm_I v), some (jm_I k)] [] μ Q := by
    intro m
    induction m with
    | zero =>
      intro k v g1 g2 g3 g4 g5 g6
      have hv : V = v := by rw [← g5, sPr, Int.mul_one]
      refine r_X11_fillings_5 (d := d) ⟨fun _ => ⟨fun _ => ?_, fun z => absurd g4 z⟩, fun z => absurd (show jm_wr (2 * μ 135 861) ≤ k by omega) z⟩
      rw [← hv]
      exact hf (by omega)
    | succ m ih =>
      intro k v g1 g2 g3 g4 g5 g6
      have e1 : jm_wr (862 + k) = 862 + k := jm_wr_id (by omega) (by omega)
      have e2 : jm_wr (k + 1) = k + 1 := jm_wr_id (by omega) (by omega)
      have e3 : jm_rem k 2 = k % 2 := jm_rem_n g2 (by omega) (by decide) (by decide)
      have e4 := hM.2 k g2 (by omega)
      have g5' : v * (sKw ρ mt k * sPr (sKw ρ mt) m (k + 1)) = V := g5
      have hv2 := hV.2.1 (k / 2) (by omega) (by omega)
      -- one step with a factor
      have step : ∀ f : Int, (f = ρ 0 ∨ f = ρ 1) → (k % 2 = 0 → f = ρ 0) → (k % 2 ≠ 0 → f = ρ 1) → sKw ρ mt k = f → ∀ x : Int, x = jm_wr (v * f) → (x ≤ most → jg E m_X11_fillings d 5 [some (jm_R 133), none, some (jm_I most), some (jm_I x), some (jm_I (jm_wr (k + 1)))] [] μ Q) ∧ (¬ x ≤ most → Q (some (jm_I (jm_wr (most + 1)))) μ) := by
        intro f hf1 hf2 hf3 hf4 x hx
        have f0 : 0 ≤ f := by omega
        have f10 : f ≤ 10 := by omega
        have b0 : 0 ≤ v * f := Int.mul_nonneg g3 f0
        have b1 : v * f ≤ 100000 * 10 := Int.mul_le_mul (by omega) f10 f0 (by decide)
        rw [jm_wr_id (by omega) (by omega)] at hx
        rw [hf4, ← Int.mul_assoc, ← hx] at g5'
        refine ⟨fun z => ?_, fun z => ?_⟩
        · rw [e2]
          refine ih (k + 1) x (by omega) (by omega) (by omega) z g5' ?_
          rcases g6 with g6 | ⟨k0, v1⟩ | ⟨k1, v8, h⟩ | v0
          · exact Or.inl g6
          · have hfe := hf2 (by omega)
            have b2 : v * f ≤ 1 * 8 := Int.mul_le_mul v1 (by omega) f0 (by decide)
            by_cases c : ρ 1 = 0
            · exact Or.inr (Or.inr (Or.inl ⟨by omega, by omega, Or.inl c⟩))
            · by_cases c0 : ρ 0 = 0
              · rw [hfe, c0, Int.mul_zero] at hx
                exact Or.inr (Or.inr (Or.inr hx))
              · exact Or.inl ⟨by omega, by omega⟩
          · have hfe := hf3 (by omega)
            refine Or.inr (Or.inr (Or.inr ?_))
            rcases h with h | h
            · rw [hx, hfe, h, Int.mul_zero]
            · rw [hx, h, Int.zero_mul]
          · exact Or.inr (Or.inr (Or.inr (by rw [hx, v0, Int.zero_mul])))
        · rw [em]
          have hpos : 1 ≤ ρ 0 ∧ 1 ≤ ρ 1 := by
            rcases g6 with g6 | ⟨k0, v1⟩ | ⟨k1, v8, h⟩ | v0
            · exact g6
            · have b2 : v * f ≤ 1 * 10 := Int.mul_le_mul v1 f10 f0 (by decide)
              exact absurd (show x ≤ most by omega) z
            · have b2 : v * f ≤ 8 * 10 := Int.mul_le_mul v8 f10 f0 (by decide)
              exact absurd (show x ≤ most by omega) z
            · rw [v0, Int.zero_mul] at hx
              exact absurd (show x ≤ most by omega) z
          have hpp : 1 ≤ sPr (sKw ρ mt) m (k + 1) := sPr_pos m _ (fun s _ _ => by unfold sKw; split <;> (try split) <;> omega)
          have : x * 1 ≤ x * sPr (sKw ρ mt) m (k + 1) := Int.mul_le_mul_of_nonneg_left hpp (by omega)
          exact ht (by omega)
      refine r_X11_fillings_5 (d := d) ⟨fun z => absurd z (by omega), fun _ => ?_⟩
      rw [e1, e3, e4, p0, p1]
      refine ⟨⟨by omega, by omega⟩, fun z => ⟨fun z2 => fun x6 hx => ?_, fun z2 => fun x8 hx => ?_⟩, fun z => ?_⟩
      · exact step (ρ 1) (Or.inr rfl) (fun q => absurd q z2) (fun _ => rfl) (by unfold sKw; rw [if_pos z, if_neg z2]) x6 hx
      · have z3 := Decidable.not_not.mp z2
        exact step (ρ 0) (Or.inl rfl) (fun _ => rfl) (fun q => absurd z3 q) (by unfold sKw; rw [if_pos z, if_pos z3]) x8 hx
      · have hk1 : sKw ρ mt k = 1 := by unfold sKw; rw [if_neg z]
        rw [hk1, Int.one_mul] at g5'
        rw [e2]
        refine ih (k + 1) v (by omega) (by omega) g3 g4 g5' ?_
        rcases g6 with g6 | ⟨k0, v1⟩ | ⟨k1, v8, h⟩ | v0
        · exact Or.inl g6
        · rw [k0] at z hv2
          have : 0 < ρ 0 := by
            have h1 := hv2.1
            rw [show 2 * ((0 : Int) / 2) = 0 by decide] at h1
            rcases h1 with h1 | h1
            · exact absurd h1 z
            · omega
          by_cases c : ρ 1 = 0
          · exact Or.inr (Or.inr (Or.inl ⟨by omega, by omega, Or.inl c⟩))
          · exact Or.inl ⟨by omega, by omega⟩
        · rw [k1] at z hv2
          have : 0 < ρ 1 := by
            have h1 := hv2.2
            rw [show 2 * ((1 : Int) / 2) + 1 = 1 by decide] at h1
            rcases h1 with h1 | h1
            · exact absurd h1 z
            · omega
          exact Or.inr (Or.inr (Or.inr (by omega)))
        · exact Or.inr (Or.inr (Or.inr v0))
  refine key (2 * mn) 0 times (by omega) (by decide) t0 (by omega) ?_ ?_
  · rw [hVV, sWays, ← sKw_Gw, Int.mul_zero]
  · rcases tz with h | h
    · exact Or.inl h
    · exact Or.inr (Or.inl ⟨rfl, h⟩)
end MW
