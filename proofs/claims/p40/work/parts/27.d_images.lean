section DB
variable {E : jm_E} {d : Nat} {μ : jm_M} {Q : Option jm_V → jm_M → Prop} {ρ : sR} {w : Int → Int} {n : Nat} {P : sPg} {D : sDk}
theorem c_C_count {x len : Int} (hD : cDk μ D) (hV : sVd D) (hl : μ 1 1 = len) (h : Q (some (jm_I (sCo D.1 D.2.2.1 D.2.2.2.2.2.1 len x))) μ) : jc E m_X10_count (d + 1) [jm_R 0, jm_I x] μ Q := by
  obtain ⟨⟨r0, r1, r2, r3, r4, r5, r6, r7, r8, r9⟩, p, hp3, hA⟩ := hD.2.1
  have w4 := hV.1.2.2.2.2.2.2.2.2.1
  have w5 := hV.1.2.2.2.2.2.2.2.2.2.1
  have n21 : μ 21 1 = D.2.2.1 := by rw [hA.2.2.2.2.1.1, sLay_n]
  unfold sCo at h
  refine e_X10_count (fun _ => ?_)
  rw [r0, r1, r2, r3, r4, r5, n21, hD.2.2.1.1, hl]
  refine ⟨fun z => ?_, fun z0 => ⟨fun z => ?_, fun z1 => ⟨fun z => ?_, fun z2 => ⟨fun z => ?_, fun z3 => ⟨fun z => ⟨fun y => ?_, fun y => ?_⟩, fun z4 => ⟨fun z => ⟨fun y => ?_, fun y => ?_⟩, fun z5 => ⟨fun z => ?_, fun z6 => ⟨fun z => ?_, fun z7 => ⟨fun z => ?_, fun z8 => ?_⟩⟩⟩⟩⟩⟩⟩⟩⟩
  · rw [if_pos z] at h; exact h
  · rw [if_neg z0, if_pos z] at h; exact h
  · rw [if_neg z0, if_neg z1, if_pos z] at h; exact h
  · rw [if_neg z0, if_neg z1, if_neg z2, if_pos z] at h; exact h
  · rw [if_neg z0, if_neg z1, if_neg z2, if_neg z3, if_pos z, y] at h; exact h
  · rw [if_neg z0, if_neg z1, if_neg z2, if_neg z3, if_pos z, w4.resolve_left y] at h; exact h
  · rw [if_neg z0, if_neg z1, if_neg z2, if_neg z3, if_neg z4, if_pos z, y] at h; exact h
  · rw [if_neg z0, if_neg z1, if_neg z2, if_neg z3, if_neg z4, if_pos z, w5.resolve_left y] at h; exact h
  · rw [if_neg z0, if_neg z1, if_neg z2, if_neg z3, if_neg z4, if_neg z5, if_pos z] at h; exact h
  · rw [if_neg z0, if_neg z1, if_neg z2, if_neg z3, if_neg z4, if_neg z5, if_neg z6, if_pos z] at h; exact h
  · rw [if_neg z0, if_neg z1, if_neg z2, if_neg z3, if_neg z4, if_neg z5, if_neg z6, if_neg z7, if_pos z] at h; exact h
  · rw [if_neg z0, if_neg z1, if_neg z2, if_neg z3, if_neg z4, if_neg z5, if_neg z6, if_neg z7, if_neg z8] at h; exact h
theorem c_C_said {k : Int} (h0 : tTl μ ρ w n) (hn : n ≤ 400) (hs : tSn μ 75 P) (hP : sWp P) (h : Q (some (jm_I (if P.2.2.2 = 0 then -1 else sSel (fun t => sHo P (sAt ρ (sLay ρ w n) t P)) k n 0 0))) μ) : jc E m_X10_said (d + 8) [jm_R 0, jm_I k] μ Q := by
  obtain ⟨hr, p, hp3, hA⟩ := h0
  refine e_X10_said (d := d + 7) (fun _ => ?_)
  rw [hs.1]
  refine ⟨fun z => ?_, fun z => by rw [if_pos (by omega)] at h; exact h⟩
  rw [if_neg (by omega)] at h
  have key : ∀ (m : Nat) (t c : Int), t + m = n → 0 ≤ t → 0 ≤ c → c ≤ t → sSel (fun t => sHo P (sAt ρ (sLay ρ w n) t P)) k m t c = sSel (fun t => sHo P (sAt ρ (sLay ρ w n) t P)) k n 0 0 → jg E m_X10_said (d + 7) 16 [some (jm_R 0), some (jm_I k), some (jm_I c), some (jm_I t)] [] μ Q := by
    intro m
    induction m with
    | zero =>
      intro t c g1 g2 g3 g4 g5
      refine r_X10_said_16 (d := d + 7) ?_
      rw [hA.2.2.2.2.1.1, sLay_n]
      rw [← g5, sSel] at h
      exact ⟨fun _ => ⟨fun z => by rw [if_neg z] at h; exact h, fun z => by rw [if_pos (by omega)] at h; exact h⟩, fun z => absurd z (by omega)⟩
    | succ m ih =>
      intro t c g1 g2 g3 g4 g5
      refine r_X10_said_16 (d := d + 7) ?_
      rw [hA.2.2.2.2.1.1, sLay_n, jm_wr_id (a := t + 1) (by omega) (by omega), jm_wr_id (a := c + 1) (by omega) (by omega)]
      rw [sSel] at g5
      refine ⟨fun z => absurd z (by omega), fun _ => c_T_holds (d := d + 1) hA hs hP g2 (by rw [sLay_n]; omega) (jq_B ?_)⟩
      refine ⟨fun z => ?_, fun z => ⟨fun z3 => ?_, fun z3 => ?_⟩⟩
      · have z' : ¬ sHo P (sAt ρ (sLay ρ w n) t P) = true := fun q => by rw [if_pos q] at z; omega
        rw [if_neg z'] at g5
        exact ih (t + 1) c (by omega) (by omega) g3 (by omega) g5
      · have z' : sHo P (sAt ρ (sLay ρ w n) t P) = true := by
          by_cases q : sHo P (sAt ρ (sLay ρ w n) t P) = true
          · exact q
          · rw [if_neg q] at z; exact absurd rfl z
        rw [if_pos z', if_neg z3] at g5
        exact ih (t + 1) (c + 1) (by omega) (by omega) (by omega) (by omega) g5
      · have z' : sHo P (sAt ρ (sLay ρ w n) t P) = true := by
          by_cases q : sHo P (sAt ρ (sLay ρ w n) t P) = true
          · exact q
          · rw [if_neg q] at z; exact absurd rfl z
        rw [if_pos z', if_pos (Decidable.not_not.mp z3)] at g5
        rw [← g5] at h
        exact h
  exact key n 0 0 (by omega) (by decide) (by decide) (by decide) rfl
end DB
