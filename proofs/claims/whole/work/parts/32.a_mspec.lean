/-! READING torn minutes: numbers by turns (who, kind; -1: any), how many, how many any. T: the rules and names of the table -/
abbrev zMs : Type := (Int → Int) × Nat × Int
/-- a name or any -/
def zTn (κ : zKp) (g : Int → Int) (c tn p : Int) : zRs (Int × Int) := if zIs κ p 15 then (if tn = 8 then zE κ p 4 else .ok (-1, tn + 1)) else zBi (zNH κ g c p) fun a => .ok (a, tn)
def zMw (κ : zKp) (T : zTs) (M : zMs) (p : Int) : zRs (zMs × Int) :=
  if M.2.1 = 24 then (if zIs κ p 15 then zE κ p 4 else zBi (zNH κ T.2.1 (T.1 0) p) fun _ => zE κ p 4)
  else zBi (zTn κ T.2.1 (T.1 0) M.2.2 p) fun x => zBi (zTn κ T.2.2 (T.1 1) x.2 (zNx κ p)) fun y => .ok ((sUp (sUp M.1 (2 * M.2.1) x.1) (2 * M.2.1 + 1) y.1, M.2.1 + 1, y.2), zNx κ (zNx κ p))
def zMl (κ : zKp) (T : zTs) (M : zMs) (p : Int) : zRs (zMs × Int) := zBi (zMw κ T M p) fun x => if zSg κ x.2 59 then .ok (x.1, zNx κ x.2) else zE κ x.2 1
def zMt (κ : zKp) (T : zTs) : Nat → zMs → Int → zRs zMs
  | 0, M, _ => .ok M
  | f + 1, M, p => if (κ p).1 = 0 then .ok M else zBi (zMl κ T M p) fun x => zMt κ T f x.1 x.2
def zM0 : zMs := (fun _ => 0, 0, 0)
def zMi (ρ : sR) (M : zMs) : Prop := sVM ρ M.2.1 M.1 ∧ M.2.2 = sTorn M.2.1 M.1
theorem sCnt_e {p q : Int → Bool} : ∀ (m : Nat) (t c : Int), (∀ k, t ≤ k → k < t + m → p k = q k) → sCnt p m t c = sCnt q m t c
  | 0, _, _, _ => rfl
  | m + 1, t, c, h => by
    unfold sCnt
    rw [h t (Int.le_refl _) (by omega)]
    exact sCnt_e m (t + 1) _ (fun k k0 k1 => h k (by omega) (by omega))
theorem sCnt_s {p : Int → Bool} : ∀ (m : Nat) (t c : Int), sCnt p (m + 1) t c = (if p (t + m) then sCnt p m t c + 1 else sCnt p m t c)
  | 0, t, c => by
    unfold sCnt sCnt
    rw [show t + ((0 : Nat) : Int) = t by omega]
  | m + 1, t, c => by
    rw [sCnt, sCnt_s m (t + 1), sCnt, show t + 1 + (m : Int) = t + ((m + 1 : Nat) : Int) by omega]
theorem zMi_0 {ρ : sR} : zMi ρ zM0 := ⟨⟨by decide, fun t t0 t1 => absurd (show t < 0 from t1) (by omega), by decide⟩, rfl⟩
theorem zMi_s {ρ : sR} {M : zMs} {a b : Int} (h : zMi ρ M) (hm : M.2.1 ≠ 24) (ha : a = -1 ∨ 0 ≤ a ∧ a < ρ 0) (hb : b = -1 ∨ 0 ≤ b ∧ b < ρ 1) (ht : M.2.2 + (if a = -1 then 1 else 0) + (if b = -1 then 1 else 0) ≤ 8) : zMi ρ (sUp (sUp M.1 (2 * M.2.1) a) (2 * M.2.1 + 1) b, M.2.1 + 1, M.2.2 + (if a = -1 then 1 else 0) + (if b = -1 then 1 else 0)) := by
  obtain ⟨mt, m, tn⟩ := M
  obtain ⟨⟨h1, h2, h3⟩, h4⟩ := h
  dsimp only at *
  have e : sTorn (m + 1) (sUp (sUp mt (2 * m) a) (2 * m + 1) b) = tn + (if a = -1 then 1 else 0) + (if b = -1 then 1 else 0) := by
    unfold sTorn at h4 ⊢
    rw [show 2 * (m + 1) = 2 * m + 1 + 1 by omega, sCnt_s, sCnt_s]
    rw [sCnt_e (q := fun k => decide (mt k = -1)) (2 * m) 0 0 (fun k k0 k1 => by rw [sUp_ne (by omega), sUp_ne (by omega)]), ← h4]
    rw [show (0 : Int) + ((2 * m : Nat) : Int) = 2 * m by omega, show (0 : Int) + ((2 * m + 1 : Nat) : Int) = 2 * m + 1 by omega]
    rw [sUp_at, sUp_ne (show (2 * (m : Int)) ≠ 2 * m + 1 by omega), sUp_at]
    by_cases ca : a = -1 <;> by_cases cb : b = -1 <;> simp [ca, cb]
  have u0 : sUp (sUp mt (2 * (m : Int)) a) (2 * (m : Int) + 1) b (2 * (m : Int)) = a := by rw [sUp_ne (by omega), sUp_at]
  have u1 : sUp (sUp mt (2 * (m : Int)) a) (2 * (m : Int) + 1) b (2 * (m : Int) + 1) = b := sUp_at
  have u : ∀ j : Int, j ≠ 2 * (m : Int) → j ≠ 2 * (m : Int) + 1 → sUp (sUp mt (2 * (m : Int)) a) (2 * (m : Int) + 1) b j = mt j := fun j j0 j1 => by rw [sUp_ne j1, sUp_ne j0]
  refine ⟨⟨show m + 1 ≤ 24 by omega, fun t t0 t1 => ?_, ?_⟩, e.symm⟩
  · dsimp only at t1 ⊢
    by_cases q : t = m
    · rw [q, u0, u1]; exact ⟨ha, hb⟩
    · rw [u _ (by omega) (by omega), u _ (by omega) (by omega)]
      exact h2 t t0 (by omega)
  · have e' := e
    unfold sTorn at e'
    dsimp only
    rw [e']
    exact ht
/-- in the class -/
def kMn (μ : jm_M) (M : zMs) : Prop := μ 72 0 = M.2.1 ∧ μ 72 1 = M.2.2 ∧ ∀ t : Int, 0 ≤ t → t < M.2.1 → μ 73 t = M.1 (2 * t) ∧ μ 74 t = M.1 (2 * t + 1)
