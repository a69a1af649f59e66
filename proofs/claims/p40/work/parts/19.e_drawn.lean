/-! drawn -/
def sNk (p : Int → Int → Bool) (at0 who : Int) : Nat → Int → Int → Bool × Int
  | 0, _, c => (false, c)
  | m + 1, k, c => if p who k then (if c = at0 then (true, 16 * who + k) else sNk p at0 who m (k + 1) (c + 1)) else sNk p at0 who m (k + 1) c
def sNw (p : Int → Int → Bool) (at0 : Int) (K : Nat) : Nat → Int → Int → Int
  | 0, _, c => c
  | m + 1, who, c => if (sNk p at0 who K 0 c).1 then (sNk p at0 who K 0 c).2 else sNw p at0 K m (who + 1) (sNk p at0 who K 0 c).2
def sMay (ρ : sR) (b : sB) (who k : Int) : Bool := decide (sWr ρ b who k = 0)
def sNx (ρ : sR) (b : sB) (at0 : Int) : Int := sNw (sMay ρ b) at0 (ρ 1).toNat (ρ 0).toNat 0 0
def sRnd (x : Int) : Int := jm_wr (jm_wr (x * 1103515245) + 12345)
def sSay (w : Int → Int) (n : Nat) (who k : Int) : Int → Int := fun i => if i = 2 * n then who else if i = 2 * n + 1 then k else w i
def sDr (ρ : sR) : Nat → (Int → Int) → Nat → Int → Int → (Int → Int) × Nat × Int
  | 0, w, n, _, c => (w, n, c)
  | m + 1, w, n, x, c => if n < 400 then
      (if sNx ρ (sLay ρ w n) (-1) = 0 then (w, n, c)
      else sDr ρ m (sSay w n (sNx ρ (sLay ρ w n) (jm_rem (jm_ushr (sRnd x) 8) (sNx ρ (sLay ρ w n) (-1))) / 16) (sNx ρ (sLay ρ w n) (jm_rem (jm_ushr (sRnd x) 8) (sNx ρ (sLay ρ w n) (-1))) % 16)) (n + 1) (sRnd x) (c + 1))
    else (w, n, c)
theorem sNk_in (p : Int → Int → Bool) (at0 who : Int) : ∀ (m : Nat) (k c : Int), 0 ≤ k → k + m ≤ 10 → 0 ≤ c →
    ((sNk p at0 who m k c).1 = true → ∃ j, k ≤ j ∧ j < k + m ∧ p who j = true ∧ (sNk p at0 who m k c).2 = 16 * who + j) ∧ ((sNk p at0 who m k c).1 = false → c ≤ (sNk p at0 who m k c).2 ∧ (sNk p at0 who m k c).2 ≤ c + m ∧ (c ≤ at0 → (sNk p at0 who m k c).2 ≤ at0))
  | 0, k, c, _, _, _ => ⟨fun h => (by cases h), fun _ => ⟨Int.le_refl _, by simp [sNk], fun h => h⟩⟩
  | m + 1, k, c, k0, k1, c0 => by
    unfold sNk
    by_cases hp : p who k = true
    · rw [if_pos hp]
      by_cases hc : c = at0
      · rw [if_pos hc]
        exact ⟨fun _ => ⟨k, by omega, by omega, hp, rfl⟩, fun h => (by cases h)⟩
      · rw [if_neg hc]
        have h := sNk_in p at0 who m (k + 1) (c + 1) (by omega) (by omega) (by omega)
        refine ⟨fun q => ?_, fun q => ?_⟩
        · obtain ⟨j, j0, j1, j2, j3⟩ := h.1 q
          exact ⟨j, by omega, by omega, j2, j3⟩
        · have := h.2 q
          exact ⟨by omega, by omega, fun z => this.2.2 (by omega)⟩
    · rw [if_neg hp]
      have h := sNk_in p at0 who m (k + 1) c (by omega) (by omega) c0
      refine ⟨fun q => ?_, fun q => ?_⟩
      · obtain ⟨j, j0, j1, j2, j3⟩ := h.1 q
        exact ⟨j, by omega, by omega, j2, j3⟩
      · have := h.2 q
        exact ⟨by omega, by omega, this.2.2⟩
/-- without a number: how many; with one below that: that one -/
theorem sNk_cnt (p : Int → Int → Bool) (at0 who : Int) : ∀ (m : Nat) (k c : Int), 0 ≤ c → (sNk p (-1) who m k c).1 = false ∧ c ≤ (sNk p (-1) who m k c).2 ∧ ((sNk p at0 who m k c).1 = true ↔ c ≤ at0 ∧ at0 < (sNk p (-1) who m k c).2) ∧ ((sNk p at0 who m k c).1 = false → (sNk p at0 who m k c).2 = (sNk p (-1) who m k c).2)
  | 0, k, c, c0 => ⟨rfl, Int.le_refl _, ⟨fun h => (by cases h), fun h => absurd h.2 (by simp [sNk]; omega)⟩, fun _ => rfl⟩
  | m + 1, k, c, c0 => by
    by_cases hp : p who k = true
    · have h := sNk_cnt p at0 who m (k + 1) (c + 1) (by omega)
      have e1 : sNk p (-1) who (m + 1) k c = sNk p (-1) who m (k + 1) (c + 1) := by
        rw [sNk, if_pos hp, if_neg (by omega)]
      rw [e1]
      by_cases hc : c = at0
      · have e2 : sNk p at0 who (m + 1) k c = (true, 16 * who + k) := by rw [sNk, if_pos hp, if_pos hc]
        rw [e2]
        exact ⟨h.1, by omega, ⟨fun _ => by omega, fun _ => rfl⟩, fun q => by cases q⟩
      · have e2 : sNk p at0 who (m + 1) k c = sNk p at0 who m (k + 1) (c + 1) := by rw [sNk, if_pos hp, if_neg hc]
        rw [e2]
        exact ⟨h.1, by omega, ⟨fun q => by have := h.2.2.1.mp q; omega, fun q => h.2.2.1.mpr (by omega)⟩, h.2.2.2⟩
    · have h := sNk_cnt p at0 who m (k + 1) c c0
      have e1 : sNk p (-1) who (m + 1) k c = sNk p (-1) who m (k + 1) c := by rw [sNk, if_neg hp]
      have e2 : sNk p at0 who (m + 1) k c = sNk p at0 who m (k + 1) c := by rw [sNk, if_neg hp]
      rw [e1, e2]
      exact h
theorem sNw_le (p : Int → Int → Bool) (K : Nat) (hK : K ≤ 10) : ∀ (m : Nat) (who c : Int), 0 ≤ who → 0 ≤ c → c ≤ sNw p (-1) K m who c ∧ sNw p (-1) K m who c ≤ c + 10 * m
  | 0, who, c, _, _ => ⟨Int.le_refl _, by simp [sNw]⟩
  | m + 1, who, c, w0, c0 => by
    have hc := sNk_cnt p 0 who K 0 c c0
    have hi := (sNk_in p (-1) who K 0 c (by omega) (by omega) c0).2 hc.1
    unfold sNw
    rw [if_neg (by rw [hc.1]; decide)]
    have := sNw_le p K hK m (who + 1) _ (by omega) (show 0 ≤ (sNk p (-1) who K 0 c).2 by omega)
    omega
theorem jm_ushr8 (x : Int) : 0 ≤ jm_ushr x 8 ∧ jm_ushr x 8 < 16777216 := by
  unfold jm_ushr
  have h := pk_ushr (Int32.ofInt x) (Int32.ofInt 8) 8 (by decide +kernel)
  have hlt : (Int32.ofInt x).toBitVec.toNat < 2 ^ 32 := (Int32.ofInt x).toBitVec.isLt
  generalize ((Int32.ofInt x).toUInt32 >>> ((Int32.ofInt 8).toUInt32 &&& Int32.toUInt32 31)).toInt32 = y at h
  have hy : y.toInt = (y.toBitVec.toNat : Int) := by
    show y.toBitVec.toInt = _
    rw [BitVec.toInt_eq_toNat_of_lt (by omega)]
  rw [hy]
  omega
section MD
variable {E : jm_E} {d : Nat} {μ : jm_M} {Q : Option jm_V → jm_M → Prop} {ρ : sR} {w : Int → Int} {n : Nat} {b : sB}
end MD
