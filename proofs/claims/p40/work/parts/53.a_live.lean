/-! the law's own talk: why a next word is wrong -/
theorem pAnd15 {n : Nat} (h : n < 2 ^ 31) : jm_and (n : Int) 15 = ((n % 16 : Nat) : Int) := by
  unfold jm_and
  rw [jm_of_nat, show Int32.ofInt 15 = (15 : Int32) from rfl, pk_andN (by omega) 4 (by decide)]
  rw [nI_toInt (by omega)]
theorem pRow {a b : Int} (a0 : 0 ≤ a) (a1 : a < 1000) (b0 : 0 ≤ b) (b1 : b < 16) : jm_shr (16 * a + b) 4 = a ∧ jm_and (16 * a + b) 15 = b := by
  obtain ⟨x, rfl⟩ := jm_nat a0
  obtain ⟨y, rfl⟩ := jm_nat b0
  have e : 16 * (x : Int) + (y : Int) = ((16 * x + y : Nat) : Int) := by omega
  rw [e]
  refine ⟨?_, ?_⟩
  · have h := jm_shr_n (n := 16 * x + y) (k := 4) (by omega) (by decide)
    have e4 : ((4 : Nat) : Int) = 4 := rfl
    rw [e4] at h
    rw [h, show (2 : Nat) ^ 4 = 16 from rfl]
    omega
  · rw [pAnd15 (by omega)]
    omega
/-- the law's row of words, and words that could be told -/
def pRw (μ : jm_M) (w : Int → Int) (n : Nat) : Prop := ∀ t : Nat, t < n → μ 135 (t : Int) = 16 * w (2 * t) + w (2 * t + 1)
def pVw (ρ : sR) (w : Int → Int) (n : Nat) : Prop := ∀ t : Nat, t < n → (0 ≤ w (2 * t) ∧ w (2 * t) < ρ 0) ∧ 0 ≤ w (2 * t + 1) ∧ w (2 * t + 1) < 7
/-- what the law keeps of a board -/
def pBd (μ : jm_M) (b : sB) : Prop := μ 136 49 = b.2.2 ∧ ∀ t, 0 ≤ t → t < b.2.1 → μ 136 t = b.1 2 t ∧ μ 136 (12 + t) = b.1 3 t ∧ μ 136 (24 + t) = b.1 4 t ∧ μ 136 (36 + t) = b.1 5 t
def pF6 (μ ν : jm_M) : Prop := ∀ q, q ≠ 136 → ν q = μ q
theorem pF6.tr {a b c : jm_M} (h1 : pF6 a b) (h2 : pF6 b c) : pF6 a c := fun p p1 => (h2 p p1).trans (h1 p p1)
theorem pF6.up {a : jm_M} {i v : Int} : pF6 a (jm_up a 136 i v) := fun p p1 => jm_up_ne p1
theorem sLay_w {ρ : sR} {w : Int → Int} : ∀ (n t : Nat), t < n → (sLay ρ w n).1 0 (t : Int) = w (2 * t) ∧ (sLay ρ w n).1 1 (t : Int) = w (2 * t + 1)
  | 0, t, h => absurd h (Nat.not_lt_zero _)
  | n + 1, t, h => by
    have e : sLay ρ w (n + 1) = sPush ρ (sLay ρ w n) (w (2 * n)) (w (2 * n + 1)) := rfl
    have hn := sLay_n (ρ := ρ) (w := w) n
    rw [e]
    by_cases q : t = n
    · subst q
      have := sPush_n (ρ := ρ) (b := sLay ρ w t) (who := w (2 * t)) (k := w (2 * t + 1)) rfl
      rw [hn] at this
      exact ⟨this.1, this.2.1⟩
    · have ih := sLay_w (ρ := ρ) (w := w) n t (by omega)
      rw [sPush_f rfl (by decide) (by rw [hn]; omega), sPush_f rfl (by decide) (by rw [hn]; omega)]
      exact ih
/-! why, in the law's order -/
def lv1 (k a pr wh who : Int) : Int := if 2 < k ∧ k < 6 then (if a < 0 ∨ pr < 0 then 5 else if wh = who then 0 else 6) else 0
def lv2 (k a st y : Int) : Int := if (k = 1 ∨ k = 2) ∧ (a < 0 ∨ st ≠ 1) then 5 else y
def lv3 (k a wa who y : Int) : Int := if 0 ≤ a ∧ wa = who ∧ k ≠ 3 ∧ k ≠ 4 then 4 else y
def lv4 (a op y : Int) (m : Bool) : Int := if a < 0 then (if op = 0 then 2 else y) else if m = true then y else 3
theorem lv_eq {ρ : sR} {b : sB} {who k a : Int} (k0 : 0 ≤ k) (k7 : k < 7) (hdo : ∀ j, 0 ≤ j → j < 7 → sDo ρ j = pDo j ∧ sDu ρ j = pDu (sDu ρ 1) j) (hG : sGB ρ b) (hk : ∀ t, 0 ≤ t → t < b.2.1 → 0 ≤ b.1 1 t ∧ b.1 1 t < 7) (ha : sAns ρ b.2.1 who k = a) (hin : a = -1 ∨ 0 ≤ a ∧ a < b.2.1) :
    sWr ρ b who k = if ρ 5 = 0 ∧ 0 < b.2.1 ∧ b.1 0 (b.2.1 - 1) = who then 1 else lv4 a (sOp ρ k) (lv3 k a (b.1 0 a) who (lv2 k a (b.1 5 a) (lv1 k a (if 0 ≤ a ∧ b.1 1 a = 1 ∧ b.1 5 a = 4 ∧ b.2.1 - a ≤ sDu ρ 1 then a else -1) (if k = 5 then b.1 0 (b.1 2 a) else b.1 0 a) who))) (sbt (sMa ρ k) (b.1 1 a)) := by
  have hd : sDo ρ k = if k < 6 then k + 1 else 0 := (hdo k k0 k7).1
  unfold sWr
  rw [ha]
  by_cases hr : ρ 5 = 0 ∧ 0 < b.2.1 ∧ b.1 0 (b.2.1 - 1) = who
  · rw [if_pos hr, if_pos hr]
  · rw [if_neg hr, if_neg hr]
    rcases hin with rfl | ⟨a0, a1⟩
    · rw [if_pos rfl]
      unfold lv4 lv3 lv2 lv1 sWN
      rw [if_pos (show (-1 : Int) < 0 by decide)]
      by_cases ho : sOp ρ k = 0
      · rw [if_pos ho, if_pos ho]
      · rw [if_neg ho, if_neg ho, if_neg (show ¬ ((0 : Int) ≤ -1 ∧ b.1 0 (-1) = who ∧ k ≠ 3 ∧ k ≠ 4) from fun z => absurd z.1 (by decide)), hd]
        rcases (show k = 0 ∨ k = 1 ∨ k = 2 ∨ k = 3 ∨ k = 4 ∨ k = 5 ∨ k = 6 by omega) with rfl | rfl | rfl | rfl | rfl | rfl | rfl <;> simp
    · rw [if_neg (by omega)]
      have hka := hk a a0 a1
      have hda := hdo (b.1 1 a) hka.1 hka.2
      have hst := hG.st a0 a1
      have hpr : (b.1 5 a ≠ 4 ∨ sDu ρ (b.1 1 a) < b.2.1 - a) ↔ ¬ (b.1 1 a = 1 ∧ b.1 5 a = 4 ∧ b.2.1 - a ≤ sDu ρ 1) := by
        by_cases h4 : b.1 5 a = 4
        · have h2 := hst.1.mpr (by omega)
          rw [hda.1] at h2
          have h1 : b.1 1 a = 1 := by
            unfold pDo at h2
            split at h2 <;> omega
          rw [h1]
          constructor
          · intro z w
            rcases z with z | z
            · exact z h4
            · omega
          · intro z
            refine Or.inr ?_
            by_cases q : b.2.1 - a ≤ sDu ρ 1
            · exact absurd ⟨rfl, h4, q⟩ z
            · omega
        · exact ⟨fun _ w => h4 w.2.1, fun _ => Or.inl h4⟩
      unfold lv4 lv3 lv2 lv1 sW2 sW3 sW4
      rw [if_neg (show ¬ a < 0 by omega)]
      cases hb : sbt (sMa ρ k) (b.1 1 a) with
      | false => simp
      | true =>
        rw [if_neg (by decide), if_pos rfl, hd]
        by_cases hp : b.1 1 a = 1 ∧ b.1 5 a = 4 ∧ b.2.1 - a ≤ sDu ρ 1
        · have hp2 : ¬ (b.1 5 a ≠ 4 ∨ sDu ρ (b.1 1 a) < b.2.1 - a) := fun z => hpr.mp z hp
          rw [if_neg hp2, if_pos (show 0 ≤ a ∧ b.1 1 a = 1 ∧ b.1 5 a = 4 ∧ b.2.1 - a ≤ sDu ρ 1 from ⟨a0, hp⟩)]
          have hs : ¬ (b.1 5 a = 1) := by omega
          have ha0 : ¬ (a < 0 ∨ a < 0) := by omega
          have ha1 : ¬ a < 0 := by omega
          by_cases hw : b.1 0 a = who
          · rcases (show k = 0 ∨ k = 1 ∨ k = 2 ∨ k = 3 ∨ k = 4 ∨ k = 5 ∨ k = 6 by omega) with rfl | rfl | rfl | rfl | rfl | rfl | rfl <;> simp [hw, hs, ha0, ha1, a0]
          · rcases (show k = 0 ∨ k = 1 ∨ k = 2 ∨ k = 3 ∨ k = 4 ∨ k = 5 ∨ k = 6 by omega) with rfl | rfl | rfl | rfl | rfl | rfl | rfl <;> simp [hw, hs, ha0, ha1, a0]
        · have hp2 : b.1 5 a ≠ 4 ∨ sDu ρ (b.1 1 a) < b.2.1 - a := hpr.mpr hp
          rw [if_pos hp2, if_neg (show ¬ (0 ≤ a ∧ b.1 1 a = 1 ∧ b.1 5 a = 4 ∧ b.2.1 - a ≤ sDu ρ 1) from fun z => hp z.2)]
          have ha0 : a < 0 ∨ (-1 : Int) < 0 := Or.inr (by decide)
          have ha1 : ¬ a < 0 := by omega
          by_cases hw : b.1 0 a = who
          · by_cases hs : b.1 5 a = 1
            · rcases (show k = 0 ∨ k = 1 ∨ k = 2 ∨ k = 3 ∨ k = 4 ∨ k = 5 ∨ k = 6 by omega) with rfl | rfl | rfl | rfl | rfl | rfl | rfl <;> simp [hw, hs, ha0, ha1, a0]
            · rcases (show k = 0 ∨ k = 1 ∨ k = 2 ∨ k = 3 ∨ k = 4 ∨ k = 5 ∨ k = 6 by omega) with rfl | rfl | rfl | rfl | rfl | rfl | rfl <;> simp [hw, hs, ha0, ha1, a0]
          · by_cases hs : b.1 5 a = 1
            · rcases (show k = 0 ∨ k = 1 ∨ k = 2 ∨ k = 3 ∨ k = 4 ∨ k = 5 ∨ k = 6 by omega) with rfl | rfl | rfl | rfl | rfl | rfl | rfl <;> simp [hw, hs, ha0, ha1, a0]
            · rcases (show k = 0 ∨ k = 1 ∨ k = 2 ∨ k = 3 ∨ k = 4 ∨ k = 5 ∨ k = 6 by omega) with rfl | rfl | rfl | rfl | rfl | rfl | rfl <;> simp [hw, hs, ha0, ha1, a0]
