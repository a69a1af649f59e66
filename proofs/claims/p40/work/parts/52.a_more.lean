/-! the law feeds a text to the class -/
theorem sCm_lo {τ : Int → Int} {n x i : Int} (h : i < n) : sCm τ n x i = τ i := by
  unfold sCm
  rw [sUp_ne (by omega), sUp_ne (by omega), sUp_ne (by omega), sUp_ne (by omega)]
theorem sCm_at {τ : Int → Int} {n x i : Int} {m : Nat} (hm : m < 4) (hi : i = n + (m : Int)) : sCm τ n x i = sBt x ((24 - 8 * m : Nat) : Int) := by
  unfold sCm
  rcases (show m = 0 ∨ m = 1 ∨ m = 2 ∨ m = 3 by omega) with rfl | rfl | rfl | rfl
  · rw [sUp_ne (by omega), sUp_ne (by omega), sUp_ne (by omega), show i = n by omega, sUp_at]; rfl
  · rw [sUp_ne (by omega), sUp_ne (by omega), show i = n + 1 by omega, sUp_at]; rfl
  · rw [sUp_ne (by omega), show i = n + 2 by omega, sUp_at]; rfl
  · rw [show i = n + 3 by omega, sUp_at]; rfl
theorem sFeed_lo {τ : Int → Int} {n a b c f g i : Int} (h : i < n) : sFeed τ n a b c f g i = τ i := by
  unfold sFeed
  rw [sCm_lo (by omega), sCm_lo (by omega), sCm_lo (by omega), sCm_lo (by omega), sCm_lo h]
theorem sFeed_at {τ : Int → Int} {n i : Int} {x : Nat → Int} {m : Nat} (hm : m < 20) (hi : i = n + (m : Int)) : sFeed τ n (x 0) (x 1) (x 2) (x 3) (x 4) i = sBt (x (m / 4)) ((24 - 8 * (m % 4) : Nat) : Int) := by
  unfold sFeed
  rcases (show m / 4 = 0 ∨ m / 4 = 1 ∨ m / 4 = 2 ∨ m / 4 = 3 ∨ m / 4 = 4 by omega) with h | h | h | h | h <;> rw [h]
  · rw [sCm_lo (by omega), sCm_lo (by omega), sCm_lo (by omega), sCm_lo (by omega)]
    exact sCm_at (by omega) (by omega)
  · rw [sCm_lo (by omega), sCm_lo (by omega), sCm_lo (by omega)]
    exact sCm_at (by omega) (by omega)
  · rw [sCm_lo (by omega), sCm_lo (by omega)]
    exact sCm_at (by omega) (by omega)
  · rw [sCm_lo (by omega)]
    exact sCm_at (by omega) (by omega)
  · exact sCm_at (by omega) (by omega)
/-- only the tape has changed -/
def pFk (μ ν : jm_M) : Prop := (∀ p, p ≠ 1 → p ≠ 2 → ν p = μ p) ∧ ∀ i, i ≠ 1 → ν 1 i = μ 1 i
theorem pFk.tr {a b c : jm_M} (h1 : pFk a b) (h2 : pFk b c) : pFk a c := ⟨fun p p1 p2 => (h2.1 p p1 p2).trans (h1.1 p p1 p2), fun i i1 => (h2.2 i i1).trans (h1.2 i i1)⟩
theorem pFk.rf {a : jm_M} : pFk a a := ⟨fun _ _ _ => rfl, fun _ _ => rfl⟩
section MO
variable {E : jm_E} {d : Nat} {μ : jm_M} {Q : Option jm_V → jm_M → Prop} {bs : List Int}
theorem c_L_more {τ : Int → Int} {n had : Int} (hT : pT μ bs) (hn : n = (bs.length : Int)) (ht : tTx μ τ had) (h0 : 0 ≤ had) (h1 : had ≤ 600) (hb : ∀ i, 0 ≤ i → i < had → 0 ≤ τ i ∧ τ i ≤ 255)
    (h : ∀ ν τ', pFk μ ν → tTx ν τ' (had + n) → (∀ i, 0 ≤ i → i < had → τ' i = τ i) → (∀ i : Nat, i < bs.length → τ' (had + (i : Int)) = bs.getD i 0) → (∀ i, 0 ≤ i → i < had + n → 0 ≤ τ' i ∧ τ' i ≤ 255) → Q (some (jm_I (had + n))) ν) : jc E m_L_more (d + 4) [jm_R 0, jm_R 133, jm_I n, jm_I had] μ Q := by
  have hlen := hT.1
  refine e_L_more (d := d + 3) (fun _ => ?_)
  have key : ∀ (f j : Nat) (v4 : Int) (ξ : jm_M) (σ : Int → Int), v4 = 5 * (j : Int) → n ≤ 20 * ((j + f : Nat) : Int) → 20 * (j : Int) ≤ n + 19 → pFk μ ξ → tTx ξ σ (had + 20 * (j : Int)) → (∀ i, 0 ≤ i → i < had → σ i = τ i) → (∀ i : Nat, i < 20 * j → σ (had + (i : Int)) = sBt (μ 133 ((i / 4 : Nat) : Int)) ((24 - 8 * (i % 4) : Nat) : Int)) → (∀ i, 0 ≤ i → i < had + 20 * (j : Int) → 0 ≤ σ i ∧ σ i ≤ 255) →
      jg E m_L_more (d + 3) 3 [some (jm_R 0), some (jm_R 133), some (jm_I n), some (jm_I had), some (jm_I v4)] [] ξ Q := by
    intro f
    induction f with
    | zero =>
      intro j v4 ξ σ e4 g1 g2 hF hx hlo hat hby
      have w4 : jm_wr (4 * v4) = 4 * v4 := jm_wr_id (by omega) (by omega)
      have w5 : jm_wr (had + n) = had + n := jm_wr_id (by omega) (by omega)
      refine r_L_more_3 (d := d + 3) ⟨fun _ => ?_, fun z => absurd (by rw [w4]; omega) z⟩
      rw [w5]
      refine c_C_end (d := d + 2) hx (fun z => absurd ⟨by omega, by omega⟩ z) (fun _ _ ν c1 c2 c3 => jq_Z (jb_f (by decide) ?_))
      refine h ν σ (hF.tr ⟨fun p p1 _ => c1 p p1, c2⟩) c3 hlo (fun i hi => ?_) (fun i i0 i1 => hby i i0 (by omega))
      rw [hat i (by omega)]
      exact hT.2 i hi
    | succ f ih =>
      intro j v4 ξ σ e4 g1 g2 hF hx hlo hat hby
      have w4 : jm_wr (4 * v4) = 4 * v4 := jm_wr_id (by omega) (by omega)
      have w5 : jm_wr (had + n) = had + n := jm_wr_id (by omega) (by omega)
      by_cases hd : n ≤ 4 * v4
      · refine r_L_more_3 (d := d + 3) ⟨fun _ => ?_, fun z => absurd (by rw [w4]; omega) z⟩
        rw [w5]
        refine c_C_end (d := d + 2) hx (fun z => absurd ⟨by omega, by omega⟩ z) (fun _ _ ν c1 c2 c3 => jq_Z (jb_f (by decide) ?_))
        refine h ν σ (hF.tr ⟨fun p p1 _ => c1 p p1, c2⟩) c3 hlo (fun i hi => ?_) (fun i i0 i1 => hby i i0 (by omega))
        rw [hat i (by omega)]
        exact hT.2 i hi
      · have k1 : jm_wr (v4 + 1) = v4 + 1 := jm_wr_id (by omega) (by omega)
        have k2 : jm_wr (v4 + 2) = v4 + 2 := jm_wr_id (by omega) (by omega)
        have k3 : jm_wr (v4 + 3) = v4 + 3 := jm_wr_id (by omega) (by omega)
        have k4 : jm_wr (v4 + 4) = v4 + 4 := jm_wr_id (by omega) (by omega)
        have k5 : jm_wr (v4 + 5) = v4 + 5 := jm_wr_id (by omega) (by omega)
        refine r_L_more_3 (d := d + 3) ⟨fun z => absurd z (by rw [w4]; exact hd), fun _ => ?_⟩
        rw [k1, k2, k3, k4, k5]
        refine ⟨by omega, fun z => absurd z (by omega), fun _ => ⟨by omega, fun z => absurd z (by omega), fun _ => ⟨by omega, fun z => absurd z (by omega), fun _ => ⟨by omega, fun z => absurd z (by omega), fun _ => ⟨by omega, ?_⟩⟩⟩⟩⟩
        have er : ∀ i, ξ 133 i = μ 133 i := fun i => congrFun (hF.1 133 (by decide) (by decide)) i
        rw [er, er, er, er, er]
        refine c_C_feed (d := d + 1) hx (by omega) (by omega) (fun z => absurd z (by omega)) (fun _ ν c1 c2 c3 => jq_I (jb_t (by omega) ?_))
        have ej : had + 20 * (j : Int) + 20 = had + 20 * ((j + 1 : Nat) : Int) := by omega
        rw [ej] at c3
        refine ih (j + 1) (v4 + 5) ν _ (by omega) (by omega) (by omega) (hF.tr ⟨c1, c2⟩) c3 (fun i i0 i1 => ?_) (fun i hi => ?_) ?_
        · rw [sFeed_lo (by omega)]
          exact hlo i i0 i1
        · by_cases hl : i < 20 * j
          · rw [sFeed_lo (by omega)]
            exact hat i hl
          · have hm : i - 20 * j < 20 := by omega
            have e1 := sFeed_at (τ := σ) (n := had + 20 * (j : Int)) (i := had + (i : Int)) (x := fun q => μ 133 (v4 + (q : Int))) hm (by omega)
            have e2 : sFeed σ (had + 20 * (j : Int)) (μ 133 v4) (μ 133 (v4 + 1)) (μ 133 (v4 + 2)) (μ 133 (v4 + 3)) (μ 133 (v4 + 4)) (had + (i : Int)) = sBt (μ 133 (v4 + (((i - 20 * j) / 4 : Nat) : Int))) ((24 - 8 * ((i - 20 * j) % 4) : Nat) : Int) := by
              rw [← e1]
              show _ = sFeed σ (had + 20 * (j : Int)) (μ 133 (v4 + ((0 : Nat) : Int))) _ _ _ _ _
              rw [show v4 + ((0 : Nat) : Int) = v4 by omega]
              rfl
            rw [e2, show v4 + (((i - 20 * j) / 4 : Nat) : Int) = ((i / 4 : Nat) : Int) by omega, show (i - 20 * j) % 4 = i % 4 by omega]
        · rw [← ej]
          exact sFeed_b (by omega) hby
  refine key 12 0 0 μ τ (by omega) (by omega) (by omega) pFk.rf (by rw [show had + 20 * ((0 : Nat) : Int) = had by omega]; exact ht) (fun i _ _ => rfl) (fun i hi => absurd hi (by omega)) (fun i i0 i1 => hb i i0 (by omega))
theorem c_L_lies {τ : Int → Int} {n m : Int} (hT : pT μ bs) (hn : n = (bs.length : Int)) (ht : tTx μ τ m) (m0 : 0 ≤ m)
    (h : ∀ ν τ', pFk μ ν → tTx ν τ' n → (∀ i : Nat, i < bs.length → τ' (i : Int) = bs.getD i 0) → (∀ i, 0 ≤ i → i < n → 0 ≤ τ' i ∧ τ' i ≤ 255) → Q (some (jm_I 1)) ν) : jc E m_L_lies (d + 5) [jm_R 0, jm_R 133, jm_I n] μ Q := by
  refine e_L_lies (d := d + 4) (fun _ => ?_)
  refine c_C_end (d := d + 3) ht (fun z => absurd ⟨Int.le_refl _, m0⟩ z) (fun _ _ ν c1 c2 c3 => jq_Z (jb_f (by decide) ?_))
  have hT' : pT ν bs := ⟨hT.1, fun i hi => by rw [c1 133 (by decide)]; exact hT.2 i hi⟩
  refine c_L_more (d := d) hT' hn c3 (Int.le_refl _) (by decide) (fun i i0 i1 => absurd i1 (by omega)) (fun ξ τ' g1 g2 _ g4 g5 => jq_I ?_)
  rw [Int.zero_add] at g2 g5 ⊢
  refine jb_f (fun z => z rfl) ?_
  refine h ξ τ' (pFk.tr ⟨fun p p1 _ => c1 p p1, c2⟩ g1) g2 (fun i hi => ?_) g5
  have := g4 i hi
  rwa [Int.zero_add] at this
end MO
