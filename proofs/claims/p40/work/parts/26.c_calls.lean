section CB
variable {E : jm_E} {d : Nat} {μ : jm_M} {Q : Option jm_V → jm_M → Prop} {ρ σ : sR} {w : Int → Int} {n : Nat} {mn : Nat} {mt : Int → Int}
theorem c_T_begin {a p c : Int} (hP : tPl a p c) (hW : sWR ρ) (hr : tRu μ p ρ) (h : ∀ ν, tA ν ρ a p c sEmpty → (∀ q, q ≠ a → ν q = μ q) → (∀ i, i ≠ 0 → i ≠ 1 → i ≠ 2 → ν a i = μ a i) → Q none ν) : jc E m_X6_begin (d + 1) [jm_R a, jm_R p] μ Q := by
  have hc := hP.c
  refine e_X6_begin (fun _ => ⟨hP.i6, ?_⟩)
  refine h _ ⟨hP, ?_, hW, tRu_of (fun q q0 q1 => ?_) hr, ⟨?_, jm_up_at, fun f t f0 f1 t0 t1 => absurd (show t < 0 from t1) (by omega)⟩, sGB_empty, by show (0 : Int) ≤ c; omega⟩ (fun q hq => by rw [jm_up_ne hq, jm_up_ne hq, jm_up_ne hq]) (fun i i0 i1 i2 => by rw [jm_up_i i2, jm_up_i i1, jm_up_i i0])
  · rw [jm_up_i (by decide), jm_up_i (by decide), jm_up_at]
  · have := (hP.sep q q0 q1).1
    rw [jm_up_ne this, jm_up_ne this, jm_up_ne this]
  · rw [jm_up_i (by decide), jm_up_at]; rfl
theorem tTl_of {ν : jm_M} (hf : ∀ q, (3 ≤ q ∧ q ≤ 11 ∨ 21 ≤ q ∧ q ≤ 36) → ν q = μ q) (h : tTl μ ρ w n) : tTl ν ρ w n := by
  obtain ⟨hr, p, hp3, hA⟩ := h
  have hp := hA.1.2.1
  exact ⟨tRu_of (fun q q0 q1 => hf q (by omega)) hr, p, hp3, hA.of (fun q hq => hf q (by omega))⟩
theorem pl_37 : tPl 37 3 400 := ⟨Or.inr (Or.inl rfl), Or.inl rfl, rfl⟩
theorem tTl.beg (h0 : tTl μ ρ w n) (h : ∀ ν, tA ν ρ 37 3 400 sEmpty → (∀ q, q ≠ 37 → ν q = μ q) → tTl ν ρ w n → Q none ν) : jc E m_X6_begin (d + 1) [jm_R 37, jm_R 3] μ Q := by
  have h00 := h0
  obtain ⟨hr, p, hp3, hA⟩ := h0
  exact c_T_begin pl_37 hA.2.2.1 hr (fun ν A f _ => h ν A f (tTl_of (fun q hq => f q (by omega)) h00))
theorem c_C_drawn {k x : Int} (h0 : tTl μ ρ w n) (hn : n ≤ 400) (h1 : ¬ (1 ≤ k ∧ k ≤ 400) → Q (some (jm_I (-1))) μ) (h2 : 1 ≤ k → k ≤ 400 → ∀ ν, cE μ ν → tTl ν ρ (sDr ρ k.toNat w n x 0).1 (sDr ρ k.toNat w n x 0).2.1 → Q (some (jm_I (sDr ρ k.toNat w n x 0).2.2)) ν) : jc E m_X10_drawn (d + 7) [jm_R 0, jm_I k, jm_I x] μ Q := by
  obtain ⟨hr, p, hp3, hA⟩ := h0
  have hW := hA.2.2.1
  have hP8 := hW.2.1
  have hK10 := hW.2.2.2.1
  refine e_X10_drawn (d := d + 6) (fun _ => ⟨fun z => h1 (by omega), fun z => ⟨fun z2 => ?_, fun z2 => h1 (by omega)⟩⟩)
  have h2' := h2 (by omega) z2
  have key : ∀ (m : Nat) (w' : Int → Int) (n' : Nat) (y c : Int) (ξ : jm_M), c + m = k → 0 ≤ c → n' ≤ 400 → tA ξ ρ 21 p 400 (sLay ρ w' n') → tFr 21 μ ξ → sDr ρ m w' n' y c = sDr ρ k.toNat w n x 0 → jg E m_X10_drawn (d + 6) 19 [some (jm_R 0), some (jm_I k), none, some (jm_I y), some (jm_I c), none] [] ξ Q := by
    intro m
    induction m with
    | zero =>
      intro w' n' y c ξ g1 g2 g3 g4 g5 g6
      refine r_X10_drawn_19 (d := d + 6) ⟨fun _ => ?_, fun z => absurd (show k ≤ c by omega) z⟩
      rw [← g6] at h2'
      have := h2' ξ (cE_tFr (Or.inl rfl) g5) ⟨tRu_of (fun q q0 q1 => g5.1 q (by omega) (by omega)) hr, p, hp3, g4⟩
      rw [show k = c by omega]
      exact this
    | succ m ih =>
      intro w' n' y c ξ g1 g2 g3 g4 g5 g6
      rw [sDr] at g6
      have hh : sDr ρ k.toNat w n x 0 = (w', n', c) → Q (some (jm_I c)) ξ := fun e => by
        rw [e] at h2'
        exact h2' ξ (cE_tFr (Or.inl rfl) g5) ⟨tRu_of (fun q q0 q1 => g5.1 q (by omega) (by omega)) hr, p, hp3, g4⟩
      refine r_X10_drawn_19 (d := d + 6) ⟨fun z => absurd z (by omega), fun _ => c_T_nextOnes g4 (jq_I ?_)⟩
      rw [sLay_n]
      have nx := sNw_le (sMay ρ (sLay ρ w' n')) (ρ 1).toNat (by omega) (ρ 0).toNat 0 0 (by decide) (by decide)
      have e0 : sNx ρ (sLay ρ w' n') (-1) = sNw (sMay ρ (sLay ρ w' n')) (-1) (ρ 1).toNat (ρ 0).toNat 0 0 := rfl
      rw [← e0] at nx
      by_cases q : n' < 400
      · rw [if_pos (show (n' : Int) < 400 by omega)]
        rw [if_pos q] at g6
        refine ⟨fun z3 y' hy' => ⟨by omega, ?_⟩, fun z3 => hh ?_⟩
        · have ey : y' = sRnd y := hy'
          subst ey
          rw [if_neg (show ¬ sNx ρ (sLay ρ w' n') (-1) = 0 by omega)] at g6
          have u8 := jm_ushr8 (sRnd y)
          have rm := jm_rem_n (a := jm_ushr (sRnd y) 8) (b := sNx ρ (sLay ρ w' n') (-1)) u8.1 (by omega) (by omega) (by omega)
          have r0 := Int.emod_nonneg (jm_ushr (sRnd y) 8) (show sNx ρ (sLay ρ w' n') (-1) ≠ 0 by omega)
          have r1 := Int.emod_lt_of_pos (jm_ushr (sRnd y) 8) (show 0 < sNx ρ (sLay ρ w' n') (-1) by omega)
          rw [← rm] at r0 r1
          refine c_T_addNext g4 (by rw [sLay_n]; omega) r0 r1 (fun ν a j a0 a1 j0 j1 hw e A f _ => ?_)
          rw [e, show (16 * a + j) / 16 = a by omega, show (16 * a + j) % 16 = j by omega] at g6
          rw [jm_wr_id (by omega) (by omega)]
          exact ih (sSay w' n' a j) (n' + 1) _ (c + 1) ν (by omega) (by omega) (by omega) (by rw [sLay_say]; exact A) (g5.trans f) g6
        · rw [if_pos (show sNx ρ (sLay ρ w' n') (-1) = 0 by omega)] at g6
          exact g6.symm
      · rw [if_neg (show ¬ (n' : Int) < 400 by omega)]
        rw [if_neg q] at g6
        exact ⟨fun z3 => absurd z3 (by decide), fun _ => hh g6.symm⟩
  exact key k.toNat w n x 0 μ (by omega) (by decide) hn hA tFr.rfl rfl
theorem c_C_wholes {y : Int} (h0 : tTl μ ρ w n) (hM : tMn μ 69 mn mt) (hV : sVM ρ mn mt)
    (h1 : ¬ (0 ≤ y ∧ y ≤ 2) → Q (some (jm_I (-1))) μ)
    (h2 : 0 ≤ y → y ≤ 2 → 20000 < sWays ρ mt mn → Q (some (jm_I (-2))) μ)
    (h3 : 0 ≤ y → y ≤ 2 → sWays ρ mt mn ≤ 20000 → ∀ ν : jm_M, (∀ q, q ≠ 37 → q < 47 ∨ 52 < q → q < 124 ∨ 129 < q → ν q = μ q) → ν 124 6 = (if (sWl ρ mn mt y).length = 0 then 0 else sWn mn y : Nat) → (∀ f i : Int, 0 ≤ f → f ≤ 2 → 0 ≤ i → i < (if (sWl ρ mn mt y).length = 0 then 0 else sWn mn y : Nat) → ν (127 + f) i = sMk (sFd ρ f i) (sWl ρ mn mt y) 0) → (∀ f i : Int, 0 ≤ f → f ≤ 2 → 0 ≤ i → i < 24 → 0 ≤ ν (127 + f) i ∧ ν (127 + f) i < 1024) → Q (some (jm_I (sWl ρ mn mt y).length)) ν) :
    jc E m_X10_wholes (d + 45) [jm_R 0, jm_I y] μ Q := by
  have hW := h0.2.choose_spec.2.2.2.1
  refine e_X10_wholes (d := d + 44) (fun _ => ⟨fun z => h1 (by omega), fun z => ⟨fun z2 => ?_, fun z2 => h1 (by omega)⟩⟩)
  refine c_T_ways is_69 is_3 hW h0.1 hM hV (fun v0 v1 => jq_L ?_)
  have hc : jm_cmp (sWays ρ mt mn) 20000 ≤ 0 ↔ sWays ρ mt mn ≤ 20000 := by
    unfold jm_cmp
    split
    · omega
    · split <;> omega
  refine ⟨fun z3 => ?_, fun z3 => h2 (by omega) z2 (by have := fun q => z3 (hc.mpr q); omega)⟩
  refine h0.beg (fun ξ A f _ _ => ?_)
  refine c_T_all (d := d + 4) A (tMn_of (fun x x0 x1 => f x (by omega)) hM) hV ⟨by omega, z2⟩ (hc.mp z3) (fun ν q1 _ q3 q4 q5 => jq_I ?_)
  exact h3 (by omega) z2 (hc.mp z3) ν (fun q a1 a2 a3 => by rw [q1.1 q a1 a2 a3, f q a1]) q3 q4 q5
theorem c_C_orders (h0 : tTl μ ρ w n) (hM : tMn μ 69 mn mt) (hV : sVM ρ mn mt)
    (h1 : ¬ (sTorn mn mt = 0 ∧ mn ≤ 7) → Q (some (jm_I (-1))) μ)
    (h2 : sTorn mn mt = 0 → mn ≤ 7 → ∀ ν : jm_M, (∀ q, q ≠ 37 → q < 47 ∨ 52 < q → q < 130 ∨ 132 < q → ν q = μ q) → (∀ j, j ≠ 3 → j ≠ 6 → ν 130 j = μ 130 j) → (sOr ρ mn mt mn 0 sEmpty = [] → ν 130 6 = μ 130 6 ∧ ν 132 = μ 132) → (∀ l L', sOr ρ mn mt mn 0 sEmpty = l :: L' → l.length = mn → ν 130 6 = mn ∧ sPt (ν 132) 0 l) → Q (some (jm_I (sOr ρ mn mt mn 0 sEmpty).length)) ν) : jc E m_X10_orders (d + 17) [jm_R 0] μ Q := by
  have ht : 0 ≤ sTorn mn mt := (sCnt_le _ _ _ _).1
  refine e_X10_orders (d := d + 16) (fun _ => ?_)
  rw [hM.1, hM.2.1]
  refine ⟨fun z => h1 (fun q => by omega), fun z => ⟨fun z2 => ?_, fun z2 => h1 (fun q => z2 (by omega))⟩⟩
  refine h0.beg (fun ξ A f _ _ => ?_)
  refine c_T_arrange (d := d + 1) A (tMn_of (fun x x0 x1 => f x (by omega)) hM) hV (by omega) (by omega) (fun ν q1 _ q3 q4 q5 => jq_I ?_)
  exact h2 (by omega) (by omega) ν (fun q a1 a2 a3 => by rw [q1 q a1 a2 a3, f q a1]) (fun j j3 j6 => by rw [q3 j j3 j6, f 130 (by decide)]) (fun z => by rw [← f 130 (by decide), ← f 132 (by decide)]; exact q4 z) q5
end CB
