/-! wholes, what is sure, what they hang on, of the class -/
def tMn (μ : jm_M) (q : Int) (mn : Nat) (mt : Int → Int) : Prop := μ q 0 = mn ∧ μ q 1 = sTorn mn mt ∧ ∀ t : Int, 0 ≤ t → t < mn → μ (q + 1) t = mt (2 * t) ∧ μ (q + 2) t = mt (2 * t + 1)
theorem sTq_0 {mt : Int → Int} {wo sw t : Int} (t0 : 0 ≤ t) : sTq mt wo sw (2 * t) = mt (2 * sSw sw (sDp wo t)) := by
  unfold sTq
  rw [show 2 * t / 2 = t by omega, show 2 * t % 2 = 0 by omega, Int.add_zero]
theorem sTq_1 {mt : Int → Int} {wo sw t : Int} (t0 : 0 ≤ t) : sTq mt wo sw (2 * t + 1) = mt (2 * sSw sw (sDp wo t) + 1) := by
  unfold sTq
  rw [show (2 * t + 1) / 2 = t by omega, show (2 * t + 1) % 2 = 1 by omega]
theorem sWl_alt {ρ : sR} {mn : Nat} {mt : Int → Int} {w : Int} (hw : 0 ≤ w ∧ w ≤ 2) : sWl ρ mn mt w = sFl (fun i => sFi ρ (sTq mt (if w = 1 then i else -1) (if w = 2 then i else -1)) (sTn mn (if w = 1 then i else -1)) sEmpty) (if w = 0 then 1 else if w = 2 then mn - 1 else mn) 0 := by
  unfold sWl
  by_cases h : w = 0
  · rw [if_pos h, if_pos h, h]
    show _ = _ ++ []
    rw [List.append_nil]
    rfl
  · rw [if_neg h, if_neg h]
theorem sWl_each {ρ : sR} {mn : Nat} {mt : Int → Int} {w : Int} (hW : sWR ρ) (hw : 0 ≤ w ∧ w ≤ 2) (hB : sWays ρ mt mn ≤ 20000) : ∀ i : Int, 0 ≤ i → i < ((if w = 0 then 1 else if w = 2 then mn - 1 else mn : Nat) : Int) → ((sFi ρ (sTq mt (if w = 1 then i else -1) (if w = 2 then i else -1)) (sTn mn (if w = 1 then i else -1)) sEmpty).length : Int) ≤ 20000 := by
  intro i i0 i1
  refine sRow_len (mn := mn) hW ?_ ?_ ?_ ?_ ?_ (by decide) hB
  · split <;> omega
  · by_cases h1 : w = 1
    · rw [if_pos h1]; rw [if_neg (by omega), if_neg (by omega)] at i1; exact i1
    · rw [if_neg h1]; omega
  · split <;> omega
  · by_cases h2 : w = 2
    · rw [if_pos h2]; rw [if_neg (by omega), if_pos h2] at i1; right; omega
    · rw [if_neg h2]; exact Or.inl rfl
  · by_cases h1 : w = 1
    · right; rw [if_neg (by omega)]
    · left; rw [if_neg h1]
theorem sWl_len {ρ : sR} {mn : Nat} {mt : Int → Int} {w : Int} (hW : sWR ρ) (hn : mn ≤ 24) (hw : 0 ≤ w ∧ w ≤ 2) (hB : sWays ρ mt mn ≤ 20000) : ((sWl ρ mn mt w).length : Int) ≤ 480000 := by
  rw [sWl_alt hw]
  have h := sFl_len (g := fun i => sFi ρ (sTq mt (if w = 1 then i else -1) (if w = 2 then i else -1)) (sTn mn (if w = 1 then i else -1)) sEmpty) (c := 20000) (by decide) (if w = 0 then 1 else if w = 2 then mn - 1 else mn) 0 (fun j j0 j1 => sWl_each hW hw hB j j0 (by omega))
  have : (if w = 0 then 1 else if w = 2 then mn - 1 else mn) ≤ 24 := by
    split
    · decide
    · split <;> omega
  omega
section WI
variable {E : jm_E} {d : Nat} {μ : jm_M} {Q : Option jm_V → jm_M → Prop} {ρ : sR} {p q : Int} {mn : Nat} {mt : Int → Int}
theorem c_T_whoAt {t : Int} (hq : jm_is jm_N q 1 1) (hM : tMn μ q mn mt) (hn : mn ≤ 24) (t0 : 0 ≤ t) (t1 : t < mn) (h : Q (some (jm_I (mt (2 * t)))) μ) : jc E m_X1_whoAt (d + 1) [jm_R q, jm_I t] μ Q := by
  refine e_X1_whoAt (fun _ => ⟨fun z => absurd z (by omega), fun _ => ⟨fun z => absurd z (by omega), fun _ => ⟨hq, by omega, ?_⟩⟩⟩)
  rw [(hM.2.2 t t0 t1).1]
  exact h
theorem c_T_kindAt {t : Int} (hq : jm_is jm_N q 1 1) (hM : tMn μ q mn mt) (hn : mn ≤ 24) (t0 : 0 ≤ t) (t1 : t < mn) (h : Q (some (jm_I (mt (2 * t + 1)))) μ) : jc E m_X1_kindAt (d + 1) [jm_R q, jm_I t] μ Q := by
  refine e_X1_kindAt (fun _ => ⟨fun z => absurd z (by omega), fun _ => ⟨fun z => absurd z (by omega), fun _ => ⟨hq, by omega, ?_⟩⟩⟩)
  rw [(hM.2.2 t t0 t1).2]
  exact h
theorem tMn_of {ν : jm_M} (hf : ∀ x, q ≤ x → x ≤ q + 2 → ν x = μ x) (h : tMn μ q mn mt) : tMn ν q mn mt := by
  have e0 := hf q (by omega) (by omega)
  have e1 := hf (q + 1) (by omega) (by omega)
  have e2 := hf (q + 2) (by omega) (by omega)
  unfold tMn
  rw [e0, e1, e2]
  exact h
theorem c_T_ways (hq : jm_is jm_N q 1 1) (hp : jm_is jm_N p 1 5) (hW : sWR ρ) (hr : tRu μ p ρ) (hM : tMn μ q mn mt) (hV : sVM ρ mn mt) (h : 0 ≤ sWays ρ mt mn → sWays ρ mt mn ≤ 100000000 → Q (some (jm_L (sWays ρ mt mn))) μ) : jc E m_X1_ways (d + 1) [jm_R q, jm_R p] μ Q := by
  have hP8 := hW.2.1
  have hP := hW.1
  have hK10 := hW.2.2.2.1
  have hK := hW.2.2.1
  refine e_X1_ways (fun _ => ?_)
  have key : ∀ (m t c : Nat) (v : Int), t + m = mn → 0 ≤ v → v ≤ ((10 ^ c : Nat) : Int) → sCnt (fun k => decide (mt k = -1)) (2 * m) (2 * t) c ≤ 8 → v * sPr (sGw ρ mt) m t = sWays ρ mt mn → jg E m_X1_ways d 5 [some (jm_R q), some (jm_R p), some (jm_L v), none, some (jm_I t)] [] μ Q := by
    intro m
    induction m with
    | zero =>
      intro t c v g1 g2 g3 g4 g5
      have c8 : c ≤ 8 := by have := (sCnt_le (fun k => decide (mt k = -1)) (2 * 0) (2 * t) c).1; omega
      have p8 : 10 ^ c ≤ 10 ^ 8 := Nat.pow_le_pow_right (by decide) c8
      have e : v = sWays ρ mt mn := by rw [← g5]; show v = v * 1; omega
      refine r_X1_ways_5 ⟨hq, ?_⟩
      rw [hM.1]
      refine ⟨fun _ => ?_, fun z => absurd z (by omega)⟩
      subst e
      exact h g2 (by have : ((10 ^ c : Nat) : Int) ≤ ((10 ^ 8 : Nat) : Int) := by exact_mod_cast p8
                     have e8 : ((10 ^ 8 : Nat) : Int) = 100000000 := by decide
                     omega)
    | succ m ih =>
      intro t c v g1 g2 g3 g4 g5
      have hn := hV.1
      have hmt := hM.2.2 t (by omega) (by omega)
      rw [show 2 * (m + 1) = 2 * m + 1 + 1 by omega, sCnt, sCnt, show (2 * (t : Int) + 1 + 1) = 2 * ((t + 1 : Nat) : Int) by omega] at g4
      rw [sPr, ← Int.mul_assoc, show ((t : Int) + 1) = ((t + 1 : Nat) : Int) by omega] at g5
      unfold sGw at g5
      rw [← Int.mul_assoc] at g5
      have step : ∀ (c' : Nat) (v' : Int), 0 ≤ v' → v' ≤ ((10 ^ c' : Nat) : Int) → v' = v * (if mt (2 * t) = -1 then ρ 0 else 1) → (c' : Int) = (if mt (2 * t) = -1 then (c : Int) + 1 else c) → jg E m_X1_ways d 40 [some (jm_R q), some (jm_R p), some (jm_L v'), none, some (jm_I t)] [] μ Q := by
        intro c' v' h1 h2 h3 h4
        simp only [decide_eq_true_eq] at g4
        rw [← h4] at g4
        rw [← h3] at g5
        refine r_X1_ways_40 ⟨hq, by omega, ?_⟩
        rw [hmt.2, jm_wr_id (by omega) (by omega)]
        refine ⟨fun z => ?_, fun z => ⟨hp, fun x hx => ?_⟩⟩
        · rw [if_neg z] at g4 g5
          rw [Int.mul_one] at g5
          exact ih (t + 1) c' v' (by omega) h1 h2 g4 g5
        · rw [if_pos (Decidable.not_not.mp z)] at g4 g5
          rw [hr.2.1] at hx
          have c8 : (c' : Int) + 1 ≤ 8 := by have := (sCnt_le (fun k => decide (mt k = -1)) (2 * m) (2 * ((t + 1 : Nat) : Int)) ((c' : Int) + 1)).1; omega
          have p8 : 10 ^ c' ≤ 10 ^ 7 := Nat.pow_le_pow_right (by decide) (by omega)
          have b0 : 0 ≤ v' * ρ 1 := Int.mul_nonneg h1 hK
          have b1 : v' * ρ 1 ≤ ((10 ^ c' : Nat) : Int) * 10 := Int.mul_le_mul h2 hK10 hK (by omega)
          have p7 : ((10 ^ c' : Nat) : Int) ≤ 10000000 := by have : ((10 ^ c' : Nat) : Int) ≤ ((10 ^ 7 : Nat) : Int) := by exact_mod_cast p8
                                                             have e8 : ((10 ^ 7 : Nat) : Int) = 10000000 := by decide
                                                             omega
          rw [jm_wl_id (by omega) (by omega)] at hx
          subst hx
          refine ih (t + 1) (c' + 1) _ (by omega) b0 ?_ (by rw [show ((c' + 1 : Nat) : Int) = (c' : Int) + 1 by omega]; exact g4) g5
          rw [Nat.pow_succ, Int.natCast_mul]
          exact b1
      refine r_X1_ways_5 ⟨hq, ?_⟩
      rw [hM.1, hmt.1]
      refine ⟨fun z => absurd z (by omega), fun _ => ⟨fun z => absurd z (by omega), fun _ => ⟨by omega, fun z => step c v g2 g3 (by rw [if_neg z]; omega) (by rw [if_neg z]), fun z => ⟨hp, fun x hx => ?_⟩⟩⟩⟩
      have z' := Decidable.not_not.mp z
      rw [hr.1] at hx
      have c8 : (c : Int) + 1 ≤ 8 := by
        simp only [decide_eq_true_eq] at g4
        rw [if_pos z'] at g4
        have h1 := (sCnt_le (fun k => decide (mt k = -1)) (2 * m) (2 * ((t + 1 : Nat) : Int)) (if mt (2 * t + 1) = -1 then (c : Int) + 1 + 1 else (c : Int) + 1)).1
        have h2 : (c : Int) + 1 ≤ (if mt (2 * t + 1) = -1 then (c : Int) + 1 + 1 else (c : Int) + 1) := by split <;> omega
        omega
      have p8 : 10 ^ c ≤ 10 ^ 7 := Nat.pow_le_pow_right (by decide) (by omega)
      have b0 : 0 ≤ v * ρ 0 := Int.mul_nonneg g2 hP
      have b1 : v * ρ 0 ≤ ((10 ^ c : Nat) : Int) * 10 := Int.mul_le_mul g3 (by omega) hP (by omega)
      have p7 : ((10 ^ c : Nat) : Int) ≤ 10000000 := by have : ((10 ^ c : Nat) : Int) ≤ ((10 ^ 7 : Nat) : Int) := by exact_mod_cast p8
                                                        have e8 : ((10 ^ 7 : Nat) : Int) = 10000000 := by decide
                                                        omega
      rw [jm_wl_id (by omega) (by omega)] at hx
      subst hx
      refine step (c + 1) _ b0 ?_ (by rw [if_pos z']) (by rw [if_pos z']; omega)
      rw [Nat.pow_succ, Int.natCast_mul]
      exact b1
  exact key mn 0 0 1 (by omega) (by decide) (by decide) hV.2.2 (by rw [Int.one_mul]; rfl)
theorem c_T_take {wo : Int} (hq : jm_is jm_N q 1 1) (hq2 : q + 2 < 124) (hM : tMn μ q mn mt) (hn : mn ≤ 24) (w0 : -1 ≤ wo) (w1 : wo < mn)
    (h : ∀ ν : jm_M, (∀ x, x ≠ 124 → x ≠ 125 → x ≠ 126 → ν x = μ x) → (∀ i, i ≠ 0 → ν 124 i = μ 124 i) → ν 124 0 = sTn mn wo → (∀ i : Int, 0 ≤ i → i < sTn mn wo → ν 125 i = sTq mt wo (-1) (2 * i) ∧ ν 126 i = sTq mt wo (-1) (2 * i + 1)) → Q none ν) : jc E m_X9_take (d + 2) [jm_R 124, jm_R q, jm_I wo] μ Q := by
  refine e_X9_take (d := d + 1) (fun _ => ?_)
  have key : ∀ (m t c : Nat) (ξ : jm_M), mn - t = m → t ≤ mn → ((wo < 0 ∨ (t : Int) ≤ wo) ∧ c = t ∨ (0 ≤ wo ∧ wo < t) ∧ c + 1 = t) → (∀ x, x ≠ 124 → x ≠ 125 → x ≠ 126 → ξ x = μ x) → (∀ i, i ≠ 0 → ξ 124 i = μ 124 i) → ξ 124 0 = c → (∀ i : Int, 0 ≤ i → i < c → ξ 125 i = sTq mt wo (-1) (2 * i) ∧ ξ 126 i = sTq mt wo (-1) (2 * i + 1)) → jg E m_X9_take (d + 1) 7 [some (jm_R 124), some (jm_R q), some (jm_I wo), some (jm_I t)] [] ξ Q := by
    intro m
    induction m with
    | zero =>
      intro t c ξ g1 g2 g3 g4 g5 g6 g7
      refine r_X9_take_7 (d := d + 1) ⟨hq, ?_⟩
      rw [g4 q (by omega) (by omega) (by omega), hM.1]
      refine ⟨fun _ => ?_, fun z => absurd z (by omega)⟩
      have ec : c = sTn mn wo := by unfold sTn; split <;> omega
      subst ec
      exact h ξ g4 g5 g6 g7
    | succ m ih =>
      intro t c ξ g1 g2 g3 g4 g5 g6 g7
      have hM' : tMn ξ q mn mt := tMn_of (fun x x0 x1 => g4 x (by omega) (by omega) (by omega)) hM
      have e1 : jm_wr ((t : Int) + 1) = ((t + 1 : Nat) : Int) := by rw [jm_wr_id (by omega) (by omega)]; omega
      refine r_X9_take_7 (d := d + 1) ⟨hq, ?_⟩
      rw [g4 q (by omega) (by omega) (by omega), hM.1, g6, e1]
      refine ⟨fun z => absurd z (by omega), fun _ => ⟨fun z => absurd z (by omega), fun _ => ⟨fun z => ih (t + 1) c ξ (by omega) (by omega) (by omega) g4 g5 g6 g7, fun z => c_T_whoAt hq hM' hn (by omega) (by omega) (jq_I ⟨by omega, fun m8 h8 => ?_⟩)⟩⟩⟩
      have M8 : tMn m8 q mn mt := tMn_of (fun x x0 x1 => by rw [h8]; exact jm_up_ne (by omega)) hM'
      have e8 : m8 124 0 = c := by rw [h8, jm_up_ne (by decide)]; exact g6
      refine c_T_kindAt hq M8 hn (by omega) (by omega) (jq_I ?_)
      rw [e8]
      refine ⟨by omega, fun m12 h12 => ?_⟩
      have e12 : m12 124 0 = c := by rw [h12, jm_up_ne (by decide)]; exact e8
      have hd : sDp wo (c : Int) = t := by unfold sDp; split <;> omega
      have hs : sSw (-1) (t : Int) = t := by unfold sSw; rw [if_neg (by omega), if_neg (fun y => y.1 rfl)]
      rw [e12, show jm_wr ((c : Int) + 1) = ((c + 1 : Nat) : Int) by rw [jm_wr_id (by omega) (by omega)]; omega]
      refine ih (t + 1) (c + 1) _ (by omega) (by omega) (by omega) (fun x x1 x2 x3 => ?_) (fun i hi => ?_) jm_up_at (fun i i0 i1 => ?_)
      · rw [jm_up_ne x1, h12, jm_up_ne x3, h8, jm_up_ne x2]; exact g4 x x1 x2 x3
      · rw [jm_up_i hi, h12, jm_up_ne (by decide), h8, jm_up_ne (by decide)]; exact g5 i hi
      · rw [jm_up_ne (by decide), jm_up_ne (by decide), h12]
        by_cases e : i = c
        · subst e
          rw [sTq_0 i0, sTq_1 i0, hd, hs]
          exact ⟨by rw [jm_up_ne (by decide), h8]; exact jm_up_at, jm_up_at⟩
        · have g7' := g7 i i0 (by omega)
          exact ⟨by rw [jm_up_ne (by decide), h8, jm_up_i e]; exact g7'.1, by rw [jm_up_i e, h8, jm_up_ne (by decide)]; exact g7'.2⟩
  exact key mn 0 0 (jm_up μ 124 0 0) (by omega) (by omega) (by omega) (fun x x1 _ _ => jm_up_ne x1) (fun i hi => jm_up_i hi) jm_up_at (fun i i0 i1 => by omega)
theorem c_T_exchange {sw : Int} (hn : mn ≤ 24) (s0 : 0 ≤ sw) (s1 : sw + 1 < mn) (h0 : μ 124 0 = mn) (h1 : ∀ i : Int, 0 ≤ i → i < mn → μ 125 i = sTq mt (-1) (-1) (2 * i) ∧ μ 126 i = sTq mt (-1) (-1) (2 * i + 1))
    (h : ∀ ν : jm_M, (∀ x, x ≠ 125 → x ≠ 126 → ν x = μ x) → (∀ i : Int, 0 ≤ i → i < mn → ν 125 i = sTq mt (-1) sw (2 * i) ∧ ν 126 i = sTq mt (-1) sw (2 * i + 1)) → Q none ν) : jc E m_X9_exchange (d + 1) [jm_R 124, jm_I sw] μ Q := by
  refine e_X9_exchange (fun _ => ⟨fun z => absurd z (by omega), fun _ => ?_⟩)
  rw [jm_wr_id (by omega) (by omega), h0]
  refine ⟨fun _ => ⟨by omega, fun x4 h4 x5 h5 => ⟨by omega, fun m7 h7 m8 h8 m9 h9 m10 h10 => ?_⟩⟩, fun z => absurd s1 z⟩
  have hd : ∀ x : Int, 0 ≤ x → sDp (-1) x = x := fun x _ => by unfold sDp; rw [if_neg (by omega)]
  have hs : ∀ x : Int, 0 ≤ x → sSw (-1) x = x := fun x _ => by unfold sSw; rw [if_neg (by omega), if_neg (fun y => y.1 rfl)]
  have h1' : ∀ i : Int, 0 ≤ i → i < mn → μ 125 i = mt (2 * i) ∧ μ 126 i = mt (2 * i + 1) := fun i i0 i1 => by
    have := h1 i i0 i1
    rwa [sTq_0 i0, sTq_1 i0, hd i i0, hs i i0] at this
  refine h m10 (fun x x1 x2 => by rw [h10, jm_up_ne x2, h9, jm_up_ne x1, h8, jm_up_ne x2, h7, jm_up_ne x1]) (fun i i0 i1 => ?_)
  have a1 := h1' sw s0 (by omega)
  have a2 := h1' (sw + 1) (by omega) s1
  rw [sTq_0 i0, sTq_1 i0, hd i i0]
  have e7 : m7 126 (sw + 1) = mt (2 * (sw + 1) + 1) := by rw [h7, jm_up_ne (by decide)]; exact a2.2
  rw [e7] at h8
  rw [a2.1] at h7
  rw [a1.1] at h4
  rw [a1.2] at h5
  subst h4 h5
  have v125 : m10 125 i = if i = sw + 1 then mt (2 * sw) else if i = sw then mt (2 * (sw + 1)) else μ 125 i := by
    rw [h10, jm_up_ne (by decide), h9]
    by_cases q1 : i = sw + 1
    · rw [if_pos q1, q1, jm_up_at]
    · rw [if_neg q1, jm_up_i q1, h8, jm_up_ne (by decide), h7]
      by_cases q2 : i = sw
      · rw [if_pos q2, q2, jm_up_at]
      · rw [if_neg q2, jm_up_i q2]
  have v126 : m10 126 i = if i = sw + 1 then mt (2 * sw + 1) else if i = sw then mt (2 * (sw + 1) + 1) else μ 126 i := by
    rw [h10]
    by_cases q1 : i = sw + 1
    · rw [if_pos q1, q1, jm_up_at]
    · rw [if_neg q1, jm_up_i q1, h9, jm_up_ne (by decide), h8]
      by_cases q2 : i = sw
      · rw [if_pos q2, q2, jm_up_at]
      · rw [if_neg q2, jm_up_i q2, h7, jm_up_ne (by decide)]
  rw [v125, v126]
  unfold sSw
  by_cases q1 : i = sw
  · have n1 : ¬ (i = sw + 1) := by omega
    rw [if_neg n1, if_neg n1, if_pos q1, if_pos q1, if_pos q1, q1]
    exact ⟨rfl, rfl⟩
  · by_cases q2 : i = sw + 1
    · rw [if_pos q2, if_pos q2, if_neg q1, if_pos ⟨by omega, q2⟩, q2, show sw + 1 - 1 = sw by omega]
      exact ⟨rfl, rfl⟩
    · rw [if_neg q2, if_neg q2, if_neg q1, if_neg q1, if_neg q1, if_neg (fun z => q2 z.2)]
      exact h1' i i0 i1
end WI
