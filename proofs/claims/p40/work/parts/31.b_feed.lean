/-! the class's tape: feed, end -/
section KF
variable {E : jm_E} {d : Nat} {μ : jm_M} {Q : Option jm_V → jm_M → Prop}
theorem tTx_up {ξ : jm_M} {τ : Int → Int} {n v : Int} (h : tTx ξ τ n) : tTx (jm_up (jm_up ξ 2 n (sSb v)) 1 1 (n + 1)) (sUp τ n v) (n + 1) := by
  refine ⟨jm_up_at, fun i i0 i1 => ?_⟩
  rw [jm_up_lj (by decide)]
  unfold sUp
  by_cases hi : i = n
  · rw [if_pos hi, hi, jm_up_at]
  · rw [if_neg hi, jm_up_i hi]
    exact h.2 i i0 (by omega)
theorem c_K_put {x n : Int} {τ : Int → Int} (hT : tTx μ τ n) (n0 : 0 ≤ n) (n1 : n ≤ 936) (h : ∀ ν, (∀ p, p ≠ 1 → p ≠ 2 → ν p = μ p) → (∀ i, i ≠ 1 → ν 1 i = μ 1 i) → tTx ν (sCm τ n x) (n + 4) → Q none ν) : jc E m_X7_put (d + 1) [jm_R 1, jm_I x] μ Q := by
  refine e_X7_put (d := d) (fun _ => ?_)
  have step : ∀ (k : Nat) (m : Int) (τ' : Int → Int) (ξ : jm_M), (k = 24 ∨ k = 16 ∨ k = 8 ∨ k = 0) → tTx ξ τ' m → 0 ≤ m → m < 940 → jg E m_X7_put d 3 [some (jm_R 1), some (jm_I x), some (jm_I ((k : Int) - 8))] [] (jm_up (jm_up ξ 2 m (sSb (sBt x k))) 1 1 (m + 1)) Q → jg E m_X7_put d 3 [some (jm_R 1), some (jm_I x), some (jm_I (k : Int))] [] ξ Q := by
    intro k m τ' ξ g1 g3 g4 g5 g6
    have hb := (sBt_in (x := x) g1).2
    refine r_X7_put_3 (d := d) ⟨fun z => absurd z (by omega), fun _ => ?_⟩
    rw [g3.1, hb]
    refine ⟨fun z => absurd z (by omega), fun _ => ⟨⟨g4, g5⟩, fun m3 h3 => ?_⟩⟩
    have e2 : m3 1 1 = m := by rw [h3, jm_up_lj (by decide)]; exact g3.1
    rw [e2, jm_wr_id (a := m + 1) (by omega) (by omega), jm_wr_id (by omega) (by omega), h3, show (k : Int) + -8 = (k : Int) - 8 by omega]
    exact g6
  have t1 := tTx_up (v := sBt x 24) hT
  have t2 := tTx_up (v := sBt x 16) t1
  have t3 := tTx_up (v := sBt x 8) t2
  have t4 := tTx_up (v := sBt x 0) t3
  refine step 24 n τ μ (by decide) hT n0 (by omega) (step 16 (n + 1) _ _ (by decide) t1 (by omega) (by omega) (step 8 (n + 1 + 1) _ _ (by decide) t2 (by omega) (by omega) (step 0 (n + 1 + 1 + 1) _ _ (by decide) t3 (by omega) (by omega) ?_)))
  refine r_X7_put_3 (d := d) ⟨fun _ => h _ (fun p p1 p2 => ?_) (fun i hi => ?_) ?_, fun z => absurd (by decide) z⟩
  · rw [jm_up_ne p1, jm_up_ne p2, jm_up_ne p1, jm_up_ne p2, jm_up_ne p1, jm_up_ne p2, jm_up_ne p1, jm_up_ne p2]
  · rw [jm_up_i hi, jm_up_lj (by decide), jm_up_i hi, jm_up_lj (by decide), jm_up_i hi, jm_up_lj (by decide), jm_up_i hi, jm_up_lj (by decide)]
  · rw [show n + 1 + 1 + 1 + 1 = n + 4 by omega] at t4
    have e : sCm τ n x = sUp (sUp (sUp (sUp τ n (sBt x 24)) (n + 1) (sBt x 16)) (n + 1 + 1) (sBt x 8)) (n + 1 + 1 + 1) (sBt x 0) := by
      unfold sCm
      rw [show n + 1 + 1 = n + 2 by omega, show n + 2 + 1 = n + 3 by omega]
    rw [e, show n + 1 + 1 + 1 + 1 = n + 4 by omega]
    exact t4
theorem c_C_feed {a b c f g n : Int} {τ : Int → Int} (hT : tTx μ τ n) (n0 : 0 ≤ n) (n1 : n ≤ 940) (h1 : 920 < n → Q (some (jm_I (-1))) μ)
    (h2 : n ≤ 920 → ∀ ν : jm_M, (∀ p, p ≠ 1 → p ≠ 2 → ν p = μ p) → (∀ i, i ≠ 1 → ν 1 i = μ 1 i) → tTx ν (sFeed τ n a b c f g) (n + 20) → Q (some (jm_I (n + 20))) ν) : jc E m_X10_feed (d + 2) [jm_R 0, jm_I a, jm_I b, jm_I c, jm_I f, jm_I g] μ Q := by
  refine e_X10_feed (d := d + 1) (fun _ => ?_)
  rw [hT.1, jm_wr_id (by omega) (by omega)]
  refine ⟨fun z => ?_, fun z => h1 (by omega)⟩
  have h2' := h2 (by omega)
  refine c_K_put hT n0 (by omega) (fun m2 a1 a2 a3 _ => c_K_put a3 (by omega) (by omega) (fun m3 b1 b2 b3 _ => c_K_put b3 (by omega) (by omega) (fun m4 c1 c2 c3 _ => c_K_put c3 (by omega) (by omega) (fun m5 d1 d2 d3 _ => c_K_put d3 (by omega) (by omega) (fun m6 e1 e2 e3 _ => ?_)))))
  rw [show n + 4 + 4 = n + 8 by omega, show n + 8 + 4 = n + 12 by omega, show n + 12 + 4 = n + 16 by omega, show n + 16 + 4 = n + 20 by omega] at e3
  rw [e3.1]
  refine h2' m6 (fun p p1 p2 => ?_) (fun i i0 => ?_) e3
  · rw [e1 p p1 p2, d1 p p1 p2, c1 p p1 p2, b1 p p1 p2, a1 p p1 p2]
  · rw [e2 i i0, d2 i i0, c2 i i0, b2 i i0, a2 i i0]
theorem c_C_end {k n : Int} {τ : Int → Int} (hT : tTx μ τ n) (h1 : ¬ (0 ≤ k ∧ k ≤ n) → Q (some (jm_I 0)) μ)
    (h2 : 0 ≤ k → k ≤ n → ∀ ν : jm_M, (∀ p, p ≠ 1 → ν p = μ p) → (∀ i, i ≠ 1 → ν 1 i = μ 1 i) → tTx ν τ k → Q (some (jm_I 1)) ν) : jc E m_X10_end (d + 1) [jm_R 0, jm_I k] μ Q := by
  refine e_X10_end (d := d) (fun _ => ⟨fun z => h1 (fun q => by omega), fun z => ?_⟩)
  rw [hT.1]
  exact ⟨fun z2 => h2 (by omega) z2 _ (fun p p1 => jm_up_ne p1) (fun i i0 => jm_up_i i0) ⟨jm_up_at, fun i i0 i1 => by rw [jm_up_ne (by decide)]; exact hT.2 i i0 (by omega)⟩, fun z2 => h1 (fun q => z2 q.2)⟩
/-- what is fed are bytes -/
theorem sCm_b {τ : Int → Int} {n x : Int} (n0 : 0 ≤ n) (h : ∀ i, 0 ≤ i → i < n → 0 ≤ τ i ∧ τ i ≤ 255) : ∀ i, 0 ≤ i → i < n + 4 → 0 ≤ sCm τ n x i ∧ sCm τ n x i ≤ 255 := by
  intro i i0 i1
  unfold sCm
  by_cases q3 : i = n + 3
  · rw [q3, sUp_at]; exact (sBt_in (k := 0) (by decide)).1
  · rw [sUp_ne q3]
    by_cases q2 : i = n + 2
    · rw [q2, sUp_at]; exact (sBt_in (k := 8) (by decide)).1
    · rw [sUp_ne q2]
      by_cases q1 : i = n + 1
      · rw [q1, sUp_at]; exact (sBt_in (k := 16) (by decide)).1
      · rw [sUp_ne q1]
        by_cases q : i = n
        · rw [q, sUp_at]; exact (sBt_in (k := 24) (by decide)).1
        · rw [sUp_ne q]; exact h i i0 (by omega)
theorem sFeed_b {τ : Int → Int} {n a b c f g : Int} (n0 : 0 ≤ n) (h : ∀ i, 0 ≤ i → i < n → 0 ≤ τ i ∧ τ i ≤ 255) : ∀ i, 0 ≤ i → i < n + 20 → 0 ≤ sFeed τ n a b c f g i ∧ sFeed τ n a b c f g i ≤ 255 := by
  have h1 := sCm_b (x := a) n0 h
  have h2 := sCm_b (x := b) (by omega) h1
  rw [show n + 4 + 4 = n + 8 by omega] at h2
  have h3 := sCm_b (x := c) (by omega) h2
  rw [show n + 8 + 4 = n + 12 by omega] at h3
  have h4 := sCm_b (x := f) (by omega) h3
  rw [show n + 12 + 4 = n + 16 by omega] at h4
  have h5 := sCm_b (x := g) (by omega) h4
  rw [show n + 16 + 4 = n + 20 by omega] at h5
  exact h5
end KF
