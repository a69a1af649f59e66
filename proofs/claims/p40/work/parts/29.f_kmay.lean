/-! a table's lines, in the class: may, comb, ranks, twice -/
theorem kTb_may {μ ν : jm_M} {T : zTs} {a b : Int} (h : kTb μ T) (w8 : T.1 2 ≠ 40) (a0 : 0 ≤ a) (a1 : a < T.1 1) (b0 : 0 ≤ b) (b1 : b < T.1 1) (e1 : ν 12 10 = T.1 2 + 1) (eo : ∀ j, j ≠ 10 → ν 12 j = μ 12 j) (ea : ν 19 a = sor (sMa T.1 a) b) (eb : ∀ i, i ≠ a → ν 19 i = μ 19 i) (ex : ∀ x, 13 ≤ x → x ≤ 20 → x ≠ 19 → ν x = μ x) : kTb ν (sUp (sUp T.1 (23 + 4 * a) (sor (sMa T.1 a) b)) 2 (T.1 2 + 1), T.2) := by
  have zi := zTi_may h.2.2 w8 a0 a1 b0 b1
  obtain ⟨ρ, nw, nk⟩ := T
  obtain ⟨⟨⟨t0, t1, t2, t3, t4, t5, t6, t7, t8, t9⟩, n0, n1, z13⟩, c13, hz⟩ := h
  have w01 := hz.1.2.1
  have w3 := hz.1.2.2.2.2.2.2.2.1
  dsimp only at *
  have u : ∀ j, j ≠ 2 → j ≠ 23 + 4 * a → sUp (sUp ρ (23 + 4 * a) (sor (sMa ρ a) b)) 2 (ρ 2 + 1) j = ρ j := fun j j0 j1 => by rw [sUp_ne j0, sUp_ne j1]
  have u2 : sUp (sUp ρ (23 + 4 * a) (sor (sMa ρ a) b)) 2 (ρ 2 + 1) 2 = ρ 2 + 1 := sUp_at
  have ua : sUp (sUp ρ (23 + 4 * a) (sor (sMa ρ a) b)) 2 (ρ 2 + 1) (23 + 4 * a) = sor (sMa ρ a) b := by rw [sUp_ne (by omega), sUp_at]
  generalize sUp (sUp ρ (23 + 4 * a) (sor (sMa ρ a) b)) 2 (ρ 2 + 1) = ρ' at u u2 ua zi ⊢
  have v0 := u 0 (by decide) (by omega)
  have v1 := u 1 (by decide) (by omega)
  have v3 := u 3 (by decide) (by omega)
  refine ⟨⟨⟨?_, ?_, ?_, ?_, ?_, ?_, fun y => ?_, fun i y z => ?_, fun w y z => ?_, fun k y z => ?_⟩, fun i y z => ?_, fun i y z => ?_, ?_⟩, ?_, zi⟩ <;> try dsimp only at *
  · rw [v0, eo 1 (by decide)]; exact t0
  · rw [v1, eo 4 (by decide)]; exact t1
  · rw [u2]; exact e1
  · show ν 12 11 = if ρ' 3 = 0 then 1 else ρ' 3
    rw [v3, eo 11 (by decide)]; exact t3
  · rw [u 4 (by decide) (by omega), eo 14 (by decide)]; exact t4
  · rw [u 5 (by decide) (by omega), eo 15 (by decide)]; exact t5
  · rw [ex _ (by decide) (by decide) (by decide)]; exact t6 (by omega)
  · rw [ex _ (by decide) (by decide) (by decide), u _ (by omega) (by omega)]; exact t7 i y (by omega)
  · rw [ex _ (by decide) (by decide) (by decide), u _ (by omega) (by omega)]; exact t8 w y (by omega)
  · have w := t9 k y (by omega)
    rw [ex _ (by decide) (by decide) (by decide), ex _ (by decide) (by decide) (by decide), ex _ (by decide) (by decide) (by decide)]
    have hk : sOp ρ' k = sOp ρ k ∧ sDo ρ' k = sDo ρ k ∧ sDu ρ' k = sDu ρ k := ⟨u _ (by omega) (by omega), u _ (by omega) (by omega), u _ (by omega) (by omega)⟩
    rw [hk.1, hk.2.1, hk.2.2]
    refine ⟨w.1, w.2.1, w.2.2.1, ?_⟩
    show ν 19 k = sMa ρ' k
    by_cases e : k = a
    · rw [e, ea]; exact ua.symm
    · rw [eb k e]
      have : sMa ρ' k = sMa ρ k := u _ (by omega) (by omega)
      rw [this]; exact w.2.2.2
  · rw [ex _ (by decide) (by decide) (by decide)]; exact n0 i y (by omega)
  · rw [ex _ (by decide) (by decide) (by decide)]; exact n1 i y (by omega)
  · rw [eo 13 (by decide)]; exact z13
  · show ν 12 13 = if ρ' 3 = 0 then 0 else 1
    rw [v3, eo 13 (by decide)]; exact c13
theorem kTb_once {ν : jm_M} {T : zTs} {q : Int} (h : kTb ν T) (hq : q = 4 ∨ q = 5) : kTb (jm_up ν 12 (10 + q) 1) (sUp T.1 q 1, T.2) := by
  have zi := zTi_once h.2.2 hq
  obtain ⟨ρ, nw, nk⟩ := T
  obtain ⟨⟨⟨t0, t1, t2, t3, t4, t5, t6, t7, t8, t9⟩, n0, n1, z13⟩, c13, hz⟩ := h
  dsimp only at *
  have u : ∀ j, j ≠ q → sUp ρ q 1 j = ρ j := fun j j0 => sUp_ne j0
  have uq : sUp ρ q 1 q = 1 := sUp_at
  generalize sUp ρ q 1 = ρ' at u uq zi ⊢
  have v0 := u 0 (by omega)
  have v1 := u 1 (by omega)
  have v3 := u 3 (by omega)
  have ex : ∀ x, x ≠ 12 → jm_up ν 12 (10 + q) 1 x = ν x := fun x hx => jm_up_ne hx
  have eo : ∀ j, j ≠ 10 + q → jm_up ν 12 (10 + q) 1 12 j = ν 12 j := fun j hj => jm_up_i hj
  have eq : jm_up ν 12 (10 + q) 1 12 (10 + q) = 1 := jm_up_at
  generalize jm_up ν 12 (10 + q) 1 = ξ at ex eo eq ⊢
  refine ⟨⟨⟨?_, ?_, ?_, ?_, ?_, ?_, fun y => ?_, fun i y z => ?_, fun w y z => ?_, fun k y z => ?_⟩, fun i y z => ?_, fun i y z => ?_, ?_⟩, ?_, zi⟩ <;> try dsimp only at *
  · rw [v0, eo 1 (by omega)]; exact t0
  · rw [v1, eo 4 (by omega)]; exact t1
  · rw [u 2 (by omega), eo 10 (by omega)]; exact t2
  · show ξ 12 11 = if ρ' 3 = 0 then 1 else ρ' 3
    rw [v3, eo 11 (by omega)]; exact t3
  · rcases hq with e | e
    · subst e; rw [uq]; exact eq
    · rw [u 4 (by omega), eo 14 (by omega)]; exact t4
  · rcases hq with e | e
    · rw [u 5 (by omega), eo 15 (by omega)]; exact t5
    · subst e; rw [uq]; exact eq
  · rw [ex _ (by decide)]; exact t6 (by omega)
  · rw [ex _ (by decide), u _ (by omega)]; exact t7 i y (by omega)
  · rw [ex _ (by decide), u _ (by omega)]; exact t8 w y (by omega)
  · have w := t9 k y (by omega)
    rw [ex _ (by decide), ex _ (by decide), ex _ (by decide), ex _ (by decide)]
    have hk : sOp ρ' k = sOp ρ k ∧ sDo ρ' k = sDo ρ k ∧ sDu ρ' k = sDu ρ k ∧ sMa ρ' k = sMa ρ k := ⟨u _ (by omega), u _ (by omega), u _ (by omega), u _ (by omega)⟩
    rw [hk.1, hk.2.1, hk.2.2.1, hk.2.2.2]
    exact w
  · rw [ex _ (by decide)]; exact n0 i y (by omega)
  · rw [ex _ (by decide)]; exact n1 i y (by omega)
  · rw [eo 13 (by omega)]; exact z13
  · show ξ 12 13 = if ρ' 3 = 0 then 0 else 1
    rw [v3, eo 13 (by omega)]; exact c13
/-- while a comb is being read -/
def kCb (ν : jm_M) (T : zTs) : Prop := (ν 12 1 = T.1 0 ∧ ν 12 4 = T.1 1 ∧ ν 12 10 = T.1 2 ∧ ν 12 14 = T.1 4 ∧ ν 12 15 = T.1 5) ∧ (ν 12 11 = T.1 3 ∧ ν 12 13 = 1) ∧
  (∀ i, 0 ≤ i → i < T.1 3 → ν 20 i = T.1 (6 + i)) ∧ (∀ w, 0 ≤ w → w < T.1 0 → ν 14 w = T.1 (12 + w) ∧ ν 13 w = T.2.1 w) ∧
  (∀ k, 0 ≤ k → k < T.1 1 → (ν 16 k = sOp T.1 k ∧ ν 17 k = sDo T.1 k ∧ ν 18 k = sDu T.1 k ∧ ν 19 k = sMa T.1 k) ∧ ν 15 k = T.2.2 k) ∧ zTi T
theorem kCb.kf {ν ξ : jm_M} {T : zTs} (h : kCb ν T) (hf : tKf ν ξ) : kCb ξ T := by
  have g : ∀ q, 12 ≤ q → ξ q = ν q := fun q a => hf.1 q (by omega)
  unfold kCb
  rw [g 12 (by decide), g 13 (by decide), g 14 (by decide), g 15 (by decide), g 16 (by decide), g 17 (by decide), g 18 (by decide), g 19 (by decide), g 20 (by decide)]
  exact h
theorem kCb_0 {μ : jm_M} {T : zTs} (h : kTb μ T) (h3 : T.1 3 = 0) : kCb (jm_up (jm_up μ 12 13 1) 12 11 0) T := by
  obtain ⟨⟨⟨t0, t1, t2, t3, t4, t5, t6, t7, t8, t9⟩, n0, n1, z13⟩, c13, hz⟩ := h
  refine ⟨⟨?_, ?_, ?_, ?_, ?_⟩, ⟨?_, ?_⟩, fun i i0 i1 => by omega, fun w a b => ⟨?_, ?_⟩, fun k a b => ⟨?_, ?_⟩, hz⟩
  · rw [jm_up_i (by decide), jm_up_i (by decide)]; exact t0
  · rw [jm_up_i (by decide), jm_up_i (by decide)]; exact t1
  · rw [jm_up_i (by decide), jm_up_i (by decide)]; exact t2
  · rw [jm_up_i (by decide), jm_up_i (by decide)]; exact t4
  · rw [jm_up_i (by decide), jm_up_i (by decide)]; exact t5
  · rw [jm_up_at, h3]
  · rw [jm_up_i (by decide), jm_up_at]
  · rw [jm_up_lj (by decide), jm_up_lj (by decide)]; exact t8 w a b
  · rw [jm_up_lj (by decide), jm_up_lj (by decide)]; exact n0 w a b
  · rw [jm_up_lj (by decide), jm_up_lj (by decide), jm_up_lj (by decide), jm_up_lj (by decide), jm_up_lj (by decide), jm_up_lj (by decide), jm_up_lj (by decide), jm_up_lj (by decide)]; exact t9 k a b
  · rw [jm_up_lj (by decide), jm_up_lj (by decide)]; exact n1 k a b
theorem kCb.tb {ν : jm_M} {T : zTs} (h : kCb ν T) (h3 : T.1 3 ≠ 0) : kTb ν T := by
  obtain ⟨⟨t0, t1, t2, t4, t5⟩, ⟨t3, c13⟩, t7, t8, t9, hz⟩ := h
  exact ⟨⟨⟨t0, t1, t2, by rw [if_neg h3]; exact t3, t4, t5, fun z => absurd z h3, t7, fun w a b => (t8 w a b).1, fun k a b => (t9 k a b).1⟩, fun w a b => (t8 w a b).2, fun k a b => (t9 k a b).2, Or.inr c13⟩, by rw [if_neg h3]; exact c13, hz⟩
theorem kCb.st {ν : jm_M} {T : zTs} {v : Int} (h : kCb ν T) (h6 : T.1 3 ≠ 6) (v0 : 1 ≤ v) (v1 : v ≤ 6) : kCb (jm_up (jm_up ν 20 (T.1 3) v) 12 11 (T.1 3 + 1)) (sUp (sUp T.1 (6 + T.1 3) v) 3 (T.1 3 + 1), T.2) := by
  have zi := zTi_comb h.2.2.2.2.2 h6 v0 v1
  obtain ⟨ρ, nw, nk⟩ := T
  obtain ⟨⟨t0, t1, t2, t4, t5⟩, ⟨t3, c13⟩, t7, t8, t9, hz⟩ := h
  have w3 := hz.1.2.2.2.2.2.2.1
  have w36 := hz.1.2.2.2.2.2.2.2.1
  dsimp only at *
  have u : ∀ j, j ≠ 3 → j ≠ 6 + ρ 3 → sUp (sUp ρ (6 + ρ 3) v) 3 (ρ 3 + 1) j = ρ j := fun j j0 j1 => by rw [sUp_ne j0, sUp_ne j1]
  have u3 : sUp (sUp ρ (6 + ρ 3) v) 3 (ρ 3 + 1) 3 = ρ 3 + 1 := sUp_at
  have ua : sUp (sUp ρ (6 + ρ 3) v) 3 (ρ 3 + 1) (6 + ρ 3) = v := by rw [sUp_ne (by omega), sUp_at]
  generalize sUp (sUp ρ (6 + ρ 3) v) 3 (ρ 3 + 1) = ρ' at u u3 ua zi ⊢
  have x0 := u 0 (by decide) (by omega)
  have x1 := u 1 (by decide) (by omega)
  have o : ∀ j, j ≠ 11 → jm_up (jm_up ν 20 (ρ 3) v) 12 11 (ρ 3 + 1) 12 j = ν 12 j := fun j hj => by rw [jm_up_i hj, jm_up_lj (by decide)]
  have ox : ∀ x, x ≠ 12 → x ≠ 20 → jm_up (jm_up ν 20 (ρ 3) v) 12 11 (ρ 3 + 1) x = ν x := fun x a b => by rw [jm_up_ne a, jm_up_ne b]
  have o11 : jm_up (jm_up ν 20 (ρ 3) v) 12 11 (ρ 3 + 1) 12 11 = ρ 3 + 1 := jm_up_at
  have oa : jm_up (jm_up ν 20 (ρ 3) v) 12 11 (ρ 3 + 1) 20 (ρ 3) = v := by rw [jm_up_lj (by decide), jm_up_at]
  have ob : ∀ i, i ≠ ρ 3 → jm_up (jm_up ν 20 (ρ 3) v) 12 11 (ρ 3 + 1) 20 i = ν 20 i := fun i hi => by rw [jm_up_lj (by decide), jm_up_i hi]
  generalize jm_up (jm_up ν 20 (ρ 3) v) 12 11 (ρ 3 + 1) = ξ at o ox o11 oa ob ⊢
  refine ⟨⟨?_, ?_, ?_, ?_, ?_⟩, ⟨?_, ?_⟩, fun i i0 i1 => ?_, fun w a b => ?_, fun k a b => ?_, zi⟩ <;> try dsimp only at *
  · rw [o 1 (by decide), x0]; exact t0
  · rw [o 4 (by decide), x1]; exact t1
  · rw [o 10 (by decide), u 2 (by decide) (by omega)]; exact t2
  · rw [o 14 (by decide), u 4 (by decide) (by omega)]; exact t4
  · rw [o 15 (by decide), u 5 (by decide) (by omega)]; exact t5
  · rw [o11, u3]
  · rw [o 13 (by decide)]; exact c13
  · by_cases e : i = ρ 3
    · rw [e, oa, ua]
    · rw [ob i e, u _ (by omega) (by omega)]; exact t7 i i0 (by omega)
  · rw [ox 14 (by decide) (by decide), ox 13 (by decide) (by decide), u _ (by omega) (by omega)]; exact t8 w a (by omega)
  · have hk : sOp ρ' k = sOp ρ k ∧ sDo ρ' k = sDo ρ k ∧ sDu ρ' k = sDu ρ k ∧ sMa ρ' k = sMa ρ k := ⟨u _ (by omega) (by omega), u _ (by omega) (by omega), u _ (by omega) (by omega), u _ (by omega) (by omega)⟩
    rw [ox 15 (by decide) (by decide), ox 16 (by decide) (by decide), ox 17 (by decide) (by decide), ox 18 (by decide) (by decide), ox 19 (by decide) (by decide), hk.1, hk.2.1, hk.2.2.1, hk.2.2.2]
    exact t9 k a (by omega)

