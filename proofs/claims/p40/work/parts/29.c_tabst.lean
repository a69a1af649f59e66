/-! tables that are being read: what one line adds -/
theorem zTi_who {T : zTs} {v r : Int} (h : zTi T) (w8 : T.1 0 ≠ 8) (r0 : 1 ≤ r) (r1 : r ≤ 6) (hv : sNv v) : zTi (sUp (sUp T.1 (12 + T.1 0) r) 0 (T.1 0 + 1), sUp T.2.1 (T.1 0) v, T.2.2) := by
  obtain ⟨ρ, nw, nk⟩ := T
  obtain ⟨⟨w0, w1, w2, w3, w4, w5, w6, w7, w8', w9, w10, w11, w12⟩, n0, n1, z⟩ := h
  dsimp only at *
  have u : ∀ j, j ≠ 0 → j ≠ 12 + ρ 0 → sUp (sUp ρ (12 + ρ 0) r) 0 (ρ 0 + 1) j = ρ j := fun j j0 j1 => by rw [sUp_ne j0, sUp_ne j1]
  have u0 : sUp (sUp ρ (12 + ρ 0) r) 0 (ρ 0 + 1) 0 = ρ 0 + 1 := sUp_at
  have u1 : sUp (sUp ρ (12 + ρ 0) r) 0 (ρ 0 + 1) (12 + ρ 0) = r := by rw [sUp_ne (by omega), sUp_at]
  generalize sUp (sUp ρ (12 + ρ 0) r) 0 (ρ 0 + 1) = ρ' at u u0 u1
  have v1 := u 1 (by decide) (by omega)
  have v2 := u 2 (by decide) (by omega)
  have v3 := u 3 (by decide) (by omega)
  have v4 := u 4 (by decide) (by omega)
  have v5 := u 5 (by decide) (by omega)
  refine ⟨⟨?_, ?_, ?_, ?_, ?_, ?_, ?_, ?_, ?_, ?_, fun w a b => ?_, fun i a b => ?_, fun k a b => ?_⟩, fun i a b => ?_, fun i a b => ?_, fun k a b => ?_⟩ <;> dsimp only at *
  · omega
  · omega
  · omega
  · omega
  · omega
  · omega
  · omega
  · omega
  · rw [v4]; exact w8'
  · rw [v5]; exact w9
  · by_cases e : w = ρ 0
    · rw [e, u1]; exact ⟨r0, r1⟩
    · rw [u _ (by omega) (by omega)]; exact w10 w a (by omega)
  · rw [v3] at b; rw [u _ (by omega) (by omega)]; exact w11 i a b
  · rw [v1] at b
    have := w12 k a b
    unfold sOp sDo sDu sMa at *
    rw [u _ (by omega) (by omega), u _ (by omega) (by omega), u _ (by omega) (by omega), u _ (by omega) (by omega)]; exact this
  · by_cases e : i = ρ 0
    · rw [e, sUp_at]; exact hv
    · rw [sUp_ne e]; exact n0 i a (by omega)
  · exact n1 i a (by omega)
  · rw [u _ (by omega) (by omega), u _ (by omega) (by omega)]; exact z k (by omega) b
theorem zKd_u {ρ : sR} {a b c : Int} (h0 : 0 ≤ ρ 1) : (∀ j, j ≠ 1 → j < 20 + 4 * ρ 1 ∨ 23 + 4 * ρ 1 < j → zKd ρ a b c j = ρ j) ∧ zKd ρ a b c 1 = ρ 1 + 1 ∧ zKd ρ a b c (20 + 4 * ρ 1) = a ∧ zKd ρ a b c (21 + 4 * ρ 1) = b ∧ zKd ρ a b c (22 + 4 * ρ 1) = c ∧ zKd ρ a b c (23 + 4 * ρ 1) = 0 := by
  unfold zKd
  refine ⟨fun j j0 j1 => ?_, sUp_at, ?_, ?_, ?_, ?_⟩
  · rw [sUp_ne j0, sUp_ne (by omega), sUp_ne (by omega), sUp_ne (by omega), sUp_ne (by omega)]
  · rw [sUp_ne (by omega), sUp_ne (by omega), sUp_ne (by omega), sUp_ne (by omega), sUp_at]
  · rw [sUp_ne (by omega), sUp_ne (by omega), sUp_ne (by omega), sUp_at]
  · rw [sUp_ne (by omega), sUp_ne (by omega), sUp_at]
  · rw [sUp_ne (by omega), sUp_at]
theorem zTi_kind {T : zTs} {v a b c : Int} (h : zTi T) (w8 : T.1 1 ≠ 10) (a0 : 0 ≤ a) (a1 : a ≤ 2) (b0 : 0 ≤ b) (b1 : b ≤ 6) (c0 : 0 ≤ c) (c1 : c ≤ 99) (hv : sNv v) : zTi (zKd T.1 a b c, T.2.1, sUp T.2.2 (T.1 1) v) := by
  obtain ⟨ρ, nw, nk⟩ := T
  obtain ⟨⟨w0, w1, w2, w3, w4, w5, w6, w7, w8', w9, w10, w11, w12⟩, n0, n1, z⟩ := h
  dsimp only at *
  obtain ⟨u, u1, ua, ub, uc, ud⟩ := zKd_u (a := a) (b := b) (c := c) w2
  generalize zKd ρ a b c = ρ' at *
  have v0 := u 0 (by decide) (by omega)
  have v2 := u 2 (by decide) (by omega)
  have v3 := u 3 (by decide) (by omega)
  have v4 := u 4 (by decide) (by omega)
  have v5 := u 5 (by decide) (by omega)
  refine ⟨⟨?_, ?_, ?_, ?_, ?_, ?_, ?_, ?_, ?_, ?_, fun w a b => ?_, fun i a b => ?_, fun k a b => ?_⟩, fun i a b => ?_, fun i a b => ?_, fun k a b => ?_⟩ <;> dsimp only at *
  · omega
  · omega
  · omega
  · omega
  · omega
  · omega
  · omega
  · omega
  · rw [v4]; exact w8'
  · rw [v5]; exact w9
  · rw [v0] at b; rw [u _ (by omega) (by omega)]; exact w10 w a b
  · rw [v3] at b; rw [u _ (by omega) (by omega)]; exact w11 i a b
  · unfold sOp sDo sDu sMa at *
    by_cases e : k = ρ 1
    · rw [e, ua, ub, uc, ud]; omega
    · rw [u _ (by omega) (by omega), u _ (by omega) (by omega), u _ (by omega) (by omega), u _ (by omega) (by omega)]; exact w12 k a (by omega)
  · rw [v0] at b; exact n0 i a b
  · by_cases e : i = ρ 1
    · rw [e, sUp_at]; exact hv
    · rw [sUp_ne e]; exact n1 i a (by omega)
  · rw [u _ (by omega) (by omega), u _ (by omega) (by omega)]; exact z k (by omega) b
theorem zTi_may {T : zTs} {a b : Int} (h : zTi T) (w8 : T.1 2 ≠ 40) (a0 : 0 ≤ a) (a1 : a < T.1 1) (b0 : 0 ≤ b) (b1 : b < T.1 1) : zTi (sUp (sUp T.1 (23 + 4 * a) (sor (sMa T.1 a) b)) 2 (T.1 2 + 1), T.2) := by
  obtain ⟨ρ, nw, nk⟩ := T
  obtain ⟨⟨w0, w1, w2, w3, w4, w5, w6, w7, w8', w9, w10, w11, w12⟩, n0, n1, z⟩ := h
  dsimp only at *
  have so := sor_lt (n := 10) (w12 a a0 a1).2.2.2.1 (w12 a a0 a1).2.2.2.2 b0 (by omega)
  have u : ∀ j, j ≠ 2 → j ≠ 23 + 4 * a → sUp (sUp ρ (23 + 4 * a) (sor (sMa ρ a) b)) 2 (ρ 2 + 1) j = ρ j := fun j j0 j1 => by rw [sUp_ne j0, sUp_ne j1]
  have u2 : sUp (sUp ρ (23 + 4 * a) (sor (sMa ρ a) b)) 2 (ρ 2 + 1) 2 = ρ 2 + 1 := sUp_at
  have ua : sUp (sUp ρ (23 + 4 * a) (sor (sMa ρ a) b)) 2 (ρ 2 + 1) (23 + 4 * a) = sor (sMa ρ a) b := by rw [sUp_ne (by omega), sUp_at]
  generalize sUp (sUp ρ (23 + 4 * a) (sor (sMa ρ a) b)) 2 (ρ 2 + 1) = ρ' at *
  have v0 := u 0 (by decide) (by omega)
  have v1 := u 1 (by decide) (by omega)
  have v3 := u 3 (by decide) (by omega)
  have v4 := u 4 (by decide) (by omega)
  have v5 := u 5 (by decide) (by omega)
  refine ⟨⟨?_, ?_, ?_, ?_, ?_, ?_, ?_, ?_, ?_, ?_, fun w y z' => ?_, fun i y z' => ?_, fun k y z' => ?_⟩, fun i y z' => ?_, fun i y z' => ?_, fun k y z' => ?_⟩ <;> dsimp only at *
  · omega
  · omega
  · omega
  · omega
  · omega
  · omega
  · omega
  · omega
  · rw [v4]; exact w8'
  · rw [v5]; exact w9
  · rw [v0] at z'; rw [u _ (by omega) (by omega)]; exact w10 w y z'
  · rw [v3] at z'; rw [u _ (by omega) (by omega)]; exact w11 i y z'
  · rw [v1] at z'
    have w := w12 k y z'
    have hk : sOp ρ' k = sOp ρ k ∧ sDo ρ' k = sDo ρ k ∧ sDu ρ' k = sDu ρ k := ⟨u _ (by omega) (by omega), u _ (by omega) (by omega), u _ (by omega) (by omega)⟩
    rw [hk.1, hk.2.1, hk.2.2]
    refine ⟨w.1, w.2.1, w.2.2.1, ?_⟩
    by_cases e : sMa ρ' k = sMa ρ k
    · rw [e]; exact w.2.2.2
    · by_cases e2 : 23 + 4 * k = 23 + 4 * a
      · have : sMa ρ' k = sor (sMa ρ a) b := by rw [← ua, ← e2]; rfl
        rw [this]; exact so
      · exact absurd (u _ (by omega) e2) e
  · rw [v0] at z'; exact n0 i y z'
  · rw [v1] at z'; exact n1 i y z'
  · rw [v1] at y; rw [u _ (by omega) (by omega), u _ (by omega) (by omega)]; exact z k y z'
theorem zTi_comb {T : zTs} {v : Int} (h : zTi T) (w8 : T.1 3 ≠ 6) (r0 : 1 ≤ v) (r1 : v ≤ 6) : zTi (sUp (sUp T.1 (6 + T.1 3) v) 3 (T.1 3 + 1), T.2) := by
  obtain ⟨ρ, nw, nk⟩ := T
  obtain ⟨⟨w0, w1, w2, w3, w4, w5, w6, w7, w8', w9, w10, w11, w12⟩, n0, n1, z⟩ := h
  dsimp only at *
  have u : ∀ j, j ≠ 3 → j ≠ 6 + ρ 3 → sUp (sUp ρ (6 + ρ 3) v) 3 (ρ 3 + 1) j = ρ j := fun j j0 j1 => by rw [sUp_ne j0, sUp_ne j1]
  have u3 : sUp (sUp ρ (6 + ρ 3) v) 3 (ρ 3 + 1) 3 = ρ 3 + 1 := sUp_at
  have ua : sUp (sUp ρ (6 + ρ 3) v) 3 (ρ 3 + 1) (6 + ρ 3) = v := by rw [sUp_ne (by omega), sUp_at]
  generalize sUp (sUp ρ (6 + ρ 3) v) 3 (ρ 3 + 1) = ρ' at *
  have v0 := u 0 (by decide) (by omega)
  have v1 := u 1 (by decide) (by omega)
  have v2 := u 2 (by decide) (by omega)
  have v4 := u 4 (by decide) (by omega)
  have v5 := u 5 (by decide) (by omega)
  refine ⟨⟨?_, ?_, ?_, ?_, ?_, ?_, ?_, ?_, ?_, ?_, fun w a b => ?_, fun i a b => ?_, fun k a b => ?_⟩, fun i a b => ?_, fun i a b => ?_, fun k a b => ?_⟩ <;> dsimp only at *
  · omega
  · omega
  · omega
  · omega
  · omega
  · omega
  · omega
  · omega
  · rw [v4]; exact w8'
  · rw [v5]; exact w9
  · rw [v0] at b; rw [u _ (by omega) (by omega)]; exact w10 w a b
  · by_cases e : i = ρ 3
    · rw [e, ua]; exact ⟨r0, r1⟩
    · rw [u _ (by omega) (by omega)]; exact w11 i a (by omega)
  · rw [v1] at b
    have := w12 k a b
    unfold sOp sDo sDu sMa at *
    rw [u _ (by omega) (by omega), u _ (by omega) (by omega), u _ (by omega) (by omega), u _ (by omega) (by omega)]; exact this
  · rw [v0] at b; exact n0 i a b
  · rw [v1] at b; exact n1 i a b
  · rw [v1] at a; rw [u _ (by omega) (by omega), u _ (by omega) (by omega)]; exact z k a b
theorem zTi_once {T : zTs} {q : Int} (h : zTi T) (hq : q = 4 ∨ q = 5) : zTi (sUp T.1 q 1, T.2) := by
  obtain ⟨ρ, nw, nk⟩ := T
  obtain ⟨⟨w0, w1, w2, w3, w4, w5, w6, w7, w8', w9, w10, w11, w12⟩, n0, n1, z⟩ := h
  dsimp only at *
  have u : ∀ j, j ≠ q → sUp ρ q 1 j = ρ j := fun j j0 => sUp_ne j0
  have uq : sUp ρ q 1 q = 1 := sUp_at
  generalize sUp ρ q 1 = ρ' at *
  have v0 := u 0 (by omega)
  have v1 := u 1 (by omega)
  have v2 := u 2 (by omega)
  have v3 := u 3 (by omega)
  refine ⟨⟨?_, ?_, ?_, ?_, ?_, ?_, ?_, ?_, ?_, ?_, fun w a b => ?_, fun i a b => ?_, fun k a b => ?_⟩, fun i a b => ?_, fun i a b => ?_, fun k a b => ?_⟩ <;> dsimp only at *
  · omega
  · omega
  · omega
  · omega
  · omega
  · omega
  · omega
  · omega
  · rcases hq with e | e
    · rw [e] at uq; exact Or.inr uq
    · rw [u 4 (by omega)]; exact w8'
  · rcases hq with e | e
    · rw [u 5 (by omega)]; exact w9
    · rw [e] at uq; exact Or.inr uq
  · rw [v0] at b; rw [u _ (by omega)]; exact w10 w a b
  · rw [v3] at b; rw [u _ (by omega)]; exact w11 i a b
  · rw [v1] at b
    have := w12 k a b
    unfold sOp sDo sDu sMa at *
    rw [u _ (by omega), u _ (by omega), u _ (by omega), u _ (by omega)]; exact this
  · rw [v0] at b; exact n0 i a b
  · rw [v1] at b; exact n1 i a b
  · rw [v1] at a; rw [u _ (by omega), u _ (by omega)]; exact z k a b
/-- in the class -/
def kTb (μ : jm_M) (T : zTs) : Prop := tTb μ 12 T.1 T.2.1 T.2.2 ∧ μ 12 13 = (if T.1 3 = 0 then 0 else 1) ∧ zTi T
theorem kTb.of {μ ν : jm_M} {T : zTs} (h : kTb μ T) (hf : ∀ q, 12 ≤ q → q ≤ 20 → ν q = μ q) : kTb ν T := ⟨tTb_of (fun q a b => hf q a (by omega)) h.1, by rw [hf 12 (by decide) (by decide)]; exact h.2.1, h.2.2⟩
theorem kTb.kf {μ ν : jm_M} {T : zTs} (h : kTb μ T) (hf : tKf μ ν) : kTb ν T := h.of (fun q a b => hf.1 q (by omega))
theorem kTb_who {μ ν : jm_M} {T : zTs} {v r : Int} (h : kTb μ T) (w8 : T.1 0 ≠ 8) (r0 : 1 ≤ r) (r1 : r ≤ 6) (hv : sNv v) (e1 : ν 12 1 = T.1 0 + 1) (eo : ∀ j, j ≠ 1 → ν 12 j = μ 12 j) (a13 : ν 13 (T.1 0) = v) (b13 : ∀ i, i ≠ T.1 0 → ν 13 i = μ 13 i) (a14 : ν 14 (T.1 0) = r) (b14 : ∀ i, i ≠ T.1 0 → ν 14 i = μ 14 i) (ex : ∀ x, 15 ≤ x → x ≤ 20 → ν x = μ x) : kTb ν (sUp (sUp T.1 (12 + T.1 0) r) 0 (T.1 0 + 1), sUp T.2.1 (T.1 0) v, T.2.2) := by
  have zi := zTi_who h.2.2 w8 r0 r1 hv
  obtain ⟨ρ, nw, nk⟩ := T
  obtain ⟨⟨⟨t0, t1, t2, t3, t4, t5, t6, t7, t8, t9⟩, n0, n1, z13⟩, c13, hz⟩ := h
  have w0 := hz.1.1
  have w01 := hz.1.2.1
  have w2 := hz.1.2.2.1
  dsimp only at *
  have u : ∀ j, j ≠ 0 → j ≠ 12 + ρ 0 → sUp (sUp ρ (12 + ρ 0) r) 0 (ρ 0 + 1) j = ρ j := fun j j0 j1 => by rw [sUp_ne j0, sUp_ne j1]
  have u0 : sUp (sUp ρ (12 + ρ 0) r) 0 (ρ 0 + 1) 0 = ρ 0 + 1 := sUp_at
  have u1 : sUp (sUp ρ (12 + ρ 0) r) 0 (ρ 0 + 1) (12 + ρ 0) = r := by rw [sUp_ne (by omega), sUp_at]
  generalize sUp (sUp ρ (12 + ρ 0) r) 0 (ρ 0 + 1) = ρ' at u u0 u1 zi ⊢
  have w3 := hz.1.2.2.2.2.2.2.2.1
  have v1 := u 1 (by decide) (by omega)
  have v3 := u 3 (by decide) (by omega)
  refine ⟨⟨⟨?_, ?_, ?_, ?_, ?_, ?_, fun y => ?_, fun i a b => ?_, fun w a b => ?_, fun k a b => ?_⟩, fun i a b => ?_, fun i a b => ?_, ?_⟩, ?_, zi⟩ <;> dsimp only at *
  · rw [u0]; exact e1
  · rw [v1, eo 4 (by decide)]; exact t1
  · rw [u 2 (by decide) (by omega), eo 10 (by decide)]; exact t2
  · show ν 12 11 = if ρ' 3 = 0 then 1 else ρ' 3
    rw [v3, eo 11 (by decide)]; exact t3
  · rw [u 4 (by decide) (by omega), eo 14 (by decide)]; exact t4
  · rw [u 5 (by decide) (by omega), eo 15 (by decide)]; exact t5
  · rw [ex _ (by decide) (by decide)]; exact t6 (by omega)
  · rw [ex _ (by decide) (by decide), u _ (by omega) (by omega)]; exact t7 i a (by omega)
  · show ν 14 w = _
    by_cases e : w = ρ 0
    · rw [e, a14, u1]
    · rw [b14 w e, u _ (by omega) (by omega)]; exact t8 w a (by omega)
  · rw [ex _ (by decide) (by decide), ex _ (by decide) (by decide), ex _ (by decide) (by decide), ex _ (by decide) (by decide)]
    have := t9 k a (by omega)
    unfold sOp sDo sDu sMa at *
    rw [u _ (by omega) (by omega), u _ (by omega) (by omega), u _ (by omega) (by omega), u _ (by omega) (by omega)]; exact this
  · show ν 13 i = _
    by_cases e : i = ρ 0
    · rw [e, a13, sUp_at]
    · rw [b13 i e, sUp_ne e]; exact n0 i a (by omega)
  · rw [ex _ (by decide) (by decide)]; exact n1 i a (by omega)
  · rw [eo 13 (by decide)]; exact z13
  · show ν 12 13 = if ρ' 3 = 0 then 0 else 1
    rw [v3, eo 13 (by decide)]; exact c13
theorem kTb_kind {μ ν : jm_M} {T : zTs} {v a b c : Int} (h : kTb μ T) (w8 : T.1 1 ≠ 10) (a0 : 0 ≤ a) (a1 : a ≤ 2) (b0 : 0 ≤ b) (b1 : b ≤ 6) (c0 : 0 ≤ c) (c1 : c ≤ 99) (hv : sNv v) (e1 : ν 12 4 = T.1 1 + 1) (eo : ∀ j, j ≠ 4 → ν 12 j = μ 12 j) (ea : ν 15 (T.1 1) = v ∧ ν 16 (T.1 1) = a ∧ ν 17 (T.1 1) = b ∧ ν 18 (T.1 1) = c ∧ ν 19 (T.1 1) = 0) (eb : ∀ x i, 15 ≤ x → x ≤ 19 → i ≠ T.1 1 → ν x i = μ x i) (ex : ∀ x, x = 13 ∨ x = 14 ∨ x = 20 → ν x = μ x) : kTb ν (zKd T.1 a b c, T.2.1, sUp T.2.2 (T.1 1) v) := by
  have zi := zTi_kind h.2.2 w8 a0 a1 b0 b1 c0 c1 hv
  obtain ⟨ρ, nw, nk⟩ := T
  obtain ⟨⟨⟨t0, t1, t2, t3, t4, t5, t6, t7, t8, t9⟩, n0, n1, z13⟩, c13, hz⟩ := h
  have w2 := hz.1.2.2.1
  have w0 := hz.1.2.1
  have w3 := hz.1.2.2.2.2.2.2.2.1
  dsimp only at *
  obtain ⟨u, u1, ua, ub, uc, ud⟩ := zKd_u (a := a) (b := b) (c := c) w2
  generalize zKd ρ a b c = ρ' at *
  have v0 := u 0 (by decide) (by omega)
  have v3 := u 3 (by decide) (by omega)
  refine ⟨⟨⟨?_, ?_, ?_, ?_, ?_, ?_, fun y => ?_, fun i a b => ?_, fun w a b => ?_, fun k a b => ?_⟩, fun i a b => ?_, fun i a b => ?_, ?_⟩, ?_, zi⟩ <;> try dsimp only at *
  · rw [v0, eo 1 (by decide)]; exact t0
  · rw [u1]; exact e1
  · rw [u 2 (by decide) (by omega), eo 10 (by decide)]; exact t2
  · show ν 12 11 = if ρ' 3 = 0 then 1 else ρ' 3
    rw [v3, eo 11 (by decide)]; exact t3
  · rw [u 4 (by decide) (by omega), eo 14 (by decide)]; exact t4
  · rw [u 5 (by decide) (by omega), eo 15 (by decide)]; exact t5
  · rw [ex _ (by decide)]; exact t6 (by omega)
  · rw [ex _ (by decide), u _ (by omega) (by omega)]; exact t7 i a (by omega)
  · rw [ex _ (by decide), u _ (by omega) (by omega)]; exact t8 w a (by omega)
  · by_cases e : k = ρ 1
    · rw [e]; unfold sOp sDo sDu sMa; rw [ua, ub, uc, ud]; exact ea.2
    · rw [eb _ _ (by decide) (by decide) e, eb _ _ (by decide) (by decide) e, eb _ _ (by decide) (by decide) e, eb _ _ (by decide) (by decide) e]
      have := t9 k a (by omega)
      unfold sOp sDo sDu sMa at *
      rw [u _ (by omega) (by omega), u _ (by omega) (by omega), u _ (by omega) (by omega), u _ (by omega) (by omega)]; exact this
  · rw [ex _ (by decide)]; exact n0 i a (by omega)
  · show ν 15 i = _
    by_cases e : i = ρ 1
    · rw [e, ea.1, sUp_at]
    · rw [eb _ _ (by decide) (by decide) e, sUp_ne e]; exact n1 i a (by omega)
  · rw [eo 13 (by decide)]; exact z13
  · show ν 12 13 = if ρ' 3 = 0 then 0 else 1
    rw [v3, eo 13 (by decide)]; exact c13

