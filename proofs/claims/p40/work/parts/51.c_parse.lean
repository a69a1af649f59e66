/-! the law's table, told as a text: read -/
/-- the lines' letters -/
def pLw (w r : Int) : List Int := [119, 104, 111, 32, 97 + w, 32, 48 + r, 59]
def pLk (op sp k : Int) : List Int :=
  if k = 0 then [107, 105, 110, 100, 32, 113, 32, 111, 112, 101, 110, 115, 32, 97, 115, 107, 115, 59]
  else if k = 1 then [107, 105, 110, 100, 32, 121, 32, 103, 114, 97, 110, 116, 115, 32, 48 + sp, 59]
  else if k = 2 then [107, 105, 110, 100, 32, 110, 32, 114, 101, 102, 117, 115, 101, 115, 59]
  else if k = 3 then [107, 105, 110, 100, 32, 107, 32, 107, 101, 101, 112, 115, 59]
  else if k = 4 then [107, 105, 110, 100, 32, 120, 32, 98, 114, 101, 97, 107, 115, 59]
  else if k = 5 then [107, 105, 110, 100, 32, 102, 32, 102, 114, 101, 101, 115, 59]
  else if op = 0 then [107, 105, 110, 100, 32, 115, 59]
  else if op = 1 then [107, 105, 110, 100, 32, 115, 32, 111, 112, 101, 110, 115, 59]
  else [107, 105, 110, 100, 32, 115, 32, 98, 101, 103, 105, 110, 115, 59]
def pLc (K : Int) (cb : Int → Int) : List Int := if K = 1 then [99, 111, 109, 98, 32, 48 + cb 0, 59] else [99, 111, 109, 98, 32, 48 + cb 0, 32, 48 + cb 1, 59]
def pLr (rk : Int) : List Int := if rk = 1 then [114, 97, 110, 107, 115, 59] else []
def pLt (tw : Int) : List Int := if tw = 1 then [116, 119, 105, 99, 101, 59] else []
def pLm (x : Int × Int) : List Int := [109, 97, 121, 32, 96 + pKn x.1, 32, 96 + pKn x.2, 59]
def pLws (r : Int → Int) : Nat → List Int
  | 0 => []
  | w + 1 => pLws r w ++ pLw (w : Int) (r (w : Int))
def pLks (op sp : Int) : Nat → List Int
  | 0 => []
  | k + 1 => pLks op sp k ++ pLk op sp (k : Int)
/-- the rules that are told -/
def pI (ρ : sR) (W j op sp : Int) (r : Int → Int) : Prop := ρ 0 = W ∧ ρ 1 = j ∧ ρ 2 = 0 ∧ ρ 3 = 0 ∧ ρ 4 = 0 ∧ ρ 5 = 0 ∧ (∀ i, 0 ≤ i → i < W → ρ (12 + i) = r i) ∧ (∀ k, 0 ≤ k → k < j → ρ (20 + 4 * k) = pOp op k ∧ ρ (21 + 4 * k) = pDo k ∧ ρ (22 + 4 * k) = pDu sp k) ∧ ∀ k, 0 ≤ k → k < 7 → ρ (23 + 4 * k) = 0
def pR (ρ : sR) (W K rk tw op sp : Int) (r cb : Int → Int) : Prop := ρ 0 = W ∧ ρ 1 = 7 ∧ ρ 3 = K ∧ ρ 4 = rk ∧ ρ 5 = tw ∧ (∀ i, 0 ≤ i → i < W → ρ (12 + i) = r i) ∧ (∀ i, 0 ≤ i → i < K → ρ (6 + i) = cb i) ∧ ∀ k, 0 ≤ k → k < 7 → ρ (20 + 4 * k) = pOp op k ∧ ρ (21 + 4 * k) = pDo k ∧ ρ (22 + 4 * k) = pDu sp k
theorem pI_who {ρ : sR} {W op sp x : Int} {r : Int → Int} (h : pI ρ W 0 op sp r) (W0 : 0 ≤ W) (W2 : W ≤ 2) (hx : x = r W) : pI (sUp (sUp ρ (12 + W) x) 0 (W + 1)) (W + 1) 0 op sp r := by
  obtain ⟨h0, h1, h2, h3, h4, h5, h6, h7, h8⟩ := h
  have far : ∀ i : Int, i ≠ 0 → i ≠ 12 + W → sUp (sUp ρ (12 + W) x) 0 (W + 1) i = ρ i := fun i q1 q2 => by rw [sUp_ne q1, sUp_ne q2]
  refine ⟨sUp_at, by rw [far 1 (by decide) (by omega)]; exact h1, by rw [far 2 (by decide) (by omega)]; exact h2, by rw [far 3 (by decide) (by omega)]; exact h3, by rw [far 4 (by decide) (by omega)]; exact h4, by rw [far 5 (by decide) (by omega)]; exact h5, fun i i0 i1 => ?_, fun k k0 k1 => absurd k1 (by omega), fun k k0 k1 => by rw [far _ (by omega) (by omega)]; exact h8 k k0 k1⟩
  by_cases e : i = W
  · rw [e, sUp_ne (by omega), sUp_at, hx]
  · rw [far _ (by omega) (by omega)]
    exact h6 i i0 (by omega)
theorem pI_kind {ρ : sR} {W j op sp a b c : Int} {r : Int → Int} (h : pI ρ W j op sp r) (W3 : W ≤ 3) (j0 : 0 ≤ j) (j6 : j ≤ 6) (ha : a = pOp op j) (hb : b = pDo j) (hc : c = pDu sp j) : pI (zKd ρ a b c) W (j + 1) op sp r := by
  obtain ⟨h0, h1, h2, h3, h4, h5, h6, h7, h8⟩ := h
  have far : ∀ i : Int, i ≠ 1 → i ≠ 20 + 4 * j → i ≠ 21 + 4 * j → i ≠ 22 + 4 * j → i ≠ 23 + 4 * j → zKd ρ a b c i = ρ i := fun i q1 q2 q3 q4 q5 => by
    unfold zKd
    rw [h1, sUp_ne q1, sUp_ne q5, sUp_ne q4, sUp_ne q3, sUp_ne q2]
  refine ⟨by rw [far 0 (by decide) (by omega) (by omega) (by omega) (by omega)]; exact h0, ?_, by rw [far 2 (by decide) (by omega) (by omega) (by omega) (by omega)]; exact h2, by rw [far 3 (by decide) (by omega) (by omega) (by omega) (by omega)]; exact h3, by rw [far 4 (by decide) (by omega) (by omega) (by omega) (by omega)]; exact h4, by rw [far 5 (by decide) (by omega) (by omega) (by omega) (by omega)]; exact h5, fun i i0 i1 => by rw [far _ (by omega) (by omega) (by omega) (by omega) (by omega)]; exact h6 i i0 i1, fun k k0 k1 => ?_, fun k k0 k1 => ?_⟩
  · unfold zKd
    rw [sUp_at, h1]
  · by_cases e : k = j
    · subst e
      unfold zKd
      rw [h1]
      refine ⟨?_, ?_, ?_⟩
      · rw [sUp_ne (by omega), sUp_ne (by omega), sUp_ne (by omega), sUp_ne (by omega), sUp_at]; exact ha
      · rw [sUp_ne (by omega), sUp_ne (by omega), sUp_ne (by omega), sUp_at]; exact hb
      · rw [sUp_ne (by omega), sUp_ne (by omega), sUp_at]; exact hc
    · rw [far _ (by omega) (by omega) (by omega) (by omega) (by omega), far _ (by omega) (by omega) (by omega) (by omega) (by omega), far _ (by omega) (by omega) (by omega) (by omega) (by omega)]
      exact h7 k k0 (by omega)
  · by_cases e : k = j
    · subst e
      unfold zKd
      rw [h1, sUp_ne (by omega), sUp_at]
    · rw [far _ (by omega) (by omega) (by omega) (by omega) (by omega)]
      exact h8 k k0 k1
section PP
variable {τ : Int → Int} {n : Int}
/-- a line more -/
theorem zRtb_s {κ : zKp} {f : Nat} {T T' : zTs} {m p q : Int} (h0 : (κ p).1 ≠ 0) (h : zRl κ T p = .ok (T', q)) : zRtb κ (f + 1) T m p = zRtb κ f T' (m + 1) q := by
  show (if (κ p).1 = 0 then _ else _) = _
  rw [if_neg h0, zBi_o h]
theorem pCh_2 {κ : zKp} {v : Int} {l : List (Int × Int)} {p q : Int} (h : pCh κ ((2, v) :: l) p q) : (κ p).1 ≠ 0 := by
  have h1 : (κ p).1 = 2 := h.1
  omega
theorem pC_who {p w r : Int} {rest : List Int} (hn : n ≤ 900) (w0 : 0 ≤ w) (w2 : w ≤ 2) (r0 : 0 ≤ r) (r9 : r ≤ 9) (h : pAt τ n p (pLw w r ++ rest)) : pC τ n [(2, 23823), (2, w + 1), (3, r), (4, 59)] rest p :=
  pC_w (x := 119) (w := [104, 111]) (r := 32 :: (97 + w) :: 32 :: (48 + r) :: 59 :: rest) false hn (by decide) (by decide) (by decide) pNr_b h fun p1 h1 =>
  pC_w (x := 97 + w) (w := []) (r := 32 :: (48 + r) :: 59 :: rest) true hn (fun y hy => by
      have e : y = 97 + w := by simpa using hy
      rw [e]; unfold sLt; simp only [Bool.and_eq_true, decide_eq_true_eq]; omega) (by decide) (by show 0 * 32 + (97 + w - 96) = w + 1; omega) pNr_b h1 fun p2 h2 =>
  pC_d (r := 59 :: rest) true hn r0 r9 pNr_s h2 fun p3 h3 => pC_s hn h3 fun p4 h4 => pC_0 h4
theorem pParse_w {r : Int → Int} (hn : n ≤ 900) (hr : ∀ i, 0 ≤ i → i < 3 → 1 ≤ r i ∧ r i ≤ 6) {op sp : Int} : ∀ (w : Nat) (rest : List Int) (f : Nat), w ≤ 3 → w ≤ f → pAt τ n 0 (pLws r w ++ rest) → ∃ T p, zRtb (sTok τ n 900) f zT0 0 0 = zRtb (sTok τ n 900) (f - w) T (w : Int) p ∧ pAt τ n p rest ∧ pS T (w : Int) 0 ∧ pI T.1 (w : Int) 0 op sp r
  | 0, rest, f, _, _, h => ⟨zT0, 0, rfl, h, ⟨rfl, rfl, fun i i0 i1 => absurd i1 (by omega), fun i i0 i1 => absurd i1 (by omega)⟩, rfl, rfl, rfl, rfl, rfl, rfl, fun i i0 i1 => absurd i1 (by omega), fun k k0 k1 => absurd k1 (by omega), fun _ _ _ => rfl⟩
  | w + 1, rest, f, hw, hf, h => by
    have h' : pAt τ n 0 (pLws r w ++ (pLw (w : Int) (r (w : Int)) ++ rest)) := by rw [← List.append_assoc]; exact h
    obtain ⟨T, p, e, hp, hS, hI⟩ := pParse_w hn hr w _ f (by omega) (by omega) h'
    have hrw := hr (w : Int) (by omega) (by omega)
    obtain ⟨q, hc, hq⟩ := pC_who (w := (w : Int)) hn (by omega) (by omega) (by omega) (by omega) hp
    obtain ⟨T', g1, g2, g3⟩ := zRl_who hS (by omega) (by omega) hrw.1 hrw.2 hc
    refine ⟨T', q, ?_, hq, ?_, ?_⟩
    · rw [e, show f - w = (f - (w + 1)) + 1 by omega, zRtb_s (pCh_2 hc) g1]
      rfl
    · exact g2
    · rw [g3]
      exact pI_who hI (by omega) (by omega) rfl
theorem pC_k0 {p : Int} {rest : List Int} {v : Int} (x : Int) (w : List Int) (c : Int) (hn : n ≤ 900) (hx : ∀ y ∈ x :: w, sLt y = true) (hl : w.length ≤ 6) (hv : pWv 0 (x :: w) = v) (hc : sLt c = true) (h : pAt τ n p ([107, 105, 110, 100, 32, c, 32] ++ (x :: w) ++ 59 :: rest)) : pC τ n [(2, 370116), (2, c - 96), (2, v), (4, 59)] rest p :=
  pC_w (x := 107) (w := [105, 110, 100]) (r := 32 :: c :: 32 :: (x :: w ++ 59 :: rest)) false hn (by decide) (by decide) (by decide) pNr_b h fun p1 h1 =>
  pC_w (x := c) (w := []) (r := 32 :: (x :: w ++ 59 :: rest)) true hn (fun y hy => by
      have e : y = c := by simpa using hy
      rw [e]; exact hc) (by decide) (by show 0 * 32 + (c - 96) = c - 96; omega) pNr_b h1 fun p2 h2 =>
  pC_w (x := x) (w := w) (r := 59 :: rest) true hn hx hl hv pNr_s h2 fun p3 h3 => pC_s hn h3 fun p4 h4 => pC_0 h4
/-- a kind's line -/
theorem pKind {T : zTs} {p W j op sp : Int} {r : Int → Int} {rest : List Int} (hn : n ≤ 900) (W0 : 0 ≤ W) (W3 : W ≤ 3) (j0 : 0 ≤ j) (j6 : j ≤ 6) (hop : op = 0 ∨ op = 1 ∨ op = 2) (s1 : 1 ≤ sp) (s9 : sp ≤ 9) (hS : pS T W j) (hI : pI T.1 W j op sp r) (h : pAt τ n p (pLk op sp j ++ rest)) : ∃ T' q, (sTok τ n 900 p).1 ≠ 0 ∧ zRl (sTok τ n 900) T p = .ok (T', q) ∧ pAt τ n q rest ∧ pS T' W (j + 1) ∧ pI T'.1 W (j + 1) op sp r := by
  have fin : ∀ {l : List (Int × Int)} {a b c : Int}, pC τ n ((2, 370116) :: l) rest p → a = pOp op j → b = pDo j → c = pDu sp j → (∀ q, pCh (sTok τ n 900) ((2, 370116) :: l) p q → ∃ T', zRl (sTok τ n 900) T p = .ok (T', q) ∧ pS T' W (j + 1) ∧ T'.1 = zKd T.1 a b c) → ∃ T' q, (sTok τ n 900 p).1 ≠ 0 ∧ zRl (sTok τ n 900) T p = .ok (T', q) ∧ pAt τ n q rest ∧ pS T' W (j + 1) ∧ pI T'.1 W (j + 1) op sp r := by
    intro l a b c hc ha hb hd k
    obtain ⟨q, hq, hr⟩ := hc
    obtain ⟨T', g1, g2, g3⟩ := k q hq
    exact ⟨T', q, pCh_2 hq, g1, hr, g2, by rw [g3]; exact pI_kind hI W3 j0 j6 ha hb hd⟩
  rcases (show j = 0 ∨ j = 1 ∨ j = 2 ∨ j = 3 ∨ j = 4 ∨ j = 5 ∨ j = 6 by omega) with rfl | rfl | rfl | rfl | rfl | rfl | rfl
  · refine fin (l := [(2, 17), (2, 16258515), (2, 52595), (4, 59)]) ?_ rfl rfl rfl (fun q hq => zRl_kE hS W0 W3 j0 j6 hq)
    exact pC_w (x := 107) (w := [105, 110, 100]) (r := 32 :: 113 :: 32 :: 111 :: 112 :: 101 :: 110 :: 115 :: 32 :: 97 :: 115 :: 107 :: 115 :: 59 :: rest) false hn (by decide) (by decide) (by decide) pNr_b h fun p1 h1 =>
      pC_w (x := 113) (w := []) (r := 32 :: 111 :: 112 :: 101 :: 110 :: 115 :: 32 :: 97 :: 115 :: 107 :: 115 :: 59 :: rest) true hn (by decide) (by decide) (by decide) pNr_b h1 fun p2 h2 =>
      pC_w (x := 111) (w := [112, 101, 110, 115]) (r := 32 :: 97 :: 115 :: 107 :: 115 :: 59 :: rest) true hn (by decide) (by decide) (by decide) pNr_b h2 fun p3 h3 =>
      pC_w (x := 97) (w := [115, 107, 115]) (r := 59 :: rest) true hn (by decide) (by decide) (by decide) pNr_s h3 fun p4 h4 => pC_s hn h4 fun p5 h5 => pC_0 h5
  · refine fin (l := [(2, 25), (2, 253803155), (3, sp), (4, 59)]) (c := sp) ?_ rfl rfl rfl (fun q hq => zRl_kD hS W0 W3 j0 j6 s1 (by omega) hq)
    exact pC_w (x := 107) (w := [105, 110, 100]) (r := 32 :: 121 :: 32 :: 103 :: 114 :: 97 :: 110 :: 116 :: 115 :: 32 :: (48 + sp) :: 59 :: rest) false hn (by decide) (by decide) (by decide) pNr_b h fun p1 h1 =>
      pC_w (x := 121) (w := []) (r := 32 :: 103 :: 114 :: 97 :: 110 :: 116 :: 115 :: 32 :: (48 + sp) :: 59 :: rest) true hn (by decide) (by decide) (by decide) pNr_b h1 fun p2 h2 =>
      pC_w (x := 103) (w := [114, 97, 110, 116, 115]) (r := 32 :: (48 + sp) :: 59 :: rest) true hn (by decide) (by decide) (by decide) pNr_b h2 fun p3 h3 =>
      pC_d (r := 59 :: rest) true hn (by omega) s9 pNr_s h3 fun p4 h4 => pC_s hn h4 fun p5 h5 => pC_0 h5
  · exact fin (l := [(2, 14), (2, 19502124211), (4, 59)]) (pC_k0 114 [101, 102, 117, 115, 101, 115] 110 hn (by decide) (by decide) (by decide) (by decide) h) rfl rfl rfl (fun q hq => zRl_kC (t := 11) hS W0 W3 j0 j6 (by decide +kernel) (by decide) (by decide) hq)
  · exact fin (l := [(2, 11), (2, 11703827), (4, 59)]) (pC_k0 107 [101, 101, 112, 115] 107 hn (by decide) (by decide) (by decide) (by decide) h) rfl rfl rfl (fun q hq => zRl_kC (t := 12) hS W0 W3 j0 j6 (by decide +kernel) (by decide) (by decide) hq)
  · exact fin (l := [(2, 24), (2, 86148467), (4, 59)]) (pC_k0 98 [114, 101, 97, 107, 115] 120 hn (by decide) (by decide) (by decide) (by decide) h) rfl rfl rfl (fun q hq => zRl_kC (t := 13) hS W0 W3 j0 j6 (by decide +kernel) (by decide) (by decide) hq)
  · exact fin (l := [(2, 6), (2, 6886579), (4, 59)]) (pC_k0 102 [114, 101, 101, 115] 102 hn (by decide) (by decide) (by decide) (by decide) h) rfl rfl rfl (fun q hq => zRl_kC (t := 14) hS W0 W3 j0 j6 (by decide +kernel) (by decide) (by decide) hq)
  · rcases hop with rfl | rfl | rfl
    · refine fin (l := [(2, 19), (4, 59)]) ?_ rfl rfl rfl (fun q hq => zRl_kA hS W0 W3 j0 j6 hq)
      exact pC_w (x := 107) (w := [105, 110, 100]) (r := 32 :: 115 :: 59 :: rest) false hn (by decide) (by decide) (by decide) pNr_b h fun p1 h1 =>
        pC_w (x := 115) (w := []) (r := 59 :: rest) true hn (by decide) (by decide) (by decide) pNr_s h1 fun p2 h2 => pC_s hn h2 fun p3 h3 => pC_0 h3
    · exact fin (l := [(2, 19), (2, 16258515), (4, 59)]) (pC_k0 111 [112, 101, 110, 115] 115 hn (by decide) (by decide) (by decide) (by decide) h) rfl rfl rfl (fun q hq => zRl_kB hS W0 W3 j0 j6 (Or.inl ⟨rfl, by decide +kernel⟩) hq)
    · exact fin (l := [(2, 19), (2, 72590803), (4, 59)]) (pC_k0 98 [101, 103, 105, 110, 115] 115 hn (by decide) (by decide) (by decide) (by decide) h) rfl rfl rfl (fun q hq => zRl_kB hS W0 W3 j0 j6 (Or.inr ⟨rfl, by decide +kernel⟩) hq)
theorem pParse_k {W op sp : Int} {r : Int → Int} {T0 : zTs} {p0 m0 : Int} (hn : n ≤ 900) (W0 : 0 ≤ W) (W3 : W ≤ 3) (hop : op = 0 ∨ op = 1 ∨ op = 2) (s1 : 1 ≤ sp) (s9 : sp ≤ 9) (hS0 : pS T0 W 0) (hI0 : pI T0.1 W 0 op sp r) : ∀ (j : Nat) (rest : List Int) (f : Nat), j ≤ 7 → j ≤ f → pAt τ n p0 (pLks op sp j ++ rest) → ∃ T p, zRtb (sTok τ n 900) f T0 m0 p0 = zRtb (sTok τ n 900) (f - j) T (m0 + (j : Int)) p ∧ pAt τ n p rest ∧ pS T W (j : Int) ∧ pI T.1 W (j : Int) op sp r
  | 0, rest, f, _, _, h => ⟨T0, p0, by rw [show m0 + ((0 : Nat) : Int) = m0 by omega]; rfl, h, hS0, hI0⟩
  | j + 1, rest, f, hj, hf, h => by
    have h' : pAt τ n p0 (pLks op sp j ++ (pLk op sp (j : Int) ++ rest)) := by rw [← List.append_assoc]; exact h
    obtain ⟨T, p, e, hp, hS, hI⟩ := pParse_k hn W0 W3 hop s1 s9 hS0 hI0 j _ f (by omega) (by omega) h'
    obtain ⟨T', q, g0, g1, g2, g3, g4⟩ := pKind hn W0 W3 (by omega) (by omega) hop s1 s9 hS hI hp
    refine ⟨T', q, ?_, g2, g3, g4⟩
    rw [e, show f - j = (f - (j + 1)) + 1 by omega, zRtb_s g0 g1, show m0 + (j : Int) + 1 = m0 + ((j + 1 : Nat) : Int) by omega]
end PP
