/-! the law's table, told as a text: the rest of it -/
def pJ (ρ : sR) (W K rk tw op sp : Int) (r cb : Int → Int) : Prop := pR ρ W K rk tw op sp r cb ∧ ρ 2 = 0 ∧ ∀ k, 0 ≤ k → k < 7 → ρ (23 + 4 * k) = 0
/-- masks, a bit at a time -/
def pMs (k m : Int) (x : Int × Int) : Int := if x.1 = k then sor m x.2 else m
def pMk (l : List (Int × Int)) (k : Int) : Int := l.foldl (pMs k) 0
theorem sor_0 {m k : Int} : 0 ≤ sor m k := by unfold sor; omega
theorem pMs_0 {k m : Int} {x : Int × Int} (h : 0 ≤ m) : 0 ≤ pMs k m x := by
  unfold pMs
  split
  · exact sor_0
  · exact h
section PQ
variable {τ : Int → Int} {n : Int}
theorem pJ_c1 {ρ : sR} {W op sp : Int} {r cb : Int → Int} (hI : pI ρ W 7 op sp r) (W3 : W ≤ 3) : pJ (sUp (sUp ρ 6 (cb 0)) 3 1) W 1 0 0 op sp r cb := by
  obtain ⟨h0, h1, h2, h3, h4, h5, h6, h7, h8⟩ := hI
  have far : ∀ i : Int, i ≠ 3 → i ≠ 6 → sUp (sUp ρ 6 (cb 0)) 3 1 i = ρ i := fun i q1 q2 => by rw [sUp_ne q1, sUp_ne q2]
  refine ⟨⟨by rw [far 0 (by decide) (by decide)]; exact h0, by rw [far 1 (by decide) (by decide)]; exact h1, sUp_at, by rw [far 4 (by decide) (by decide)]; exact h4, by rw [far 5 (by decide) (by decide)]; exact h5, fun i i0 i1 => by rw [far _ (by omega) (by omega)]; exact h6 i i0 i1, fun i i0 i1 => ?_, fun k k0 k1 => ?_⟩, by rw [far 2 (by decide) (by decide)]; exact h2, fun k k0 k1 => by rw [far _ (by omega) (by omega)]; exact h8 k k0 k1⟩
  · have e : i = 0 := by omega
    subst e
    rw [sUp_ne (by decide)]
    exact sUp_at
  · rw [far _ (by omega) (by omega), far _ (by omega) (by omega), far _ (by omega) (by omega)]
    exact h7 k k0 k1
theorem pJ_c2 {ρ : sR} {W op sp : Int} {r cb : Int → Int} (hI : pI ρ W 7 op sp r) (W3 : W ≤ 3) : pJ (sUp (sUp (sUp (sUp ρ 6 (cb 0)) 3 1) 7 (cb 1)) 3 2) W 2 0 0 op sp r cb := by
  obtain ⟨h0, h1, h2, h3, h4, h5, h6, h7, h8⟩ := hI
  have far : ∀ i : Int, i ≠ 3 → i ≠ 6 → i ≠ 7 → sUp (sUp (sUp (sUp ρ 6 (cb 0)) 3 1) 7 (cb 1)) 3 2 i = ρ i := fun i q1 q2 q3 => by rw [sUp_ne q1, sUp_ne q3, sUp_ne q1, sUp_ne q2]
  refine ⟨⟨by rw [far 0 (by decide) (by decide) (by decide)]; exact h0, by rw [far 1 (by decide) (by decide) (by decide)]; exact h1, sUp_at, by rw [far 4 (by decide) (by decide) (by decide)]; exact h4, by rw [far 5 (by decide) (by decide) (by decide)]; exact h5, fun i i0 i1 => by rw [far _ (by omega) (by omega) (by omega)]; exact h6 i i0 i1, fun i i0 i1 => ?_, fun k k0 k1 => ?_⟩, by rw [far 2 (by decide) (by decide) (by decide)]; exact h2, fun k k0 k1 => by rw [far _ (by omega) (by omega) (by omega)]; exact h8 k k0 k1⟩
  · rcases (show i = 0 ∨ i = 1 by omega) with e | e
    · subst e
      rw [sUp_ne (by decide), sUp_ne (by decide), sUp_ne (by decide)]
      exact sUp_at
    · subst e
      rw [sUp_ne (by decide)]
      exact sUp_at
  · rw [far _ (by omega) (by omega) (by omega), far _ (by omega) (by omega) (by omega), far _ (by omega) (by omega) (by omega)]
    exact h7 k k0 k1
theorem pJ_o4 {ρ : sR} {W K op sp : Int} {r cb : Int → Int} (hJ : pJ ρ W K 0 0 op sp r cb) (W3 : W ≤ 3) (K2 : K ≤ 2) : pJ (sUp ρ 4 1) W K 1 0 op sp r cb := by
  obtain ⟨⟨j0, j1, j2, j3, j4, j5, j6, j7⟩, j8, j9⟩ := hJ
  refine ⟨⟨by rw [sUp_ne (by decide)]; exact j0, by rw [sUp_ne (by decide)]; exact j1, by rw [sUp_ne (by decide)]; exact j2, sUp_at, by rw [sUp_ne (by decide)]; exact j4, fun i i0 i1 => by rw [sUp_ne (by omega)]; exact j5 i i0 i1, fun i i0 i1 => by rw [sUp_ne (by omega)]; exact j6 i i0 i1, fun k k0 k1 => ?_⟩, by rw [sUp_ne (by decide)]; exact j8, fun k k0 k1 => by rw [sUp_ne (by omega)]; exact j9 k k0 k1⟩
  rw [sUp_ne (by omega), sUp_ne (by omega), sUp_ne (by omega)]
  exact j7 k k0 k1
theorem pJ_o5 {ρ : sR} {W K rk op sp : Int} {r cb : Int → Int} (hJ : pJ ρ W K rk 0 op sp r cb) (W3 : W ≤ 3) (K2 : K ≤ 2) : pJ (sUp ρ 5 1) W K rk 1 op sp r cb := by
  obtain ⟨⟨j0, j1, j2, j3, j4, j5, j6, j7⟩, j8, j9⟩ := hJ
  refine ⟨⟨by rw [sUp_ne (by decide)]; exact j0, by rw [sUp_ne (by decide)]; exact j1, by rw [sUp_ne (by decide)]; exact j2, by rw [sUp_ne (by decide)]; exact j3, sUp_at, fun i i0 i1 => by rw [sUp_ne (by omega)]; exact j5 i i0 i1, fun i i0 i1 => by rw [sUp_ne (by omega)]; exact j6 i i0 i1, fun k k0 k1 => ?_⟩, by rw [sUp_ne (by decide)]; exact j8, fun k k0 k1 => by rw [sUp_ne (by omega)]; exact j9 k k0 k1⟩
  rw [sUp_ne (by omega), sUp_ne (by omega), sUp_ne (by omega)]
  exact j7 k k0 k1
theorem pComb {T : zTs} {p W K op sp m : Int} {r cb : Int → Int} {rest : List Int} {f : Nat} (hn : n ≤ 900) (W3 : W ≤ 3) (hK : K = 1 ∨ K = 2) (hcb : ∀ i, 0 ≤ i → i < 2 → 1 ≤ cb i ∧ cb i ≤ 6) (hf : 1 ≤ f) (hS : pS T W 7) (hI : pI T.1 W 7 op sp r) (h : pAt τ n p (pLc K cb ++ rest)) :
    ∃ T' q, zRtb (sTok τ n 900) f T m p = zRtb (sTok τ n 900) (f - 1) T' (m + 1) q ∧ pAt τ n q rest ∧ pS T' W 7 ∧ pJ T'.1 W K 0 0 op sp r cb := by
  have h3 : T.1 3 = 0 := hI.2.2.2.1
  have c0 := hcb 0 (by decide) (by decide)
  have c1 := hcb 1 (by decide) (by decide)
  obtain ⟨g, rfl⟩ : ∃ g, f = g + 1 := ⟨f - 1, by omega⟩
  rcases hK with rfl | rfl
  · have hc : pC τ n [(2, 114082), (3, cb 0), (4, 59)] rest p :=
      pC_w (x := 99) (w := [111, 109, 98]) (r := 32 :: (48 + cb 0) :: 59 :: rest) false hn (by decide) (by decide) (by decide) pNr_b h fun p1 g1 =>
      pC_d (r := 59 :: rest) true hn (by omega) (by omega) pNr_s g1 fun p2 g2 => pC_s hn g2 fun p3 g3 => pC_0 g3
    obtain ⟨q, hq, hr⟩ := hc
    have hj : pJ (sUp (sUp T.1 6 (cb 0)) 3 1) W 1 0 0 op sp r cb := pJ_c1 hI W3
    exact ⟨_, q, zRtb_s (pCh_2 hq) (zRl_c1 h3 c0.1 c0.2 hq), hr, ⟨hj.1.1, hj.1.2.1, hS.2.2⟩, hj⟩
  · have hc : pC τ n [(2, 114082), (3, cb 0), (3, cb 1), (4, 59)] rest p :=
      pC_w (x := 99) (w := [111, 109, 98]) (r := 32 :: (48 + cb 0) :: 32 :: (48 + cb 1) :: 59 :: rest) false hn (by decide) (by decide) (by decide) pNr_b h fun p1 g1 =>
      pC_d (r := 32 :: (48 + cb 1) :: 59 :: rest) true hn (by omega) (by omega) pNr_b g1 fun p2 g2 =>
      pC_d (r := 59 :: rest) true hn (by omega) (by omega) pNr_s g2 fun p3 g3 => pC_s hn g3 fun p4 g4 => pC_0 g4
    obtain ⟨q, hq, hr⟩ := hc
    have hj : pJ (sUp (sUp (sUp (sUp T.1 6 (cb 0)) 3 1) 7 (cb 1)) 3 2) W 2 0 0 op sp r cb := pJ_c2 hI W3
    exact ⟨_, q, zRtb_s (pCh_2 hq) (zRl_c2 h3 c0.1 c0.2 c1.1 c1.2 hq), hr, ⟨hj.1.1, hj.1.2.1, hS.2.2⟩, hj⟩
theorem pRank {T : zTs} {p W K rk op sp m : Int} {r cb : Int → Int} {rest : List Int} {f : Nat} (hn : n ≤ 900) (W3 : W ≤ 3) (K2 : K ≤ 2) (hrk : rk = 0 ∨ rk = 1) (hf : 1 ≤ f) (hS : pS T W 7) (hJ : pJ T.1 W K 0 0 op sp r cb) (h : pAt τ n p (pLr rk ++ rest)) :
    ∃ T' q, zRtb (sTok τ n 900) f T m p = zRtb (sTok τ n 900) (f - rk.toNat) T' (m + rk) q ∧ pAt τ n q rest ∧ pS T' W 7 ∧ pJ T'.1 W K rk 0 op sp r cb := by
  rcases hrk with rfl | rfl
  · exact ⟨T, p, by rw [Int.add_zero]; rfl, h, hS, hJ⟩
  · obtain ⟨g, rfl⟩ : ∃ g, f = g + 1 := ⟨f - 1, by omega⟩
    have hc : pC τ n [(2, 18921843), (4, 59)] rest p :=
      pC_w (x := 114) (w := [97, 110, 107, 115]) (r := 59 :: rest) false hn (by decide) (by decide) (by decide) pNr_s h fun p1 g1 => pC_s hn g1 fun p3 g3 => pC_0 g3
    obtain ⟨q, hq, hr⟩ := hc
    have hj : pJ (sUp T.1 4 1) W K 1 0 op sp r cb := pJ_o4 hJ W3 K2
    exact ⟨_, q, zRtb_s (pCh_2 hq) (zRl_o4 hJ.1.2.2.2.1 hq), hr, ⟨hj.1.1, hj.1.2.1, hS.2.2⟩, hj⟩
theorem pTwice {T : zTs} {p W K rk tw op sp m : Int} {r cb : Int → Int} {rest : List Int} {f : Nat} (hn : n ≤ 900) (W3 : W ≤ 3) (K2 : K ≤ 2) (htw : tw = 0 ∨ tw = 1) (hf : 1 ≤ f) (hS : pS T W 7) (hJ : pJ T.1 W K rk 0 op sp r cb) (h : pAt τ n p (pLt tw ++ rest)) :
    ∃ T' q, zRtb (sTok τ n 900) f T m p = zRtb (sTok τ n 900) (f - tw.toNat) T' (m + tw) q ∧ pAt τ n q rest ∧ pS T' W 7 ∧ pJ T'.1 W K rk tw op sp r cb := by
  rcases htw with rfl | rfl
  · exact ⟨T, p, by rw [Int.add_zero]; rfl, h, hS, hJ⟩
  · obtain ⟨g, rfl⟩ : ∃ g, f = g + 1 := ⟨f - 1, by omega⟩
    have hc : pC τ n [(2, 21734501), (4, 59)] rest p :=
      pC_w (x := 116) (w := [119, 105, 99, 101]) (r := 59 :: rest) false hn (by decide) (by decide) (by decide) pNr_s h fun p1 g1 => pC_s hn g1 fun p3 g3 => pC_0 g3
    obtain ⟨q, hq, hr⟩ := hc
    have hj : pJ (sUp T.1 5 1) W K rk 1 op sp r cb := pJ_o5 hJ W3 K2
    exact ⟨_, q, zRtb_s (pCh_2 hq) (zRl_o5 hJ.1.2.2.2.2.1 hq), hr, ⟨hj.1.1, hj.1.2.1, hS.2.2⟩, hj⟩
theorem pKn_lt {k : Int} (h0 : 0 ≤ k) (h1 : k < 7) : sLt (96 + pKn k) = true := by
  have := pKn_in h0 h1
  unfold sLt
  simp only [Bool.and_eq_true, decide_eq_true_eq]
  omega
theorem pMays {W : Int} (hn : n ≤ 900) (W0 : 0 ≤ W) (W3 : W ≤ 3) : ∀ (l : List (Int × Int)) (f : Nat) (T : zTs) (m p : Int), (∀ x ∈ l, (0 ≤ x.1 ∧ x.1 < 7) ∧ 0 ≤ x.2 ∧ x.2 < 7) → l.Nodup → (∀ x ∈ l, sbt (sMa T.1 x.1) x.2 = false) → (∀ k, 0 ≤ k → k < 7 → 0 ≤ sMa T.1 k) → T.1 2 + (l.length : Int) ≤ 40 → pS T W 7 → pAt τ n p (l.flatMap pLm) → l.length < f →
    ∃ T', zRtb (sTok τ n 900) f T m p = .ok (T', m + (l.length : Int)) ∧ (∀ i, i ≠ 2 → (∀ k, 0 ≤ k → k < 7 → i ≠ 23 + 4 * k) → T'.1 i = T.1 i) ∧ T'.1 2 = T.1 2 + (l.length : Int) ∧ (∀ k, 0 ≤ k → k < 7 → sMa T'.1 k = l.foldl (pMs k) (sMa T.1 k))
  | [], f, T, m, p, _, _, _, _, _, _, h, hf => by
    obtain ⟨g, rfl⟩ : ∃ g, f = g + 1 := ⟨f - 1, by simp at hf; omega⟩
    refine ⟨T, ?_, fun _ _ _ => rfl, by show T.1 2 = T.1 2 + 0; omega, fun _ _ _ => rfl⟩
    show (if (sTok τ n 900 p).1 = 0 then _ else _) = _
    rw [if_pos (pTokE hn h)]
    show Except.ok (T, m) = Except.ok (T, m + 0)
    rw [Int.add_zero]
  | (a, b) :: l, f, T, m, p, hx, hnd, hb, hm, h40, hS, h, hf => by
    have hl : (((a, b) :: l).length : Int) = (l.length : Int) + 1 := by rw [List.length_cons]; omega
    obtain ⟨g, rfl⟩ : ∃ g, f = g + 1 := ⟨f - 1, by rw [List.length_cons] at hf; omega⟩
    obtain ⟨⟨a0, a1⟩, b0, b1⟩ := hx _ List.mem_cons_self
    have hbb := hb _ List.mem_cons_self
    have h' : pAt τ n p ([109, 97, 121, 32, 96 + pKn a, 32, 96 + pKn b, 59] ++ l.flatMap pLm) := by rw [List.flatMap_cons] at h; exact h
    have hc : pC τ n [(2, 13369), (2, pKn a), (2, pKn b), (4, 59)] (l.flatMap pLm) p :=
      pC_w (x := 109) (w := [97, 121]) (r := 32 :: (96 + pKn a) :: 32 :: (96 + pKn b) :: 59 :: l.flatMap pLm) false hn (by decide) (by decide) (by decide) pNr_b h' fun p1 g1 =>
      pC_w (x := 96 + pKn a) (w := []) (r := 32 :: (96 + pKn b) :: 59 :: l.flatMap pLm) true hn (fun y hy => by
        have e : y = 96 + pKn a := by simpa using hy
        rw [e]; exact pKn_lt a0 a1) (by decide) (by show 0 * 32 + (96 + pKn a - 96) = pKn a; omega) pNr_b g1 fun p2 g2 =>
      pC_w (x := 96 + pKn b) (w := []) (r := 59 :: l.flatMap pLm) true hn (fun y hy => by
        have e : y = 96 + pKn b := by simpa using hy
        rw [e]; exact pKn_lt b0 b1) (by decide) (by show 0 * 32 + (96 + pKn b - 96) = pKn b; omega) pNr_s g2 fun p3 g3 => pC_s hn g3 fun p4 g4 => pC_0 g4
    obtain ⟨q, hq, hr⟩ := hc
    have h2 : T.1 2 ≠ 40 := by omega
    have hz := zRl_my hS a0 a1 b0 b1 h2 hbb hq
    have hma : ∀ k, 0 ≤ k → k < 7 → sMa (sUp (sUp T.1 (23 + 4 * a) (sor (sMa T.1 a) b)) 2 (T.1 2 + 1)) k = pMs k (sMa T.1 k) (a, b) := by
      intro k k0 k1
      unfold sMa pMs
      rw [sUp_ne (by omega)]
      by_cases e : a = k
      · subst e
        rw [if_pos rfl, sUp_at]
      · rw [if_neg e, sUp_ne (by omega)]
    have hnd2 := List.nodup_cons.mp hnd
    have g1 : ∀ x ∈ l, sbt (sMa (sUp (sUp T.1 (23 + 4 * a) (sor (sMa T.1 a) b)) 2 (T.1 2 + 1)) x.1) x.2 = false := by
      intro x q2
      obtain ⟨⟨x0, x1⟩, y0, y1⟩ := hx x (List.mem_cons_of_mem _ q2)
      rw [hma x.1 x0 x1]
      have hbx := hb x (List.mem_cons_of_mem _ q2)
      unfold pMs
      by_cases e : a = x.1
      · have hne : x.2 ≠ b := fun z => hnd2.1 (by rw [show (a, b) = x from Prod.ext e z.symm]; exact q2)
        rw [if_pos e, sbt_sor (hm x.1 x0 x1) b0 y0, hbx]
        simp [hne]
      · rw [if_neg e]
        exact hbx
    have g2 : ∀ k, 0 ≤ k → k < 7 → 0 ≤ sMa (sUp (sUp T.1 (23 + 4 * a) (sor (sMa T.1 a) b)) 2 (T.1 2 + 1)) k := fun k k0 k1 => by
      rw [hma k k0 k1]
      exact pMs_0 (hm k k0 k1)
    have g3 : sUp (sUp T.1 (23 + 4 * a) (sor (sMa T.1 a) b)) 2 (T.1 2 + 1) 2 + (l.length : Int) ≤ 40 := by
      rw [sUp_at]
      omega
    have g4 : pS (sUp (sUp T.1 (23 + 4 * a) (sor (sMa T.1 a) b)) 2 (T.1 2 + 1), T.2) W 7 := by
      obtain ⟨s1, s2, s3⟩ := hS
      refine ⟨?_, ?_, s3⟩
      · show sUp (sUp T.1 (23 + 4 * a) (sor (sMa T.1 a) b)) 2 (T.1 2 + 1) 0 = W
        rw [sUp_ne (by decide), sUp_ne (by omega)]
        exact s1
      · show sUp (sUp T.1 (23 + 4 * a) (sor (sMa T.1 a) b)) 2 (T.1 2 + 1) 1 = 7
        rw [sUp_ne (by decide), sUp_ne (by omega)]
        exact s2
    obtain ⟨T', e1, e2, e3, e4⟩ := pMays hn W0 W3 l g (sUp (sUp T.1 (23 + 4 * a) (sor (sMa T.1 a) b)) 2 (T.1 2 + 1), T.2) (m + 1) q (fun x q2 => hx x (List.mem_cons_of_mem _ q2)) hnd2.2 g1 g2 g3 g4 hr (by rw [List.length_cons] at hf; omega)
    refine ⟨T', ?_, fun i i2 ik => ?_, ?_, fun k k0 k1 => ?_⟩
    · rw [zRtb_s (pCh_2 hq) hz, e1, hl, show m + 1 + (l.length : Int) = m + ((l.length : Int) + 1) by omega]
    · rw [e2 i i2 ik]
      show sUp (sUp T.1 (23 + 4 * a) (sor (sMa T.1 a) b)) 2 (T.1 2 + 1) i = T.1 i
      rw [sUp_ne i2, sUp_ne (ik a a0 a1)]
    · rw [e3, hl]
      show sUp (sUp T.1 (23 + 4 * a) (sor (sMa T.1 a) b)) 2 (T.1 2 + 1) 2 + (l.length : Int) = _
      rw [sUp_at]
      omega
    · rw [e4 k k0 k1, List.foldl_cons]
      show l.foldl (pMs k) (sMa (sUp (sUp T.1 (23 + 4 * a) (sor (sMa T.1 a) b)) 2 (T.1 2 + 1)) k) = _
      rw [hma k k0 k1]
/-- the whole text -/
theorem pParse {W : Nat} {K rk tw op sp : Int} {r cb : Int → Int} {l : List (Int × Int)} (hn : n ≤ 900) (W3 : W ≤ 3) (hr : ∀ i, 0 ≤ i → i < 3 → 1 ≤ r i ∧ r i ≤ 6) (hop : op = 0 ∨ op = 1 ∨ op = 2) (s1 : 1 ≤ sp) (s9 : sp ≤ 9) (hK : K = 1 ∨ K = 2) (hcb : ∀ i, 0 ≤ i → i < 2 → 1 ≤ cb i ∧ cb i ≤ 6) (hrk : rk = 0 ∨ rk = 1) (htw : tw = 0 ∨ tw = 1)
    (hx : ∀ x ∈ l, (0 ≤ x.1 ∧ x.1 < 7) ∧ 0 ≤ x.2 ∧ x.2 < 7) (hnd : l.Nodup) (h40 : l.length ≤ 40) (h : pAt τ n 0 (pLws r W ++ (pLks op sp 7 ++ (pLc K cb ++ (pLr rk ++ (pLt tw ++ l.flatMap pLm)))))) :
    ∃ T, zRtb (sTok τ n 900) 471 zT0 0 0 = .ok (T, (W : Int) + 8 + rk + tw + (l.length : Int)) ∧ pR T.1 W K rk tw op sp r cb ∧ T.1 2 = (l.length : Int) ∧ ∀ k, 0 ≤ k → k < 7 → sMa T.1 k = pMk l k := by
  obtain ⟨T1, p1, e1, a1, b1, c1⟩ := pParse_w (op := op) (sp := sp) hn hr W _ 471 W3 (by omega) h
  obtain ⟨T2, p2, e2, a2, b2, c2⟩ := pParse_k (m0 := (W : Int)) hn (by omega) (by omega) hop s1 s9 b1 c1 7 _ (471 - W) (by decide) (by omega) a1
  obtain ⟨T3, p3, e3, a3, b3, c3⟩ := pComb (m := (W : Int) + ((7 : Nat) : Int)) (f := 471 - W - 7) hn (by omega) hK hcb (by omega) b2 c2 a2
  obtain ⟨T4, p4, e4, a4, b4, c4⟩ := pRank (m := (W : Int) + ((7 : Nat) : Int) + 1) (f := 471 - W - 7 - 1) hn (by omega) (by omega) hrk (by omega) b3 c3 a3
  obtain ⟨T5, p5, e5, a5, b5, c5⟩ := pTwice (m := (W : Int) + ((7 : Nat) : Int) + 1 + rk) (f := 471 - W - 7 - 1 - rk.toNat) hn (by omega) (by omega) htw (by omega) b4 c4 a4
  obtain ⟨c6, c7, c8⟩ := c5
  obtain ⟨T6, e6, d1, d2, d3⟩ := pMays hn (by omega) (by omega) l (471 - W - 7 - 1 - rk.toNat - tw.toNat) T5 ((W : Int) + ((7 : Nat) : Int) + 1 + rk + tw) p5 hx hnd (fun x q => by
    obtain ⟨⟨x0, x1⟩, -⟩ := hx x q
    rw [show sMa T5.1 x.1 = 0 from c8 x.1 x0 x1]
    exact sbt_0 _) (fun k k0 k1 => by rw [show sMa T5.1 k = 0 from c8 k k0 k1]; exact Int.le_refl _) (by rw [c7]; omega) b5 a5 (by omega)
  refine ⟨T6, ?_, ?_, by rw [d2, c7]; omega, fun k k0 k1 => ?_⟩
  · have e7 : (W : Int) + ((7 : Nat) : Int) + 1 + rk + tw + (l.length : Int) = (W : Int) + 8 + rk + tw + (l.length : Int) := by omega
    rw [e1, e2, e3, e4, e5, e6, e7]
  · obtain ⟨j0, j1, j2, j3, j4, j5, j6, j7⟩ := c6
    refine ⟨by rw [d1 0 (by decide) (fun k k0 k1 => by omega)]; exact j0, by rw [d1 1 (by decide) (fun k k0 k1 => by omega)]; exact j1, by rw [d1 3 (by decide) (fun k k0 k1 => by omega)]; exact j2, by rw [d1 4 (by decide) (fun k k0 k1 => by omega)]; exact j3, by rw [d1 5 (by decide) (fun k k0 k1 => by omega)]; exact j4, fun i i0 i1 => by rw [d1 (12 + i) (by omega) (fun k k0 k1 => by omega)]; exact j5 i i0 i1, fun i i0 i1 => by rw [d1 (6 + i) (by omega) (fun k k0 k1 => by omega)]; exact j6 i i0 i1, fun k k0 k1 => ?_⟩
    rw [d1 (20 + 4 * k) (by omega) (fun k k0 k1 => by omega), d1 (21 + 4 * k) (by omega) (fun k k0 k1 => by omega), d1 (22 + 4 * k) (by omega) (fun k k0 k1 => by omega)]
    exact j7 k k0 k1
  · rw [d3 k k0 k1, show sMa T5.1 k = 0 from c8 k k0 k1]
    rfl
end PQ
