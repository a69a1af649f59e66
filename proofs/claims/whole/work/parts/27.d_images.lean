section DB
variable {E : jm_E} {d : Nat} {μ : jm_M} {Q : Option jm_V → jm_M → Prop} {ρ : sR} {w : Int → Int} {n : Nat} {P : sPg} {D : sDk}
theorem sIm_or {k : Int} : sIm k = 83 ∨ sIm k = 102 := by unfold sIm; split <;> simp
theorem cIm_of {ν : jm_M} {q : Int} (hf : ∀ x, q ≤ x → x ≤ q + 18 → ν x = μ x) (h : cIm μ q D) : cIm ν q D :=
  ⟨tTb_of (fun x x0 x1 => hf x (by omega) (by omega)) h.1, by rw [hf q (by omega) (by omega)]; exact h.2.1, fun t t0 t1 => by rw [hf _ (by omega) (by omega), hf _ (by omega) (by omega)]; exact h.2.2.1 t t0 t1, tMn_of (fun x x0 x1 => hf x (by omega) (by omega)) h.2.2.2.1, tSn_of (fun x x0 x1 => hf x (by omega) (by omega)) h.2.2.2.2⟩
theorem cDk_of {ν : jm_M} (hf : ∀ q, (3 ≤ q ∧ q ≤ 11 ∨ 21 ≤ q ∧ q ≤ 36 ∨ 69 ≤ q ∧ q ≤ 71 ∨ 75 ≤ q ∧ q ≤ 78) → ν q = μ q) (h : cDk μ D) : cDk ν D :=
  ⟨tTb_of (fun x x0 x1 => hf x (by omega)) h.1, tTl_of (fun q hq => hf q (by omega)) h.2.1, tMn_of (fun x x0 x1 => hf x (by omega)) h.2.2.1, tSn_of (fun x x0 x1 => hf x (by omega)) h.2.2.2⟩
theorem sLay_at {t : Nat} (hW : sWR ρ) (hn : n ≤ 400) (hV : sVW ρ w n) (ht : t < n) : (sLay ρ w n).1 0 t = w (2 * t) ∧ (sLay ρ w n).1 1 t = w (2 * t + 1) := sLay_w hW n hn hV t ht
theorem c_T_keep {k : Int} (hD : cDk μ D) (hV : sVd D) (h : ∀ ν, cIm ν (sIm k) D → ν (sIm k) 0 = 1 → (∀ x, x < sIm k ∨ sIm k + 18 < x → ν x = μ x) → Q none ν) : jc E m_X0_keep (d + 6) [jm_R (sIm k), jm_R 3, jm_R 21, jm_R 69, jm_R 75] μ Q := by
  have hq := sIm_or (k := k)
  have i5 : jm_is jm_N (sIm k + 1) 1 5 := by rcases hq with q | q <;> rw [q]; exact is_84; exact is_103
  have i1 : jm_is jm_N (sIm k + 12) 1 1 := by rcases hq with q | q <;> rw [q]; exact is_95; exact is_114
  have i4 : jm_is jm_N (sIm k + 15) 1 4 := by rcases hq with q | q <;> rw [q]; exact is_98; exact is_117
  have i0 := sIm_is (k := k)
  generalize sIm k = q at hq i5 i1 i4 i0 h
  obtain ⟨v1, v2, v3, v4, v5, v6⟩ := hV
  refine e_X0_keep (d := d + 5) (fun _ => ⟨i0, ?_⟩)
  refine c_T_tcopy is_3 i5 (by omega) v1 (tTb_of (fun x x0 x1 => jm_up_ne (by omega)) hD.1) (fun m2 t2 _ o2 _ => ?_)
  have o2' : ∀ x, x < q ∨ q + 9 < x → m2 x = μ x := fun x hx => by rw [o2 x (by omega), jm_up_ne (by omega)]
  have k2 : m2 q 0 = 1 := by rw [o2 q (by omega), jm_up_at]
  have key : ∀ (m t : Nat) (ξ : jm_M), t + m = D.2.2.1 → tTb ξ (q + 1) D.1 D.2.2.2.1 D.2.2.2.2.1 → ξ q 0 = 1 → ξ q 2 = t → (∀ x, x < q ∨ q + 11 < x → ξ x = μ x) → (∀ s : Int, 0 ≤ s → s < t → ξ (q + 10) s = D.2.1 (2 * s) ∧ ξ (q + 11) s = D.2.1 (2 * s + 1)) → jg E m_X0_keep (d + 5) 21 [some (jm_R q), none, some (jm_R 21), some (jm_R 69), some (jm_R 75), some (jm_I t)] [] ξ Q := by
    intro m
    induction m with
    | zero =>
      intro t ξ g1 g2 g3 g4 g5 g6
      have ht : t = D.2.2.1 := by omega
      obtain ⟨p, hp3, hA⟩ := (tTl_of (ν := ξ) (fun x hx => g5 x (by omega)) hD.2.1).2
      refine r_X0_keep_21 (d := d + 5) ⟨is_21, ?_⟩
      rw [hA.2.2.2.2.1.1, sLay_n]
      refine ⟨fun _ => ⟨i0, ?_⟩, fun z => absurd z (by omega)⟩
      refine c_T_mcopy is_69 i1 (by omega) v4.1 (tMn_of (fun x x0 x1 => g5 x (by omega)) hD.2.2.1) (fun m4 M4 o4 _ => ?_)
      refine c_T_scopy is_75 i4 (by omega) v5.1 (tSn_of (fun x x0 x1 => by rw [o4 x (by omega)]; exact g5 x (by omega)) hD.2.2.2) (fun ν S5 _ o5 _ => ?_)
      have o : ∀ x, x < q + 12 → ν x = ξ x := fun x hx => by rw [o5 x (by omega), o4 x (by omega)]
      refine h ν ⟨tTb_of (fun x x0 x1 => o x (by omega)) g2, by rw [o q (by omega), g4, ht], fun s s0 s1 => by rw [o _ (by omega), o _ (by omega)]; exact g6 s s0 (by omega), tMn_of (fun x x0 x1 => o5 x (by omega)) M4, S5⟩ (by rw [o q (by omega)]; exact g3) (fun x hx => by rw [o5 x (by omega), o4 x (by omega)]; exact g5 x (by omega))
    | succ m ih =>
      intro t ξ g1 g2 g3 g4 g5 g6
      have e1 : jm_wr ((t : Int) + 1) = ((t + 1 : Nat) : Int) := by rw [jm_wr_id (by omega) (by omega)]; omega
      obtain ⟨p, hp3, hA⟩ := (tTl_of (ν := ξ) (fun x hx => g5 x (by omega)) hD.2.1).2
      have wt := sLay_at (t := t) v1 v2 v3 (by omega)
      refine r_X0_keep_21 (d := d + 5) ⟨is_21, ?_⟩
      rw [hA.2.2.2.2.1.1, sLay_n, e1]
      refine ⟨fun z => absurd z (by omega), fun _ => ⟨fun z => absurd z (by omega), fun _ => ⟨i0, c_T_tell hA (by omega) (by rw [sLay_n]; omega) (by decide) (by decide) (jq_I ⟨by omega, fun m14 h14 => ?_⟩)⟩⟩⟩
      have w0 : sWord D.1 (sLay D.1 D.2.1 D.2.2.1) t 0 = (sLay D.1 D.2.1 D.2.2.1).1 0 t := rfl
      have w1 : sWord D.1 (sLay D.1 D.2.1 D.2.2.1) t 1 = (sLay D.1 D.2.1 D.2.2.1).1 1 t := rfl
      rw [w0, wt.1] at h14
      have o14 : ∀ x, x ≠ q + 10 → m14 x = ξ x := fun x hx => by rw [h14, jm_up_ne hx]
      have A14 : tA m14 D.1 21 p 400 (sLay D.1 D.2.1 D.2.2.1) := hA.of (fun x hx => o14 x (by omega))
      refine c_T_tell A14 (by omega) (by rw [sLay_n]; omega) (by decide) (by decide) (jq_I (fun m17 h17 => ?_))
      rw [w1, wt.2] at h17
      have o17 : ∀ x, x ≠ q + 11 → m17 x = m14 x := fun x hx => by rw [h17, jm_up_ne hx]
      have e2 : m17 q 2 = t := by rw [o17 q (by omega), o14 q (by omega)]; exact g4
      rw [e2, e1]
      refine ih (t + 1) _ (by omega) (tTb_of (fun x x0 x1 => by rw [jm_up_ne (by omega), o17 x (by omega), o14 x (by omega)]) g2) ?_ jm_up_at (fun x hx => ?_) (fun s s0 s1 => ?_)
      · rw [jm_up_i (by decide), o17 q (by omega), o14 q (by omega)]; exact g3
      · rw [jm_up_ne (by omega), o17 x (by omega), o14 x (by omega)]; exact g5 x hx
      · rw [jm_up_ne (by omega), jm_up_ne (by omega), o17 (q + 10) (by omega)]
        by_cases e : s = t
        · rw [e, h17, jm_up_at, h14, jm_up_at]
          exact ⟨rfl, rfl⟩
        · have := g6 s s0 (by omega)
          rw [h17, jm_up_i e, o14 (q + 11) (by omega), h14, jm_up_i e]
          exact this
  exact key D.2.2.1 0 _ (by omega) (tTb_of (fun x x0 x1 => jm_up_ne (by omega)) t2) (by rw [jm_up_i (by decide)]; exact k2) jm_up_at (fun x hx => by rw [jm_up_ne (by omega)]; exact o2' x (by omega)) (fun s s0 s1 => by omega)
theorem c_T_giveBack {k : Int} (hI : cIm μ (sIm k) D) (hV : sVd D) (h : ∀ ν, cDk ν D → (∀ x, x < 3 ∨ 11 < x → x ≠ 21 → x < 31 ∨ 36 < x → x < 69 ∨ 71 < x → x < 75 ∨ 78 < x → ν x = μ x) → (∀ j, j ≠ 0 → j ≠ 1 → j ≠ 2 → ν 21 j = μ 21 j) → ν 21 0 = 3 → Q none ν) : jc E m_X0_giveBack (d + 6) [jm_R (sIm k), jm_R 3, jm_R 21, jm_R 69, jm_R 75] μ Q := by
  have hq := sIm_or (k := k)
  have i5 : jm_is jm_N (sIm k + 1) 1 5 := by rcases hq with q | q <;> rw [q]; exact is_84; exact is_103
  have i1 : jm_is jm_N (sIm k + 12) 1 1 := by rcases hq with q | q <;> rw [q]; exact is_95; exact is_114
  have i4 : jm_is jm_N (sIm k + 15) 1 4 := by rcases hq with q | q <;> rw [q]; exact is_98; exact is_117
  have i0 := sIm_is (k := k)
  generalize sIm k = q at hq i5 i1 i4 i0 hI
  obtain ⟨v1, v2, v3, v4, v5, v6⟩ := hV
  refine e_X0_giveBack (d := d + 5) (fun _ => ⟨i0, is_3, ?_⟩)
  refine c_T_tcopy i5 is_3 (by omega) v1 hI.1 (fun m2 t2 _ o2 _ => ⟨is_21, ?_⟩)
  have pl : tPl 21 3 400 := ⟨Or.inl rfl, Or.inl rfl, rfl⟩
  refine c_T_begin pl v1 t2.1 (fun m4 A4 o4 p4 _ => ?_)
  have key : ∀ (m t : Nat) (ξ : jm_M), t + m = D.2.2.1 → tA ξ D.1 21 3 400 (sLay D.1 D.2.1 t) → tFr 21 m4 ξ → jg E m_X0_giveBack (d + 5) 16 [some (jm_R q), none, some (jm_R 21), some (jm_R 69), some (jm_R 75), some (jm_I t)] [] ξ Q := by
    intro m
    induction m with
    | zero =>
      intro t ξ g1 g2 g3
      have ht : t = D.2.2.1 := by omega
      subst ht
      have og : ∀ x, x < 3 ∨ 11 < x → x ≠ 21 → x < 31 ∨ 36 < x → ξ x = μ x := fun x x0 x1 x2 => by rw [g3.1 x x1 (by omega), o4 x x1, o2 x (by omega)]
      refine r_X0_giveBack_16 (d := d + 5) ⟨i0, ?_⟩
      rw [og q (by omega) (by omega) (by omega), hI.2.1]
      refine ⟨fun _ => ⟨is_69, ?_⟩, fun z => absurd z (by omega)⟩
      refine c_T_mcopy i1 is_69 (by omega) v4.1 (tMn_of (fun x x0 x1 => og x (by omega) (by omega) (by omega)) hI.2.2.2.1) (fun m5 M5 o5 _ => ⟨is_75, ?_⟩)
      refine c_T_scopy i4 is_75 (by omega) v5.1 (tSn_of (fun x x0 x1 => by rw [o5 x (by omega)]; exact og x (by omega) (by omega) (by omega)) hI.2.2.2.2) (fun ν S5 _ o6 _ => ?_)
      have o : ∀ x, x < 69 → ν x = ξ x := fun x hx => by rw [o6 x (by omega), o5 x (by omega)]
      have T3 : tTb ν 3 D.1 D.2.2.2.1 D.2.2.2.2.1 := tTb_of (fun x x0 x1 => by rw [o x (by omega), g3.1 x (by omega) (by omega), o4 x (by omega)]) t2
      refine h ν ⟨T3, ⟨T3.1, 3, Or.inl rfl, g2.of (fun x hx => o x (by omega))⟩, tMn_of (fun x x0 x1 => o6 x (by omega)) M5, S5⟩ (fun x x0 x1 x2 x3 x4 => by rw [o6 x (by omega), o5 x (by omega)]; exact og x x0 x1 x2) (fun j j0 j1 j2 => ?_) ?_
      · rw [o 21 (by decide), g3.2 j j1 j2, p4 j j0 j1 j2, o2 21 (by omega)]
      · rw [o 21 (by decide)]; exact g2.2.1
    | succ m ih =>
      intro t ξ g1 g2 g3
      have e1 : jm_wr ((t : Int) + 1) = ((t + 1 : Nat) : Int) := by rw [jm_wr_id (by omega) (by omega)]; omega
      have og : ∀ x, x < 3 ∨ 11 < x → x ≠ 21 → x < 31 ∨ 36 < x → ξ x = μ x := fun x x0 x1 x2 => by rw [g3.1 x x1 (by omega), o4 x x1, o2 x (by omega)]
      have hi := hI.2.2.1 t (by omega) (by omega)
      have hv := v3 t (by omega)
      refine r_X0_giveBack_16 (d := d + 5) ⟨i0, ?_⟩
      rw [og q (by omega) (by omega) (by omega), hI.2.1, og (q + 10) (by omega) (by omega) (by omega), og (q + 11) (by omega) (by omega) (by omega), hi.1, hi.2, e1]
      refine ⟨fun z => absurd z (by omega), fun _ => ⟨fun z => absurd z (by omega), fun _ => ⟨by omega, is_21, ?_⟩⟩⟩
      refine c_T_add g2 (by rw [sLay_n]; omega) hv.1.1 hv.1.2 hv.2.1.1 hv.2.1.2 hv.2.2 (fun ν A f _ => ih (t + 1) ν (by omega) A (g3.trans f))
  exact key D.2.2.1 0 m4 (by omega) A4 tFr.rfl
/-- the talk is laid anew, as it was tried -/
theorem c_T_copyTalk (h0 : tA μ ρ 37 3 400 (sLay ρ w n)) (hr : tRu μ 3 ρ) (hn : n ≤ 400) (hV : sVW ρ w n) (h : ∀ ν, tA ν ρ 21 3 400 (sLay ρ w n) → (∀ x, x ≠ 21 → x < 31 ∨ 36 < x → ν x = μ x) → (∀ j, j ≠ 0 → j ≠ 1 → j ≠ 2 → ν 21 j = μ 21 j) → Q none ν) : jc E m_X6_copy (d + 5) [jm_R 21, jm_R 37] μ Q := by
  have hW := h0.2.2.1
  refine e_X6_copy (d := d + 4) (fun _ => ⟨is_37, is_21, ?_⟩)
  rw [h0.2.1]
  have pl : tPl 21 3 400 := ⟨Or.inl rfl, Or.inl rfl, rfl⟩
  refine c_T_begin pl hW hr (fun m4 A4 o4 p4 _ => ?_)
  have sn : (jm_sn (37 + 10) : Int) = 400 := by rw [show (37 + 10 : Int) = 47 from rfl, snl_47]; rfl
  have key : ∀ (m t : Nat) (ξ : jm_M), t + m = n → tA ξ ρ 21 3 400 (sLay ρ w t) → tFr 21 m4 ξ → jg E m_X6_copy (d + 4) 10 [some (jm_R 21), some (jm_R 37), some (jm_I t)] [] ξ Q := by
    intro m
    induction m with
    | zero =>
      intro t ξ g1 g2 g3
      have ht : t = n := by omega
      subst ht
      refine r_X6_copy_10 (d := d + 4) ⟨is_37, ?_⟩
      rw [g3.1 37 (by decide) (by decide), o4 37 (by decide), h0.2.2.2.2.1.1, sLay_n]
      exact ⟨fun _ => h ξ g2 (fun x x0 x1 => by rw [g3.1 x x0 (by omega), o4 x x0]) (fun j j0 j1 j2 => by rw [g3.2 j j1 j2, p4 j j0 j1 j2]), fun z => absurd z (by omega)⟩
    | succ m ih =>
      intro t ξ g1 g2 g3
      have e1 : jm_wr ((t : Int) + 1) = ((t + 1 : Nat) : Int) := by rw [jm_wr_id (by omega) (by omega)]; omega
      have hv := hV t (by omega)
      have wt := sLay_at (t := t) hW hn hV (by omega)
      have og : ∀ x, x ≠ 21 → x < 31 ∨ 36 < x → ξ x = μ x := fun x x0 x1 => by rw [g3.1 x x0 (by omega), o4 x x0]
      have b0 : μ (37 + 10) t = w (2 * t) := by rw [h0.2.2.2.2.1.at (f := 0) (by omega) (by decide) (by decide) (by omega) (by rw [sLay_n]; omega)]; exact wt.1
      have b1 : μ (37 + 11) t = w (2 * t + 1) := by rw [h0.2.2.2.2.1.at (f := 1) (by omega) (by decide) (by decide) (by omega) (by rw [sLay_n]; omega)]; exact wt.2
      refine r_X6_copy_10 (d := d + 4) ⟨is_37, ?_⟩
      rw [og 37 (by decide) (by decide), h0.2.2.2.2.1.1, sLay_n, sn, og (37 + 10) (by decide) (by decide), og (37 + 11) (by decide) (by decide), b0, b1, e1]
      refine ⟨fun z => absurd z (by omega), fun _ => ⟨fun z => absurd z (by omega), fun _ => ⟨by omega, is_21, ?_⟩⟩⟩
      exact c_T_add g2 (by rw [sLay_n]; omega) hv.1.1 hv.1.2 hv.2.1.1 hv.2.1.2 hv.2.2 (fun ν A f _ => ih (t + 1) ν (by omega) A (g3.trans f))
  exact key n 0 m4 (by omega) A4 tFr.rfl
theorem c_C_image {k : Int} (hD : cDk μ D) (hV : sVd D) (h1 : ¬ (0 ≤ k ∧ k ≤ 1) → Q (some (jm_I 0)) μ) (h2 : 0 ≤ k → k ≤ 1 → ∀ ν, cIm ν (sIm k) D → ν (sIm k) 0 = 1 → (∀ x, x < sIm k ∨ sIm k + 18 < x → ν x = μ x) → Q (some (jm_I 1)) ν) : jc E m_X10_image (d + 7) [jm_R 0, jm_I k] μ Q := by
  refine e_X10_image (d := d + 6) (fun _ => c_C_imageAt (fun z => jq_R (jb_f (fun q => q rfl) (h1 z))) (fun k0 k1 => jq_R (jb_t (by unfold sIm; split <;> decide) ⟨sIm_is, c_T_keep hD hV (fun ν a b c _ => h2 k0 k1 ν a b c)⟩)))
theorem c_C_restore {k : Int} (hI : 0 ≤ k → k ≤ 1 → μ (sIm k) 0 ≠ 0 → cIm μ (sIm k) D ∧ sVd D) (h1 : ¬ (0 ≤ k ∧ k ≤ 1 ∧ μ (sIm k) 0 ≠ 0) → Q (some (jm_I 0)) μ) (h2 : 0 ≤ k → k ≤ 1 → μ (sIm k) 0 ≠ 0 → ∀ ν, cDk ν D → (∀ x, x < 3 ∨ 11 < x → x ≠ 21 → x < 31 ∨ 36 < x → x < 69 ∨ 71 < x → x < 75 ∨ 78 < x → ν x = μ x) → (∀ j, j ≠ 0 → j ≠ 1 → j ≠ 2 → ν 21 j = μ 21 j) → ν 21 0 = 3 → Q (some (jm_I 1)) ν) : jc E m_X10_restore (d + 7) [jm_R 0, jm_I k] μ Q := by
  refine e_X10_restore (d := d + 6) (fun _ => c_C_imageAt (fun z => jq_R (jb_t rfl (h1 (fun q => z ⟨q.1, q.2.1⟩)))) (fun k0 k1 => jq_R (jb_f (by unfold sIm; split <;> decide) ⟨sIm_is, fun z => ?_, fun z => h1 (fun q => z q.2.2)⟩)))
  have g := hI k0 k1 z
  exact c_T_giveBack g.1 g.2 (fun ν a b c e _ => h2 k0 k1 z ν a b c e)
theorem c_C_count {x len : Int} (hD : cDk μ D) (hV : sVd D) (hl : μ 1 1 = len) (h : Q (some (jm_I (sCo D.1 D.2.2.1 D.2.2.2.2.2.1 len x))) μ) : jc E m_X10_count (d + 1) [jm_R 0, jm_I x] μ Q := by
  obtain ⟨⟨r0, r1, r2, r3, r4, r5, r6, r7, r8, r9⟩, p, hp3, hA⟩ := hD.2.1
  have w4 := hV.1.2.2.2.2.2.2.2.2.1
  have w5 := hV.1.2.2.2.2.2.2.2.2.2.1
  have n21 : μ 21 1 = D.2.2.1 := by rw [hA.2.2.2.2.1.1, sLay_n]
  unfold sCo at h
  refine e_X10_count (fun _ => ?_)
  rw [r0, r1, r2, r3, r4, r5, n21, hD.2.2.1.1, hl]
  refine ⟨fun z => ?_, fun z0 => ⟨fun z => ?_, fun z1 => ⟨fun z => ?_, fun z2 => ⟨fun z => ?_, fun z3 => ⟨fun z => ⟨fun y => ?_, fun y => ?_⟩, fun z4 => ⟨fun z => ⟨fun y => ?_, fun y => ?_⟩, fun z5 => ⟨fun z => ?_, fun z6 => ⟨fun z => ?_, fun z7 => ⟨fun z => ?_, fun z8 => ?_⟩⟩⟩⟩⟩⟩⟩⟩⟩
  · rw [if_pos z] at h; exact h
  · rw [if_neg z0, if_pos z] at h; exact h
  · rw [if_neg z0, if_neg z1, if_pos z] at h; exact h
  · rw [if_neg z0, if_neg z1, if_neg z2, if_pos z] at h; exact h
  · rw [if_neg z0, if_neg z1, if_neg z2, if_neg z3, if_pos z, y] at h; exact h
  · rw [if_neg z0, if_neg z1, if_neg z2, if_neg z3, if_pos z, w4.resolve_left y] at h; exact h
  · rw [if_neg z0, if_neg z1, if_neg z2, if_neg z3, if_neg z4, if_pos z, y] at h; exact h
  · rw [if_neg z0, if_neg z1, if_neg z2, if_neg z3, if_neg z4, if_pos z, w5.resolve_left y] at h; exact h
  · rw [if_neg z0, if_neg z1, if_neg z2, if_neg z3, if_neg z4, if_neg z5, if_pos z] at h; exact h
  · rw [if_neg z0, if_neg z1, if_neg z2, if_neg z3, if_neg z4, if_neg z5, if_neg z6, if_pos z] at h; exact h
  · rw [if_neg z0, if_neg z1, if_neg z2, if_neg z3, if_neg z4, if_neg z5, if_neg z6, if_neg z7, if_pos z] at h; exact h
  · rw [if_neg z0, if_neg z1, if_neg z2, if_neg z3, if_neg z4, if_neg z5, if_neg z6, if_neg z7, if_neg z8] at h; exact h
theorem c_C_said {k : Int} (h0 : tTl μ ρ w n) (hn : n ≤ 400) (hs : tSn μ 75 P) (hP : sWp P) (h : Q (some (jm_I (if P.2.2.2 = 0 then -1 else sSel (fun t => sHo P (sAt ρ (sLay ρ w n) t P)) k n 0 0))) μ) : jc E m_X10_said (d + 8) [jm_R 0, jm_I k] μ Q := by
  obtain ⟨hr, p, hp3, hA⟩ := h0
  refine e_X10_said (d := d + 7) (fun _ => ?_)
  rw [hs.1]
  refine ⟨fun z => ?_, fun z => by rw [if_pos (by omega)] at h; exact h⟩
  rw [if_neg (by omega)] at h
  have key : ∀ (m : Nat) (t c : Int), t + m = n → 0 ≤ t → 0 ≤ c → c ≤ t → sSel (fun t => sHo P (sAt ρ (sLay ρ w n) t P)) k m t c = sSel (fun t => sHo P (sAt ρ (sLay ρ w n) t P)) k n 0 0 → jg E m_X10_said (d + 7) 16 [some (jm_R 0), some (jm_I k), some (jm_I c), some (jm_I t)] [] μ Q := by
    intro m
    induction m with
    | zero =>
      intro t c g1 g2 g3 g4 g5
      refine r_X10_said_16 (d := d + 7) ?_
      rw [hA.2.2.2.2.1.1, sLay_n]
      rw [← g5, sSel] at h
      exact ⟨fun _ => ⟨fun z => by rw [if_neg z] at h; exact h, fun z => by rw [if_pos (by omega)] at h; exact h⟩, fun z => absurd z (by omega)⟩
    | succ m ih =>
      intro t c g1 g2 g3 g4 g5
      refine r_X10_said_16 (d := d + 7) ?_
      rw [hA.2.2.2.2.1.1, sLay_n, jm_wr_id (a := t + 1) (by omega) (by omega), jm_wr_id (a := c + 1) (by omega) (by omega)]
      rw [sSel] at g5
      refine ⟨fun z => absurd z (by omega), fun _ => c_T_holds (d := d + 1) hA hs hP g2 (by rw [sLay_n]; omega) (jq_B ?_)⟩
      refine ⟨fun z => ?_, fun z => ⟨fun z3 => ?_, fun z3 => ?_⟩⟩
      · have z' : ¬ sHo P (sAt ρ (sLay ρ w n) t P) = true := fun q => by rw [if_pos q] at z; omega
        rw [if_neg z'] at g5
        exact ih (t + 1) c (by omega) (by omega) g3 (by omega) g5
      · have z' : sHo P (sAt ρ (sLay ρ w n) t P) = true := by
          by_cases q : sHo P (sAt ρ (sLay ρ w n) t P) = true
          · exact q
          · rw [if_neg q] at z; exact absurd rfl z
        rw [if_pos z', if_neg z3] at g5
        exact ih (t + 1) (c + 1) (by omega) (by omega) (by omega) (by omega) g5
      · have z' : sHo P (sAt ρ (sLay ρ w n) t P) = true := by
          by_cases q : sHo P (sAt ρ (sLay ρ w n) t P) = true
          · exact q
          · rw [if_neg q] at z; exact absurd rfl z
        rw [if_pos z', if_pos (Decidable.not_not.mp z3)] at g5
        rw [← g5] at h
        exact h
  exact key n 0 0 (by omega) (by decide) (by decide) (by decide) rfl
end DB
