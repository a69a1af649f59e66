section MU
variable {E : jm_E} {d : Nat} {μ : jm_M} {Q : Option jm_V → jm_M → Prop} {τ : Int → Int} {n lim : Int}
theorem c_M_go {p : Int} (hX : sTx τ n) (ht : mTx μ τ n) (h4 : μ 133 4 = lim) (h5 : μ 133 5 = p) (p0 : 0 ≤ p) (p1 : p ≤ n) (h : ∀ ν, mKf μ ν → mTo ν (sTok τ n lim p) → Q none ν) : jc E m_X11_go (d + 2) [jm_R 133] μ Q := by
  have hn := hX.2.1
  refine e_X11_go (d := d + 1) (fun _ => ?_)
  have sign_c : ∀ c : Int, sSi c = true ↔ (c = 59 ∨ c = 60 ∨ c = 61 ∨ c = 62 ∨ c = 40 ∨ c = 41) := fun c => by
    unfold sSi
    simp only [Bool.or_eq_true, decide_eq_true_eq, or_assoc]
  have tok : ∀ (q : Int) (ξ : jm_M), mKf μ ξ → ξ 133 5 = q → ξ 133 6 = q → sSkp τ n 940 p = q → p ≤ q → q ≤ n → ¬ (lim < n ∧ lim ≤ q) → jg E m_X11_go (d + 1) 96 [some (jm_R 133), none, none, none, none] [] ξ Q := by
    intro q ξ g1 g2 g3 g4 g5 g6 g7
    have ht' := mTx_of g1 ht
    refine r_X11_go_96 (d := d + 1) ?_
    rw [g2, ht'.1]
    refine ⟨fun z => ⟨by omega, fun c hc => ?_⟩, fun z => ?_⟩
    · rw [ht'.2 q (by omega) z] at hc
      have h' : ∀ ν, mKf μ ν → mTo ν (if (sLt c || sDg c) = true then sRk q (sRu τ n 940 q 0 0 0 0) else if sSi c = true then (4, q, q + 1, c) else (1, q, 0, 0)) → Q none ν := fun ν a b => h ν a (by unfold sTok; rw [g4, if_neg g7, if_neg (show ¬ n ≤ q by omega), ← hc]; exact b)
      have run : ∀ v2 : Int, v2 = (if sLt c = true then 1 else 0) → (sLt c || sDg c) = true → jg E m_X11_go (d + 1) 215 [some (jm_R 133), none, some (jm_I v2), some (jm_I 1), none] [] (jm_up (jm_up ξ 133 12 0) 133 8 0) Q := fun v2 y1 y2 => by
        rw [if_pos y2] at h'
        have k2 : mKf ξ (jm_up (jm_up ξ 133 12 0) 133 8 0) := (mKf_up (by omega)).trans (mKf_up (by omega))
        exact r_M_run (q := q) hX (mTx_of k2 ht') (by omega) z (by rw [← hc]; exact y1) (by rw [← hc]; exact y2) (fun ν a b => h' ν ((g1.trans k2).trans a) b) (by rw [jm_up_i (by decide), jm_up_i (by decide)]; exact g2) (by rw [jm_up_i (by decide), jm_up_i (by decide)]; exact g3) (by rw [jm_up_i (by decide), jm_up_at]) jm_up_at
      refine c_M_isLetter (fun y => jq_Z (jb_t (by decide) (c_M_isLetter (fun _ => jq_Z (run 1 (by rw [if_pos y]) (by rw [y]; rfl))) (fun y2 => absurd y (by rw [y2]; decide))))) (fun y => jq_Z (jb_f (by decide) (c_M_isDigit (fun y2 => jq_Z (jb_t (by decide) (c_M_isLetter (fun y3 => absurd y3 (by rw [y]; decide)) (fun _ => jq_Z (run 0 (by rw [if_neg (by rw [y]; decide)]) (by rw [y2, Bool.or_true])))))) (fun y2 => jq_Z (jb_f (by decide) ?_)))))
      rw [if_neg (by rw [y, y2]; decide)] at h'
      rw [g2, jm_wr_id (a := q + 1) (by omega) (by omega)]
      have k3 : ∀ s, mKf μ (jm_up (jm_up (jm_up ξ 133 7 s) 133 9 c) 133 5 (q + 1)) := fun s => ((g1.trans (mKf_up (by omega))).trans (mKf_up (by omega))).trans (mKf_up (by omega))
      have sign : (c = 59 ∨ c = 60 ∨ c = 61 ∨ c = 62 ∨ c = 40 ∨ c = 41) → Q none (jm_up (jm_up (jm_up ξ 133 7 4) 133 9 c) 133 5 (q + 1)) := fun z1 => by
        rw [if_pos ((sign_c c).mpr z1)] at h'
        exact h' _ (k3 4) (mTo_4 (by rw [jm_up_i (by decide), jm_up_i (by decide), jm_up_at]) (by rw [jm_up_i (by decide), jm_up_i (by decide), jm_up_i (by decide)]; exact g3) (by rw [jm_up_i (by decide), jm_up_at]) jm_up_at)
      refine ⟨fun z1 => sign (by omega), fun z1 => ⟨fun z2 => sign (by omega), fun z2 => ⟨fun z3 => sign (by omega), fun z3 => ⟨fun z4 => sign (by omega), fun z4 => ⟨fun z5 => sign (by omega), fun z5 => ⟨fun z6 => ?_, fun z6 => sign (by omega)⟩⟩⟩⟩⟩⟩
      rw [if_neg (fun y3 => by have := (sign_c c).mp y3; omega)] at h'
      exact h' _ (k3 1) (mTo_1 (by rw [jm_up_i (by decide), jm_up_i (by decide), jm_up_at]) (by rw [jm_up_i (by decide), jm_up_i (by decide), jm_up_i (by decide)]; exact g3))
    · refine h _ (g1.trans (mKf_up (by omega))) ?_
      unfold sTok
      rw [g4, if_neg g7, if_pos (show n ≤ q by omega)]
      exact mTo_0 jm_up_at (by rw [jm_up_i (by decide)]; exact g3)
  have out : ∀ (q : Int) (ξ : jm_M), mKf μ ξ → ξ 133 5 = q → sSkp τ n 940 p = q → p ≤ q → q ≤ n → jg E m_X11_go (d + 1) 52 [some (jm_R 133), none, none, none, none] [] ξ Q := by
    intro q ξ g1 g2 g3 g4 g5
    have k6 : mKf μ (jm_up ξ 133 6 q) := g1.trans (mKf_up (by omega))
    refine r_X11_go_52 (d := d + 1) ?_
    rw [(mTx_of g1 ht).1, g1.2 4 (by omega) (by decide), h4, g2]
    refine ⟨fun z => tok q _ k6 (by rw [jm_up_i (by decide)]; exact g2) jm_up_at g3 g4 g5 (by omega), fun z => ⟨fun z2 => tok q _ k6 (by rw [jm_up_i (by decide)]; exact g2) jm_up_at g3 g4 g5 (by omega), fun z2 => ?_⟩⟩
    refine h _ ((k6.trans (mKf_up (by omega))).trans (mKf_up (by omega))) ?_
    unfold sTok
    rw [g3, if_pos (show lim < n ∧ lim ≤ q by omega)]
    exact mTo_1 jm_up_at (by rw [jm_up_i (by decide), jm_up_at])
  have key : ∀ (f : Nat) (s : Int) (ξ : jm_M), n - s ≤ f → p ≤ s → s ≤ n → mKf μ ξ → ξ 133 5 = s → sSkp τ n f s = sSkp τ n 940 p → jg E m_X11_go (d + 1) 0 [some (jm_R 133), none, none, none, none] [] ξ Q := by
    intro f
    induction f with
    | zero =>
      intro s ξ g1 g2 g3 g4 g5 g6
      refine r_X11_go_0 (d := d + 1) ?_
      rw [g5, (mTx_of g4 ht).1]
      exact ⟨fun _ => out s ξ g4 g5 g6.symm g2 g3, fun z => absurd (by omega) z⟩
    | succ f ih =>
      intro s ξ g1 g2 g3 g4 g5 g6
      have ht' := mTx_of g4 ht
      rw [sSkp] at g6
      refine r_X11_go_0 (d := d + 1) ?_
      rw [g5, ht'.1]
      refine ⟨fun z => ?_, fun z => ⟨by omega, ?_⟩⟩
      · rw [if_neg (by omega)] at g6
        exact out s ξ g4 g5 g6.symm g2 g3
      · rw [if_pos (by omega)] at g6
        rw [ht'.2 s (by omega) (by omega), jm_wr_id (a := s + 1) (by omega) (by omega)]
        have go : sBl (τ s) = true → jg E m_X11_go (d + 1) 0 [some (jm_R 133), none, none, none, none] [] (jm_up ξ 133 5 (s + 1)) Q := fun y => by
          rw [if_pos y] at g6
          exact ih (s + 1) _ (by omega) (by omega) (by omega) (g4.trans (mKf_up (by omega))) jm_up_at g6
        refine ⟨fun y => go (by unfold sBl; rw [y]; rfl), fun y => ⟨fun y2 => ?_, fun y2 => go (by unfold sBl; rw [Decidable.not_not.mp y2]; rfl)⟩⟩
        have nb : sBl (τ s) = false := by
          unfold sBl
          rw [decide_eq_false y, decide_eq_false y2]; rfl
        rw [if_neg (by rw [nb]; decide)] at g6
        exact out s ξ g4 g5 g6.symm g2 g3
  exact key 940 p μ (by omega) (Int.le_refl _) p1 mKf.rfl h5 rfl
/-! the texts' own words -/
theorem c_M_wordOf {k : Int} (k0 : 0 ≤ k) (k1 : k ≤ 24) (h : Q (some (jm_L (sNa (jm_le (-12 - k))))) μ) : jc E m_X11_wordOf (d + 2) [jm_I k] μ Q := by
  refine e_X11_wordOf (d := d + 1) (fun _ => ?_)
  have sp : ∀ (a b c e v : Int) (F : Option jm_V → jm_M → Prop), (jm_wl (jm_wl (jm_wl (27 * jm_wl (a - 96)) + b) - 96) = v ∧ c ≤ 0 ∧ e ≤ 0 ∨ jm_wl (jm_wl (jm_wl (27 * jm_wl (jm_wl (jm_wl (27 * jm_wl (a - 96)) + b) - 96)) + c) - 96) = v ∧ 0 < c ∧ e ≤ 0 ∨ jm_wl (jm_wl (jm_wl (27 * jm_wl (jm_wl (jm_wl (27 * jm_wl (jm_wl (jm_wl (27 * jm_wl (a - 96)) + b) - 96)) + c) - 96)) + e) - 96) = v ∧ 0 < c ∧ 0 < e) → F (some (jm_L v)) μ → jc E m_X11_spelt (d + 1) [jm_I a, jm_I b, jm_I c, jm_I e] μ F := by
    intro a b c e v F hv hF
    refine e_X11_spelt (fun _ x1 hx1 => ?_)
    rcases hv with ⟨h1, h2, h3⟩ | ⟨h1, h2, h3⟩ | ⟨h1, h2, h3⟩
    · refine ⟨fun _ => ⟨fun _ => by rw [hx1, h1]; exact hF, fun z => absurd h3 z⟩, fun z => absurd h2 z⟩
    · refine ⟨fun z => absurd z (by omega), fun _ x4 hx4 => ⟨fun _ => by rw [hx4, hx1, h1]; exact hF, fun z => absurd h3 z⟩⟩
    · refine ⟨fun z => absurd z (by omega), fun _ x4 hx4 => ⟨fun z => absurd z (by omega), fun _ => by rw [hx4, hx1, h1]; exact hF⟩⟩
  have on : ∀ (a b c e v : Int) (F : Option jm_V → jm_M → Prop), (jm_wl (jm_wl (jm_wl (27 * a) + b) - 96) = v ∧ c ≤ 0 ∧ e ≤ 0 ∨ jm_wl (jm_wl (jm_wl (27 * jm_wl (jm_wl (jm_wl (27 * a) + b) - 96)) + c) - 96) = v ∧ 0 < c ∧ e ≤ 0 ∨ jm_wl (jm_wl (jm_wl (27 * jm_wl (jm_wl (jm_wl (27 * jm_wl (jm_wl (jm_wl (27 * a) + b) - 96)) + c) - 96)) + e) - 96) = v ∧ 0 < c ∧ 0 < e) → F (some (jm_L v)) μ → jc E m_X11_on (d + 1) [jm_L a, jm_I b, jm_I c, jm_I e] μ F := by
    intro a b c e v F hv hF
    refine e_X11_on (fun _ x1 hx1 => ?_)
    rcases hv with ⟨h1, h2, h3⟩ | ⟨h1, h2, h3⟩ | ⟨h1, h2, h3⟩
    · refine ⟨fun _ => ⟨fun _ => by rw [hx1, h1]; exact hF, fun z => absurd h3 z⟩, fun z => absurd h2 z⟩
    · refine ⟨fun z => absurd z (by omega), fun _ x4 hx4 => ⟨fun _ => by rw [hx4, hx1, h1]; exact hF, fun z => absurd h3 z⟩⟩
    · refine ⟨fun z => absurd z (by omega), fun _ x4 hx4 => ⟨fun z => absurd z (by omega), fun _ => by rw [hx4, hx1, h1]; exact hF⟩⟩
  have fin : ∀ (k' v : Int), k = k' → sNa (jm_le (-12 - k')) = v → Q (some (jm_L v)) μ := fun k' v e1 e2 => by rw [e1, e2] at h; exact h
  exact ⟨fun z0 => sp 119 104 111 0 16998 _ (by decide +kernel) (jq_L (fin 0 16998 z0 (by decide +kernel))), fun n0 => ⟨fun z1 => sp 107 105 110 100 223456 _ (by decide +kernel) (jq_L (fin 1 223456 z1 (by decide +kernel))), fun n1 => ⟨fun z2 => sp 109 97 121 0 9529 _ (by decide +kernel) (jq_L (fin 2 9529 z2 (by decide +kernel))), fun n2 => ⟨fun z3 => sp 99 111 109 98 70337 _ (by decide +kernel) (jq_L (fin 3 70337 z3 (by decide +kernel))), fun n3 => ⟨fun z4 => sp 114 97 110 107 355412 _ (by decide +kernel) (jq_L (on 355412 115 0 0 9596143 _ (by decide +kernel) (jq_L (fin 4 9596143 z4 (by decide +kernel))))), fun n4 => ⟨fun z5 => sp 116 119 105 99 410673 _ (by decide +kernel) (jq_L (on 410673 101 0 0 11088176 _ (by decide +kernel) (jq_L (fin 5 11088176 z5 (by decide +kernel))))), fun n5 => ⟨fun z6 => sp 111 112 101 110 307058 _ (by decide +kernel) (jq_L (on 307058 115 0 0 8290585 _ (by decide +kernel) (jq_L (fin 6 8290585 z6 (by decide +kernel))))), fun n6 => ⟨fun z7 => sp 98 101 103 105 43209 _ (by decide +kernel) (jq_L (on 43209 110 115 0 31499758 _ (by decide +kernel) (jq_L (fin 7 31499758 z7 (by decide +kernel))))), fun n7 => ⟨fun z8 => sp 97 115 107 115 33850 _ (by decide +kernel) (jq_L (fin 8 33850 z8 (by decide +kernel))), fun n8 => ⟨fun z9 => sp 103 114 97 110 150944 _ (by decide +kernel) (jq_L (on 150944 116 115 0 110038735 _ (by decide +kernel) (jq_L (fin 9 110038735 z9 (by decide +kernel))))), fun n9 => ⟨fun z10 => sp 114 101 102 117 358122 _ (by decide +kernel) (jq_L (on 358122 115 101 115 7048929331 _ (by decide +kernel) (jq_L (fin 10 7048929331 z10 (by decide +kernel))))), fun n10 => ⟨fun z11 => sp 107 101 101 112 220309 _ (by decide +kernel) (jq_L (on 220309 115 0 0 5948362 _ (by decide +kernel) (jq_L (fin 11 5948362 z11 (by decide +kernel))))), fun n11 => ⟨fun z12 => sp 98 114 101 97 52624 _ (by decide +kernel) (jq_L (on 52624 107 115 0 38363212 _ (by decide +kernel) (jq_L (fin 12 38363212 z12 (by decide +kernel))))), fun n12 => ⟨fun z13 => sp 102 114 101 101 131360 _ (by decide +kernel) (jq_L (on 131360 115 0 0 3546739 _ (by decide +kernel) (jq_L (fin 13 3546739 z13 (by decide +kernel))))), fun n13 => ⟨fun z14 => sp 97 110 121 0 1132 _ (by decide +kernel) (jq_L (fin 14 1132 z14 (by decide +kernel))), fun n14 => ⟨fun z15 => sp 111 114 0 0 423 _ (by decide +kernel) (jq_L (fin 15 423 z15 (by decide +kernel))), fun n15 => ⟨fun z16 => sp 97 110 100 0 1111 _ (by decide +kernel) (jq_L (fin 16 1111 z16 (by decide +kernel))), fun n16 => ⟨fun z17 => sp 110 111 116 0 10631 _ (by decide +kernel) (jq_L (fin 17 10631 z17 (by decide +kernel))), fun n17 => ⟨fun z18 => sp 98 121 0 0 79 _ (by decide +kernel) (jq_L (fin 18 79 z18 (by decide +kernel))), fun n18 => ⟨fun z19 => sp 116 111 0 0 555 _ (by decide +kernel) (jq_L (fin 19 555 z19 (by decide +kernel))), fun n19 => ⟨fun z20 => sp 105 115 0 0 262 _ (by decide +kernel) (jq_L (fin 20 262 z20 (by decide +kernel))), fun n20 => ⟨fun z21 => sp 112 108 97 99 323706 _ (by decide +kernel) (jq_L (on 323706 101 0 0 8740067 _ (by decide +kernel) (jq_L (fin 21 8740067 z21 (by decide +kernel))))), fun n21 => ⟨fun z22 => sp 116 104 114 101 399983 _ (by decide +kernel) (jq_L (on 399983 97 100 0 291587638 _ (by decide +kernel) (jq_L (fin 22 291587638 z22 (by decide +kernel))))), fun n22 => ⟨fun z23 => sp 100 101 112 116 82829 _ (by decide +kernel) (jq_L (on 82829 104 0 0 2236391 _ (by decide +kernel) (jq_L (fin 23 2236391 z23 (by decide +kernel))))), fun n23 => sp 115 116 97 116 388604 _ (by decide +kernel) (jq_L (on 388604 101 0 0 10492313 _ (by decide +kernel) (jq_L (fin 24 10492313 (by omega) (by decide +kernel)))))⟩⟩⟩⟩⟩⟩⟩⟩⟩⟩⟩⟩⟩⟩⟩⟩⟩⟩⟩⟩⟩⟩⟩⟩
end MU
