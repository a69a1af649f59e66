section MK
variable {E : jm_E} {d : Nat} {μ : jm_M} {Q : Option jm_V → jm_M → Prop} {ρ σ : sR} {w : Int → Int} {n : Nat}
theorem sMx_in {x y z : Int} (hx : 0 ≤ x ∧ x ≤ z) (hy : 0 ≤ y ∧ y ≤ z) : 0 ≤ sMx x y ∧ sMx x y ≤ z := by unfold sMx; split <;> omega
theorem mRd_qp {ν : jm_M} (h : mQP μ ν) : mRd μ ν := ⟨fun p p1 p2 _ p4 => h.1 p p1 p2 p4, fun i i0 _ => h.2 i i0⟩
theorem mRd.trans {a b c : jm_M} (h1 : mRd a b) (h2 : mRd b c) : mRd a c := ⟨fun p p1 p2 p3 p4 => (h2.1 p p1 p2 p3 p4).trans (h1.1 p p1 p2 p3 p4), fun i i1 i2 => (h2.2 i i1 i2).trans (h1.2 i i1 i2)⟩
/-- the road that was found is the path -/
theorem r_M_unlike170 {r : Nat} (hr8 : r ≤ 8) (h : ∀ ν : jm_M, (∀ p, p ≠ 162 → ν p = μ p) → (∀ j : Int, 0 ≤ j → j < r → ν 162 j = μ 161 j) → Q (some (jm_I r)) ν) : jg E m_X11_unlike d 170 [some (jm_R 133), none, none, none, none, some (jm_I r), some (jm_I 0)] [] μ Q := by
  have key : ∀ (m : Nat) (i : Int) (ξ : jm_M), r - i = m → 0 ≤ i → (∀ p, p ≠ 162 → ξ p = μ p) → (∀ j : Int, 0 ≤ j → j < i → ξ 162 j = μ 161 j) → jg E m_X11_unlike d 170 [some (jm_R 133), none, none, none, none, some (jm_I r), some (jm_I i)] [] ξ Q := by
    intro m
    induction m with
    | zero => exact fun i ξ g1 g2 g3 g4 => r_X11_unlike_170 (d := d) ⟨fun _ => h ξ g3 (fun j j0 j1 => g4 j j0 (by omega)), fun z => absurd (show (r : Int) ≤ i by omega) z⟩
    | succ m ih =>
      intro i ξ g1 g2 g3 g4
      refine r_X11_unlike_170 (d := d) ⟨fun z => absurd z (by omega), fun _ => ⟨⟨by omega, by omega⟩, fun m3 hm => ?_⟩⟩
      rw [jm_wr_id (a := i + 1) (by omega) (by omega)]
      subst hm
      refine ih (i + 1) _ (by omega) (by omega) (fun p hp => by rw [jm_up_ne hp]; exact g3 p hp) (fun j j0 j1 => ?_)
      by_cases hj : j = i
      · rw [hj, jm_up_at, g3 161 (by decide)]
      · rw [jm_up_i hj]; exact g4 j j0 (by omega)
  exact key r 0 μ (by omega) (by decide) (fun _ _ => rfl) (fun j j0 j1 => absurd j1 (by omega))
theorem c_M_unlike {k x : Int} (h0 : sWR ρ) (hρ : ∀ i, 0 ≤ i → i < 60 → μ 135 i = ρ i) (h1 : 0 ≤ k → k ≤ 1 → μ 142 k ≠ 0 → sWR σ ∧ ∀ i, 0 ≤ i → i < 60 → μ 137 (1152 * k + i) = σ i)
    (ha : ¬ ((0 ≤ k ∧ k ≤ 1 ∧ μ 142 k ≠ 0) ∧ 1 ≤ x ∧ x ≤ 6) → ∀ ν, mQ μ ν → Q (some (jm_I (-3))) ν)
    (hb : 0 ≤ k → k ≤ 1 → μ 142 k ≠ 0 → 1 ≤ x → x ≤ 6 → (sUnl ρ σ x).1 ≤ 0 → ∀ ν, mQP μ ν → Q (some (jm_I (sUnl ρ σ x).1)) ν)
    (hc : 0 ≤ k → k ≤ 1 → μ 142 k ≠ 0 → 1 ≤ x → x ≤ 6 → 0 < (sUnl ρ σ x).1 → (sUnl ρ σ x).1 ≤ 8 → ((sUnl ρ σ x).2.length : Int) = (sUnl ρ σ x).1 → ∀ ν, mRd μ ν → ν 133 52 = (sUnl ρ σ x).1 → sPt (ν 162) 0 (sUnl ρ σ x).2 → Q (some (jm_I (sUnl ρ σ x).1)) ν) :
    jc E m_X11_unlike (d + 15) [jm_R 133, jm_I k, jm_I x] μ Q := by
  have e0 : ∀ p, p ≠ 133 → jm_up μ 133 0 0 p = μ p := fun p hp => jm_up_ne hp
  refine e_X11_unlike (d := d + 14) (fun _ => c_M_isIn (fun k0 k1 => jq_Z (jb_f (by decide) ⟨⟨by omega, by omega⟩, fun z => ?_, fun z => ?_⟩)) (fun z => jq_Z (jb_t rfl (ha (fun q => z ⟨q.1.1, q.1.2.1⟩) _ mQ_0))))
  · rw [e0 142 (by decide)] at z
    exact ha (fun q => q.1.2.2 z) _ mQ_0
  · rw [e0 142 (by decide)] at z
    refine c_M_isIn (fun x0 x1 => jq_Z (jb_t (by decide) ?_)) (fun y => jq_Z (jb_f (by decide) (ha (fun q => y q.2) _ mQ_0)))
    obtain ⟨hS, hσ⟩ := h1 k0 k1 z
    have hb' := hb k0 k1 z x0 x1
    have hc' := hc k0 k1 z x0 x1
    clear ha hb hc h1
    have ek : jm_wr (1152 * k) = 1152 * k := jm_wr_id (by omega) (by omega)
    rw [ek]
    refine c_M_layRules (ρ := ρ) (by decide) (fun i i0 i1 => ⟨?_, ?_⟩) (by decide) (by decide) (fun ξ1 r1 b1 f1 _ _ _ => ?_)
    · rw [Int.zero_add]
      exact ixl_135 i0 (by omega)
    · rw [Int.zero_add, e0 135 (by decide)]
      exact hρ i i0 i1
    refine c_M_layRules (ρ := σ) (by decide) (fun i i0 i1 => ⟨?_, ?_⟩) (by decide) (by omega) (fun ξ2 r2 b2 f2 o2 p2 _ => ?_)
    · exact ixl_137 (by omega) (by omega)
    · rw [f1 137 (by decide) (by decide) (by decide), e0 137 (by decide)]
      exact hσ i i0 i1
    have r1' := o2 0 ρ (by decide) (by decide) (by decide) r1
    have b1' := p2 0 sEmpty (by decide) (by decide) (by decide) b1
    have hq : mQP μ ξ2 := ⟨fun p p1 p2 p3 => by rw [f2 p (by omega) (by omega) (by omega), f1 p (by omega) (by omega) (by omega), e0 p p1], fun i hi => by rw [f2 133 (by decide) (by decide) (by decide), f1 133 (by decide) (by decide) (by decide), jm_up_i hi]⟩
    have hP := sMx_in (x := ρ 0) (y := σ 0) (z := 8) ⟨h0.1, h0.2.1⟩ ⟨hS.1, hS.2.1⟩
    have hK := sMx_in (x := ρ 1) (y := σ 1) (z := 10) ⟨h0.2.2.1, h0.2.2.2.1⟩ ⟨hS.2.2.1, hS.2.2.2.1⟩
    have fin : ∀ P K : Int, P = sMx (ρ 0) (σ 0) → K = sMx (ρ 1) (σ 1) → jc E m_X11_isTooMany (d + 14) [jm_I P, jm_I K, jm_I x] ξ2 (fun o m27 => ∀ r28 : Int, o = some (jm_I r28) → (r28 = 0 ∨ r28 = 1) →
        ((r28 = 0 → jg E m_X11_unlike (d + 14) 139 [some (jm_R 133), none, some (jm_I x), some (jm_I P), some (jm_I K), some (jm_I 1), none] [] m27 Q) ∧
         (¬ (r28 = 0) → Q (some (jm_I (-2))) m27))) := by
      intro P K hPP hKK
      rw [← hPP] at hP
      rw [← hKK] at hK
      unfold sUnl at hb' hc'
      rw [← hPP, ← hKK] at hb' hc'
      refine c_M_isTooMany hP.1 hP.2 hK.1 hK.2 (by omega) (by omega) (fun z => jq_Z (jb_f (by decide) ?_)) (fun z => jq_Z (jb_t rfl ?_))
      · rw [if_pos z] at hb'
        exact hb' (by decide : (-2 : Int) ≤ 0) ξ2 hq
      · rw [if_neg (by rw [z]; decide)] at hb' hc'
        obtain ⟨P', rfl⟩ : ∃ r : Nat, P = r := ⟨P.toNat, by omega⟩
        obtain ⟨K', rfl⟩ : ∃ r : Nat, K = r := ⟨K.toNat, by omega⟩
        have key : ∀ (m : Nat) (i : Nat) (ξ : jm_M), x + 1 - i = m → 1 ≤ i → mBd ξ 0 sEmpty → mBd ξ 1 sEmpty → mRu ξ 0 ρ → mRu ξ 1 σ → mQP μ ξ → sF1 (fun l => sPa ρ σ P' K' l.toNat sEmpty sEmpty) m i = sF1 (fun l => sPa ρ σ P' K' l.toNat sEmpty sEmpty) x.toNat 1 → jg E m_X11_unlike (d + 14) 139 [some (jm_R 133), none, some (jm_I x), some (jm_I P'), some (jm_I K'), some (jm_I i), none] [] ξ Q := by
          intro m
          induction m with
          | zero =>
            intro i ξ g1 g2 g3 g4 g5 g6 g7 g8
            refine r_X11_unlike_139 (d := d + 14) ⟨fun _ => ?_, fun z => absurd (show x < i by omega) z⟩
            have g8' : none = sF1 (fun l => sPa ρ σ P' K' l.toNat sEmpty sEmpty) x.toNat 1 := g8
            show Q (some (jm_I 0)) ξ
            have g := hb'
            rw [show ((P' : Int).toNat) = P' from rfl, show ((K' : Int).toNat) = K' from rfl, ← g8'] at g
            exact g (by decide : (0 : Int) ≤ 0) ξ g7
          | succ m ih =>
            intro i ξ g1 g2 g3 g4 g5 g6 g7 g8
            have g8' : (sPa ρ σ P' K' i sEmpty sEmpty).or (sF1 (fun l => sPa ρ σ P' K' l.toNat sEmpty sEmpty) m ((i : Int) + 1)) = sF1 (fun l => sPa ρ σ P' K' l.toNat sEmpty sEmpty) x.toNat 1 := g8
            refine r_X11_unlike_139 (d := d + 14) ⟨fun z => absurd z (by omega), fun _ => ?_⟩
            obtain ⟨r, rfl⟩ : ∃ r : Nat, i = r + 1 := ⟨i - 1, by omega⟩
            have hcp := c_M_parts (E := E) (d := d + 9 - r) h0 hS (P := P') (K := K') (by omega) (by omega) r sEmpty sEmpty ξ 0 ((r + 1 : Nat) : Int)
            rw [show d + 9 - r + r + 5 = d + 14 by omega] at hcp
            refine hcp _ (by omega) (by decide) (by omega) g5 g6 g3 g4 sGB_empty sGB_empty (by decide) (by decide) (fun ξ2 bd2 cd2 pa2 => ⟨fun l hl ll hp => jq_Z (jb_t (by decide) ?_), fun hl => jq_Z (jb_f (by decide) ?_)⟩)
            · rw [hl] at g8'
              have g9 : sF1 (fun l => sPa ρ σ P' K' l.toNat sEmpty sEmpty) x.toNat 1 = some l := by rw [← g8']; rfl
              refine r_M_unlike170 (by omega) (fun ν v1 v2 => ?_)
              have g := hc'
              rw [show ((P' : Int).toNat) = P' from rfl, show ((K' : Int).toNat) = K' from rfl, g9] at g
              dsimp only at g
              have g := g (show (0 : Int) < l.length by omega) (show (l.length : Int) ≤ 8 by omega) rfl ν ⟨fun p p1 p2 p3 p4 => by rw [v1 p p3, jm_up_ne p1]; exact (g7.trans (mQP_pa pa2)).1 p p1 p2 p4, fun i i0 i1 => by rw [v1 133 (by decide), jm_up_i i1]; exact (g7.trans (mQP_pa pa2)).2 i i0⟩ (by rw [v1 133 (by decide), jm_up_at, ← ll]) (sPt_ext l 0 (fun j j0 j1 => by rw [v2 j j0 (by omega), jm_up_ne (by decide)]) hp)
              rw [← ll]
              exact g
            · rw [hl] at g8'
              rw [jm_wr_id (by omega) (by omega)]
              exact ih (r + 1 + 1) ξ2 (by omega) (by omega) bd2 cd2 (mPa_ru pa2 g5) (mPa_ru pa2 g6) (g7.trans (mQP_pa pa2)) g8'
        exact key x.toNat 1 ξ2 (by omega) (by decide) b1' b2 r1' r2 hq rfl
    refine c_M_rule (by decide) (by decide) r1' (jq_I (c_M_rule (by decide) (by decide) r2 (jq_I ⟨fun y => ?_, fun y => ?_⟩)))
    · refine c_M_rule (by decide) (by decide) r2 (jq_I (c_M_rule (by decide) (by decide) r1' (jq_I (c_M_rule (by decide) (by decide) r2 (jq_I ⟨fun y2 => ?_, fun y2 => ?_⟩)))))
      · exact c_M_rule (by decide) (by decide) r2 (jq_I (fin _ _ (if_pos y).symm (if_pos y2).symm))
      · exact c_M_rule (by decide) (by decide) r1' (jq_I (fin _ _ (if_pos y).symm (if_neg y2).symm))
    · refine c_M_rule (by decide) (by decide) r1' (jq_I (c_M_rule (by decide) (by decide) r1' (jq_I (c_M_rule (by decide) (by decide) r2 (jq_I ⟨fun y2 => ?_, fun y2 => ?_⟩)))))
      · exact c_M_rule (by decide) (by decide) r2 (jq_I (fin _ _ (if_neg y).symm (if_pos y2).symm))
      · exact c_M_rule (by decide) (by decide) r1' (jq_I (fin _ _ (if_neg y).symm (if_neg y2).symm))
end MK
