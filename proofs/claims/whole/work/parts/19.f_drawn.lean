theorem sLay_say {ρ : sR} {w : Int → Int} {n : Nat} {who k : Int} : sLay ρ (sSay w n who k) (n + 1) = sPush ρ (sLay ρ w n) who k := by
  have h := sLay_ext (ρ := ρ) (w := sSay w n who k) (w' := w) n (fun i i0 i1 => by unfold sSay; rw [if_neg (by omega), if_neg (by omega)])
  show sPush ρ (sLay ρ (sSay w n who k) n) (sSay w n who k (2 * n)) (sSay w n who k (2 * n + 1)) = _
  have e1 : sSay w n who k (2 * n) = who := by unfold sSay; rw [if_pos rfl]
  have e2 : sSay w n who k (2 * n + 1) = k := by unfold sSay; rw [if_neg (by omega), if_pos rfl]
  rw [h, e1, e2]
theorem sLay_say_le {ρ : sR} {w : Int → Int} {n t : Nat} {who k : Int} (ht : t ≤ n) : sLay ρ (sSay w n who k) t = sLay ρ w t :=
  sLay_ext t (fun i i0 i1 => by unfold sSay; rw [if_neg (by omega), if_neg (by omega)])
theorem sVW_say {ρ : sR} {w : Int → Int} {n : Nat} {who k : Int} (hv : sVW ρ w n) (w0 : 0 ≤ who) (w1 : who < ρ 0) (k0 : 0 ≤ k) (k1 : k < ρ 1) (hw : sWr ρ (sLay ρ w n) who k = 0) : sVW ρ (sSay w n who k) (n + 1) := by
  intro t ht
  rw [sLay_say_le (by omega)]
  by_cases h : t = n
  · subst h
    have e1 : sSay w t who k (2 * t) = who := by unfold sSay; rw [if_pos rfl]
    have e2 : sSay w t who k (2 * t + 1) = k := by unfold sSay; rw [if_neg (by omega), if_pos rfl]
    rw [e1, e2]
    exact ⟨⟨w0, w1⟩, ⟨k0, k1⟩, hw⟩
  · have e1 : sSay w n who k (2 * t) = w (2 * t) := by unfold sSay; rw [if_neg (by omega), if_neg (by omega)]
    have e2 : sSay w n who k (2 * t + 1) = w (2 * t + 1) := by unfold sSay; rw [if_neg (by omega), if_neg (by omega)]
    rw [e1, e2]
    exact hv t (by omega)
/-- the reference's change by a drawing -/
def mDn (μ ν : jm_M) : Prop := (∀ p, p ≠ 133 → p ≠ 135 → p < 143 ∨ 151 < p → ν p = μ p) ∧ (∀ i, i ≠ 0 → i ≠ 32 → ν 133 i = μ 133 i) ∧ ∀ i : Int, i < 60 ∨ 861 ≤ i → ν 135 i = μ 135 i
theorem mDn.trans {a b c : jm_M} (h1 : mDn a b) (h2 : mDn b c) : mDn a c := ⟨fun p p1 p2 p3 => (h2.1 p p1 p2 p3).trans (h1.1 p p1 p2 p3), fun i i1 i2 => (h2.2.1 i i1 i2).trans (h1.2.1 i i1 i2), fun i hi => (h2.2.2 i hi).trans (h1.2.2 i hi)⟩
theorem mDn_of {μ ν : jm_M} (h : mQ μ ν) : mDn μ ν := ⟨fun p p1 _ p3 => h.1 p p1 p3, fun i i1 _ => h.2 i i1, fun i _ => by rw [h.1 135 (by decide) (by decide)]⟩
section ME
variable {E : jm_E} {d : Nat} {μ : jm_M} {Q : Option jm_V → jm_M → Prop} {ρ : sR} {w : Int → Int} {n : Nat}
theorem c_M_drawn {k x : Int} (h0 : mOK μ ρ w n) (h1 : ¬ (1 ≤ k ∧ k ≤ 400) → ∀ ν, mQ μ ν → Q (some (jm_I (-1))) ν) (h2 : 1 ≤ k → k ≤ 400 → ∀ ν, mDn μ ν → mOK ν ρ (sDr ρ k.toNat w n x 0).1 (sDr ρ k.toNat w n x 0).2.1 → Q (some (jm_I (sDr ρ k.toNat w n x 0).2.2)) ν) : jc E m_X11_drawn (d + 6) [jm_R 133, jm_I k, jm_I x] μ Q := by
  have hW := h0.1
  have hm := mOK_of (mQ_0 (v := 0)) h0
  refine e_X11_drawn (d := d + 5) (fun _ => c_M_isIn (fun a0 a1 => jq_Z (jb_t (by decide) (hm.lay (fun ν hr hb hq h3 _ => ?_)))) (fun a => jq_Z (jb_f (by decide) (h1 a _ mQ_0))))
  have g := h2 a0 a1
  have key : ∀ (m : Nat) (w' : Int → Int) (n' : Nat) (c : Int) (ξ : jm_M), k - c = m → 0 ≤ c → mOK ξ ρ w' n' → mRu ξ 0 ρ → mBd ξ 0 (sLay ρ w' n') → mDn μ ξ → sDr ρ m w' n' (ξ 133 32) c = sDr ρ k.toNat w n x 0 → jg E m_X11_drawn (d + 5) 29 [some (jm_R 133), some (jm_I k), none, some (jm_I c), none, none] [] ξ Q := by
    intro m
    induction m with
    | zero =>
      intro w' n' c ξ g1 g2 g3 g4 g5 g6 g7
      refine r_X11_drawn_29 (d := d + 5) ⟨fun _ => ?_, fun z => absurd (show k ≤ c by omega) z⟩
      rw [← g7] at g
      exact g ξ g6 g3
    | succ m ih =>
      intro w' n' c ξ g1 g2 g3 g4 g5 g6 g7
      have hn' := g3.2.2.1
      have hl := sLay_n (ρ := ρ) (w := w') n'
      have hG := g3.good
      refine r_X11_drawn_29 (d := d + 5) ⟨fun z => absurd z (by omega), fun _ => ⟨fun z => ?_, fun z => ?_⟩⟩
      · rw [g5.1, hl] at z
        rw [sDr, if_neg (by omega)] at g7
        rw [← g7] at g
        exact g ξ g6 g3
      · rw [g5.1, hl] at z
        rw [sDr, if_pos (by omega)] at g7
        refine c_M_nextWord hW g3.p0 g3.p1 g4 g5 hG (jq_I ⟨fun z2 => ?_, fun z2 => ?_⟩)
        · rw [if_neg z2] at g7
          refine c_M_draw z2 (jq_I ?_)
          have hle := sNw_le (sMay ρ (sLay ρ w' n')) (ρ 1).toNat (by have := hW.2.2.2.1; omega) (ρ 0).toNat 0 0 (by decide) (by decide)
          have hall : 0 < sNx ρ (sLay ρ w' n') (-1) ∧ sNx ρ (sLay ρ w' n') (-1) ≤ 80 := by
            have := hW.2.1
            unfold sNx at z2 ⊢
            omega
          have hu := jm_ushr8 (sRnd (ξ 133 32))
          have hrem := jm_rem_n hu.1 (by omega) hall.1 (by omega)
          have hr0 := Int.emod_nonneg (jm_ushr (sRnd (ξ 133 32)) 8) (show sNx ρ (sLay ρ w' n') (-1) ≠ 0 by omega)
          have hr1 := Int.emod_lt_of_pos (jm_ushr (sRnd (ξ 133 32)) 8) hall.1
          generalize hx2 : jm_ushr (sRnd (ξ 133 32)) 8 = y at hrem hr0 hr1 g7
          generalize hrr : jm_rem y (sNx ρ (sLay ρ w' n') (-1)) = r at hrem g7
          have hq1 : mQ ξ (jm_up ξ 133 32 (sRnd (ξ 133 32))) → True := fun _ => trivial
          have e0 : ∀ p, p ≠ 133 → jm_up ξ 133 32 (sRnd (ξ 133 32)) p = ξ p := fun p hp => jm_up_ne hp
          have ru1 : mRu (jm_up ξ 133 32 (sRnd (ξ 133 32))) 0 ρ := fun i i0 i1 => by rw [e0 143 (by decide)]; exact g4 i i0 i1
          have bd1 : mBd (jm_up ξ 133 32 (sRnd (ξ 133 32))) 0 (sLay ρ w' n') := ⟨by rw [e0 150 (by decide)]; exact g5.1, by rw [e0 151 (by decide)]; exact g5.2.1, fun f t f0 f1 t0 t1 => by rw [e0 _ (by omega)]; exact g5.2.2 f t f0 f1 t0 t1⟩
          have tl1 : mTl (jm_up ξ 133 32 (sRnd (ξ 133 32))) ρ w' n' := ⟨fun i i0 i1 => by rw [e0 135 (by decide)]; exact g3.2.1.1 i i0 i1, by rw [e0 135 (by decide)]; exact g3.2.1.2.1, fun i i0 i1 => by rw [e0 135 (by decide)]; exact g3.2.1.2.2 i i0 i1⟩
          refine c_M_nextWord hW (by rw [e0 135 (by decide)]; exact g3.p0) (by rw [e0 135 (by decide)]; exact g3.p1) ru1 bd1 hG (jq_I ?_)
          obtain ⟨a, j, a2, a3, j0, j1, j2, j3⟩ := sNw_in (sMay ρ (sLay ρ w' n')) r (ρ 1).toNat (by have := hW.2.2.2.1; omega) (ρ 0).toNat 0 0 (by decide) (by decide) (by omega) (by show r < sNx ρ (sLay ρ w' n') (-1); omega)
          have hv : sNx ρ (sLay ρ w' n') r = 16 * a + j := j3
          have hP := hW.2.1
          have hK := hW.2.2.2.1
          have q1 : (16 * a + j) / 16 = a := by omega
          have q2 : (16 * a + j) % 16 = j := by omega
          rw [hv, q1, q2] at g7
          rw [hv, jm_quo_n (by omega) (by omega) (by decide) (by decide), jm_rem_n (by omega) (by omega) (by decide) (by decide), q1, q2]
          have hwr : sWr ρ (sLay ρ w' n') a j = 0 := of_decide_eq_true j2
          refine c_M_push (by decide) hW ru1 bd1 (by omega) (by omega) (fun s s0 s1 => ?_) ⟨hG.2.2.1, by have := hG.2.2.2.1; omega⟩ (by omega) (by omega) (by omega) (by omega) (fun ξ2 bd2 f2 _ => c_M_keepWord (n := n') ?_ (by omega) (fun ξ3 k1 k2 k3 k4 k5 _ => ?_))
          · have := (hG.2.2.2.2 s s0 s1).2.2.2.2.1
            omega
          · rw [f2.1 135 (by decide)]; exact tl1.2.1
          · rw [jm_wr_id (a := c + 1) (by omega) (by omega)]
            have e135 : ∀ i : Int, i ≠ 60 → i ≠ 61 + 2 * n' → i ≠ 62 + 2 * n' → ξ3 135 i = ξ 135 i := fun i i1 i2 i3 => by rw [k2 i i1 i2 i3, f2.1 135 (by decide), e0 135 (by decide)]
            have e133 : ∀ i, i ≠ 32 → ξ3 133 i = ξ 133 i := fun i hi => by rw [k1 133 (by decide), f2.1 133 (by decide), jm_up_i hi]
            have e32 : ξ3 133 32 = sRnd (ξ 133 32) := by rw [k1 133 (by decide), f2.1 133 (by decide)]; exact jm_up_at
            refine ih (sSay w' n' a j) (n' + 1) (c + 1) ξ3 (by omega) (by omega) ⟨hW, ⟨fun i i0 i1 => ?_, k3, fun i i0 i1 => ?_⟩, by omega, sVW_say g3.2.2.2 (by omega) (by omega) (by omega) (by omega) hwr⟩ ?_ ?_ ?_ ?_
            · rw [e135 i (by omega) (by omega) (by omega)]; exact g3.2.1.1 i i0 i1
            · unfold sSay
              by_cases c1 : i = 2 * n'
              · rw [if_pos c1, c1]; exact k4
              · rw [if_neg c1]
                by_cases c2 : i = 2 * n' + 1
                · rw [if_pos c2, c2, show (61 : Int) + (2 * n' + 1) = 62 + 2 * n' by omega]; exact k5
                · rw [if_neg c2, e135 _ (by omega) (by omega) (by omega)]
                  exact g3.2.1.2.2 i i0 (by omega)
            · exact fun i i0 i1 => by rw [k1 143 (by decide)]; exact mRu_of f2 ru1 i i0 i1
            · rw [sLay_say]
              exact ⟨by rw [k1 150 (by decide)]; exact bd2.1, by rw [k1 151 (by decide)]; exact bd2.2.1, fun f t f0 f1 t0 t1 => by rw [k1 _ (by omega)]; exact bd2.2.2 f t f0 f1 t0 t1⟩
            · exact g6.trans ⟨fun p p1 p2 p3 => by rw [k1 p p2, f2.1 p (by omega), e0 p p1], fun i i1 i2 => e133 i i2, fun i hi => e135 i (by omega) (by omega) (by omega)⟩
            · rw [e32]; exact g7
        · rw [if_pos (show sNx ρ (sLay ρ w' n') (-1) = 0 by omega)] at g7
          rw [← g7] at g
          exact g ξ g6 g3
  have e0 : ∀ p, p ≠ 133 → jm_up ν 133 32 x p = ν p := fun p hp => jm_up_ne hp
  have hν := mOK_of hq hm
  refine key k.toNat w n 0 _ (by omega) (by decide) ⟨hW, ⟨fun i i0 i1 => by rw [e0 135 (by decide)]; exact hν.2.1.1 i i0 i1, by rw [e0 135 (by decide)]; exact hν.2.1.2.1, fun i i0 i1 => by rw [e0 135 (by decide)]; exact hν.2.1.2.2 i i0 i1⟩, h0.2.2.1, h0.2.2.2⟩ (fun i i0 i1 => by rw [e0 143 (by decide)]; exact hr i i0 i1)
    ⟨by rw [e0 150 (by decide)]; exact hb.1, by rw [e0 151 (by decide)]; exact hb.2.1, fun f t f0 f1 t0 t1 => by rw [e0 _ (by omega)]; exact hb.2.2 f t f0 f1 t0 t1⟩ ?_ ?_
  · exact (mDn_of (mQ_0.trans hq)).trans ⟨fun p p1 p2 p3 => e0 p p1, fun i i1 i2 => jm_up_i i2, fun i hi => by rw [e0 135 (by decide)]⟩
  · rw [jm_up_at]
end ME
