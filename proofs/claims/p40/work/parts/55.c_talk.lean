/-! the law asks the class for its talk, word by word, and takes it back -/
section LC
variable {E : jm_E} {C2 S2 cs sl : Nat} {μ ξ : jm_M} {Q : Option jm_V → jm_M → Prop} {ρ : sR} {w : Int → Int} {n : Nat}
theorem word_of {t x a : Int} (hT : tTl μ ρ w n) (t0 : 0 ≤ t) (t1 : t < n) (x0 : 0 ≤ x) (x7 : x ≤ 7) (ha : sWord ρ (sLay ρ w n) t x = a) (h : Q (some (jm_I a)) μ) : jm_Ch E m_L_word [(0, 6, 7, 161)] 60 [jm_R 0, jm_I t, jm_I x] μ Q :=
  x_L_word (d := 53) hT (fun z => absurd ⟨⟨t0, t1⟩, x0, x7⟩ z) (fun _ _ _ _ => by rw [ha]; exact h)
theorem word_no {t x : Int} (hT : tTl μ ρ w n) (hno : ¬ ((0 ≤ t ∧ t < n) ∧ 0 ≤ x ∧ x ≤ 7)) (h : Q (some (jm_I (-7))) μ) : jm_Ch E m_L_word [(0, 6, 7, 161)] 60 [jm_R 0, jm_I t, jm_I x] μ Q :=
  x_L_word (d := 53) hT (fun _ => h) (fun z1 z2 z3 z4 => absurd ⟨⟨z1, z2⟩, z3, z4⟩ hno)
theorem c_L_state {t : Int} {b : sB} (h12 : n ≤ 12) (hn : b.2.1 = n) (hB : pBd μ b) (hG : sGB ρ b) (hV : pVf μ ρ) (t0 : 0 ≤ t) (t1 : t < n) (hk : 0 ≤ b.1 1 t ∧ b.1 1 t < 7) (h : Q (some (jm_I (sSt ρ b t))) μ) : jc E m_L_state 60 [jm_R 134, jm_R 136, jm_I t, jm_I (n : Int)] μ Q := by
  obtain ⟨-, -, -, -, -, -, -, -, -, p11, vsp, vk⟩ := hV
  have b5 := (hB.2 t t0 (by omega)).2.2.2
  have w1 : jm_wr (36 + t) = 36 + t := jm_wr_id (by omega) (by omega)
  have w2 : jm_wr ((n : Int) - 1) = (n : Int) - 1 := jm_wr_id (by omega) (by omega)
  have w3 : jm_wr (t + sDu ρ 1) = t + sDu ρ 1 := jm_wr_id (by omega) (by omega)
  have hst := hG.st (t := t) t0 (by omega)
  have one : b.1 5 t = 4 → sDu ρ (b.1 1 t) = sDu ρ 1 := by
    intro e4
    have h2 := hst.1.mpr (by omega)
    rw [(vk _ hk.1 hk.2).2.2.1] at h2
    have : b.1 1 t = 1 := by
      unfold pDo at h2
      split at h2 <;> omega
    rw [this]
  refine e_L_state (d := 59) (fun _ => ?_)
  rw [w1, w2, b5, p11, w3]
  unfold sSt at h
  rw [hn] at h
  refine ⟨by omega, fun z => ?_, fun z => ⟨fun y => ?_, fun y => ?_⟩⟩
  · rw [if_neg (fun q => z q.1)] at h; exact h
  · rw [if_neg (fun q => absurd q.2 (by rw [one q.1]; omega))] at h; exact h
  · rw [if_pos ⟨by omega, by rw [one (by omega)]; omega⟩] at h; exact h
theorem law_word {t : Nat} (hc : cs + 9 ≤ C2) (hs : sl + 120 ≤ S2) (hS : pSpk ρ w n μ) (hW : sWR ρ) (n11 : n ≤ 11) (hB : pBd μ (sLay ρ w n)) (t1 : t < n)
    (h : jm_G E m_L_law (jm_rm (60 + 1) C2 S2) jm_N jm_N (cs + 8) (sl + 48) 451 [none, some (jm_R 0), none, some (jm_R 134), some (jm_R 135), some (jm_R 136), none, none, none, some (jm_I (n : Int)), some (jm_I ((t : Int) + 1)), none, none, none, none] [] μ Q) :
    jm_G E m_L_law (jm_rm (60 + 1) C2 S2) jm_N jm_N cs sl 451 [none, some (jm_R 0), none, some (jm_R 134), some (jm_R 135), some (jm_R 136), none, none, none, some (jm_I (n : Int)), some (jm_I (t : Int)), none, none, none, none] [] μ Q := by
  obtain ⟨hT, hV, hr, hSW⟩ := hS
  have hV0 := hV
  obtain ⟨v0, v1, v3, p0, p1, p2, p6, p7, p8, p11, vsp, vk⟩ := hV0
  have hn : (sLay ρ w n).2.1 = n := sLay_n n
  have hG := sLay_good hW n (by omega) hSW
  have hwt := hSW t t1
  have g0 : sWord ρ (sLay ρ w n) (t : Int) 0 = w (2 * (t : Int)) := (sLay_w (ρ := ρ) (w := w) n t t1).1
  have g1 : sWord ρ (sLay ρ w n) (t : Int) 1 = w (2 * (t : Int) + 1) := (sLay_w (ρ := ρ) (w := w) n t t1).2
  have row : ∀ j : Nat, j < n → jm_shr (μ 135 (j : Int)) 4 = w (2 * (j : Int)) ∧ jm_and (μ 135 (j : Int)) 15 = w (2 * (j : Int) + 1) := fun j hj => by
    have q := hSW j hj
    rw [hr j hj]
    exact pRow q.1.1 (by omega) q.2.1.1 (by omega)
  obtain ⟨s0, s1⟩ := row t t1
  obtain ⟨b2, b3, b4, b5⟩ := hB.2 (t : Int) (by omega) (by omega)
  have hk : 0 ≤ (sLay ρ w n).1 1 (t : Int) ∧ (sLay ρ w n).1 1 (t : Int) < 7 := by
    have : (sLay ρ w n).1 1 (t : Int) = w (2 * (t : Int) + 1) := g1
    rw [this]
    exact ⟨hwt.2.1.1, by omega⟩
  have hdo := (vk _ hk.1 hk.2).2.2.1
  have k1 : jm_wr (12 + (t : Int)) = 12 + (t : Int) := jm_wr_id (by omega) (by omega)
  have k2 : jm_wr (24 + (t : Int)) = 24 + (t : Int) := jm_wr_id (by omega) (by omega)
  have k3 : jm_wr ((t : Int) + 1) = (t : Int) + 1 := jm_wr_id (by omega) (by omega)
  refine r_L_law_451 (d := 60) hc hs ⟨fun z => absurd z (by omega), fun _ => ⟨by omega, ?_⟩⟩
  rw [k1, k2, k3]
  refine ⟨fun hk1 => ?_, fun hk1 => ?_⟩
  · have nd : sDo ρ ((sLay ρ w n).1 1 (t : Int)) ≠ 2 := by
      rw [hdo]
      have e : (sLay ρ w n).1 1 (t : Int) = w (2 * (t : Int) + 1) := g1
      rw [s1] at hk1
      unfold pDo
      split <;> omega
    have g6 : sWord ρ (sLay ρ w n) (t : Int) 6 = -1 := by
      show (if sDo ρ ((sLay ρ w n).1 1 (t : Int)) = 2 then (sLay ρ w n).1 0 ((sLay ρ w n).1 2 (t : Int)) else -1) = -1
      rw [if_neg nd]
    have g7 : sWord ρ (sLay ρ w n) (t : Int) 7 = -1 := by
      show (if sDo ρ ((sLay ρ w n).1 1 (t : Int)) = 2 then (t : Int) + sDu ρ ((sLay ρ w n).1 1 (t : Int)) else -1) = -1
      rw [if_neg nd]
    refine word_of hT (by omega) (by omega) (by decide) (by decide) g0 (jq_I ⟨fun z => absurd s0.symm z, fun _ => ?_⟩)
    refine word_of hT (by omega) (by omega) (by decide) (by decide) g1 (jq_I ⟨fun z => absurd s1.symm z, fun _ => ?_⟩)
    refine word_of hT (by omega) (by omega) (by decide) (by decide) rfl (jq_I ⟨by omega, fun z => absurd b2.symm z, fun _ => ?_⟩)
    refine word_of hT (by omega) (by omega) (by decide) (by decide) rfl (jq_I ⟨by omega, fun z => absurd b3.symm z, fun _ => ?_⟩)
    refine word_of hT (by omega) (by omega) (by decide) (by decide) rfl (jq_I ⟨by omega, fun z => absurd b4.symm z, fun _ => ?_⟩)
    refine word_of hT (by omega) (by omega) (by decide) (by decide) rfl (jq_I ?_)
    refine c_L_state (b := sLay ρ w n) (by omega) hn hB hG hV (by omega) (by omega) hk (jq_I ⟨fun z => absurd rfl z, fun _ => ?_⟩)
    refine word_of hT (by omega) (by omega) (by decide) (by decide) g6 (jq_I ⟨fun z => absurd rfl z, fun _ => ?_⟩)
    exact word_of hT (by omega) (by omega) (by decide) (by decide) g7 (jq_I ⟨fun _ => h, fun z => absurd rfl z⟩)
  · have e1 : (sLay ρ w n).1 1 (t : Int) = 1 := by
      have e : (sLay ρ w n).1 1 (t : Int) = w (2 * (t : Int) + 1) := g1
      rw [e, ← s1]
      omega
    have nd : sDo ρ ((sLay ρ w n).1 1 (t : Int)) = 2 := by
      rw [hdo, e1]
      rfl
    have h2 := (hG.st (t := (t : Int)) (by omega) (by omega)).2 ((hG.st (t := (t : Int)) (by omega) (by omega)).1.mp nd)
    have g6 : sWord ρ (sLay ρ w n) (t : Int) 6 = (sLay ρ w n).1 0 ((sLay ρ w n).1 2 (t : Int)) := by
      show (if sDo ρ ((sLay ρ w n).1 1 (t : Int)) = 2 then (sLay ρ w n).1 0 ((sLay ρ w n).1 2 (t : Int)) else -1) = _
      rw [if_pos nd]
    have g7 : sWord ρ (sLay ρ w n) (t : Int) 7 = (t : Int) + sDu ρ 1 := by
      show (if sDo ρ ((sLay ρ w n).1 1 (t : Int)) = 2 then (t : Int) + sDu ρ ((sLay ρ w n).1 1 (t : Int)) else -1) = _
      rw [if_pos nd, e1]
    have s6 : (sLay ρ w n).1 0 ((sLay ρ w n).1 2 (t : Int)) = jm_shr (μ 135 (μ 136 (t : Int))) 4 := by
      rw [b2]
      have r := row ((sLay ρ w n).1 2 (t : Int)).toNat (by omega)
      have y := sLay_w (ρ := ρ) (w := w) n ((sLay ρ w n).1 2 (t : Int)).toNat (by omega)
      have e : ((((sLay ρ w n).1 2 (t : Int)).toNat : Nat) : Int) = (sLay ρ w n).1 2 (t : Int) := by omega
      rw [e] at r y
      rw [r.1, y.1]
    have s7 : (t : Int) + sDu ρ 1 = jm_wr ((t : Int) + μ 134 11) := by
      rw [p11, jm_wr_id (by omega) (by omega)]
    refine word_of hT (by omega) (by omega) (by decide) (by decide) g0 (jq_I ⟨fun z => absurd s0.symm z, fun _ => ?_⟩)
    refine word_of hT (by omega) (by omega) (by decide) (by decide) g1 (jq_I ⟨fun z => absurd s1.symm z, fun _ => ?_⟩)
    refine word_of hT (by omega) (by omega) (by decide) (by decide) rfl (jq_I ⟨by omega, fun z => absurd b2.symm z, fun _ => ?_⟩)
    refine word_of hT (by omega) (by omega) (by decide) (by decide) rfl (jq_I ⟨by omega, fun z => absurd b3.symm z, fun _ => ?_⟩)
    refine word_of hT (by omega) (by omega) (by decide) (by decide) rfl (jq_I ⟨by omega, fun z => absurd b4.symm z, fun _ => ?_⟩)
    refine word_of hT (by omega) (by omega) (by decide) (by decide) rfl (jq_I ?_)
    refine c_L_state (b := sLay ρ w n) (by omega) hn hB hG hV (by omega) (by omega) hk (jq_I ⟨fun z => absurd rfl z, fun _ => ?_⟩)
    refine word_of hT (by omega) (by omega) (by decide) (by decide) g6 (jq_I ⟨by rw [b2]; omega, fun z => absurd s6 z, fun _ => ?_⟩)
    exact word_of hT (by omega) (by omega) (by decide) (by decide) g7 (jq_I ⟨fun _ => h, fun z => absurd s7 z⟩)
theorem law_451 (hc : cs + 100 ≤ C2) (hs : sl + 666 ≤ S2) (hS : pSpk ρ w n μ) (hW : sWR ρ) (n11 : n ≤ 11) (hB : pBd μ (sLay ρ w n))
    (h : ∀ cs1 sl1 : Nat, cs1 ≤ cs + 91 → sl1 ≤ sl + 546 → jm_G E m_L_law (jm_rm (60 + 1) C2 S2) jm_N jm_N cs1 sl1 688 [none, some (jm_R 0), none, some (jm_R 134), some (jm_R 135), some (jm_R 136), none, none, none, some (jm_I (n : Int)), some (jm_I 0), none, none, none, none] [] μ Q) :
    jm_G E m_L_law (jm_rm (60 + 1) C2 S2) jm_N jm_N cs sl 451 [none, some (jm_R 0), none, some (jm_R 134), some (jm_R 135), some (jm_R 136), none, none, none, some (jm_I (n : Int)), some (jm_I 0), none, none, none, none] [] μ Q := by
  have loop : ∀ (f t cs1 sl1 : Nat), t + f = n → cs1 + 8 * f ≤ cs + 88 → sl1 + 48 * f ≤ sl + 528 → jm_G E m_L_law (jm_rm (60 + 1) C2 S2) jm_N jm_N cs1 sl1 451 [none, some (jm_R 0), none, some (jm_R 134), some (jm_R 135), some (jm_R 136), none, none, none, some (jm_I (n : Int)), some (jm_I (t : Int)), none, none, none, none] [] μ Q := by
    intro f
    induction f with
    | zero =>
      intro t cs1 sl1 ht h1 h2
      refine r_L_law_451 (d := 60) (by omega) (by omega) ⟨fun _ => ?_, fun z => absurd (by omega) z⟩
      refine word_no hS.1 (by omega) (jq_I ⟨fun z => absurd rfl z, fun _ => ?_⟩)
      refine word_no hS.1 (by omega) (jq_I ⟨fun z => absurd rfl z, fun _ => ?_⟩)
      exact word_no hS.1 (by omega) (jq_I ⟨fun _ => h (cs1 + 3) (sl1 + 18) (by omega) (by omega), fun z => absurd rfl z⟩)
    | succ f ih =>
      intro t cs1 sl1 ht h1 h2
      refine law_word (by omega) (by omega) hS hW n11 hB (by omega) ?_
      have := ih (t + 1) (cs1 + 8) (sl1 + 48) (by omega) (by omega) (by omega)
      exact this
  exact loop n 0 cs sl (by omega) (by omega) (by omega)
theorem pSpk.up {v : Int} (h : pSpk ρ w n μ) : pSpk ρ w n (jm_up μ 135 (n : Int) v) :=
  ⟨tTl_of (fun q hq => jm_up_ne (by omega)) h.1, h.2.1.fr (jm_up_ne (by decide)), fun t ht => by rw [jm_up_i (by omega)]; exact h.2.2.1 t ht, h.2.2.2⟩
theorem law_702 {who : Int} (hc : cs + 9 ≤ C2) (hs : sl + 120 ≤ S2) (hS : pSpk ρ w n μ) (hW : sWR ρ) (n11 : n ≤ 11) (u0 : 0 ≤ who) (u1 : who < ρ 0)
    (h : ∀ ξ, pSpk ρ w n ξ → jm_G E m_L_law (jm_rm (60 + 1) C2 S2) jm_N jm_N cs sl 688 [none, some (jm_R 0), none, some (jm_R 134), some (jm_R 135), some (jm_R 136), none, none, none, some (jm_I (n : Int)), some (jm_I (who + 1)), none, none, none, none] [] ξ Q) :
    jm_G E m_L_law (jm_rm (60 + 1) C2 S2) jm_N jm_N cs sl 702 [none, some (jm_R 0), none, some (jm_R 134), some (jm_R 135), some (jm_R 136), none, none, none, some (jm_I (n : Int)), some (jm_I who), some (jm_I 0), some (jm_I 0), none, none] [] μ Q := by
  have v0 := hS.2.1.1
  have v1 := hS.2.1.2.1
  have loop : ∀ (f k : Nat) (m : Int) (ξ : jm_M), k + f = 7 → 0 ≤ m → m < 1024 → sMsk (fun k => decide (sWr ρ (sLay ρ w n) who k = 0)) f (k : Int) m = sMsk (fun k => decide (sWr ρ (sLay ρ w n) who k = 0)) 7 0 0 → pSpk ρ w n ξ → jm_G E m_L_law (jm_rm (60 + 1) C2 S2) jm_N jm_N cs sl 702 [none, some (jm_R 0), none, some (jm_R 134), some (jm_R 135), some (jm_R 136), none, none, none, some (jm_I (n : Int)), some (jm_I who), some (jm_I m), some (jm_I (k : Int)), none, none] [] ξ Q := by
    intro f
    induction f with
    | zero =>
      intro k m ξ hk m0 m1 hm hξ
      have w1 : jm_wr (who + 1) = who + 1 := jm_wr_id (by omega) (by omega)
      refine r_L_law_702 (d := 60) hc hs ⟨fun _ => ?_, fun z => absurd (by omega) z⟩
      rw [w1]
      refine c_C_may (d := 54) hξ.1 (fun z => absurd ⟨u0, u1⟩ z) (fun _ _ => jq_I ⟨fun _ => h ξ hξ, fun z => absurd ?_ z⟩)
      rw [if_pos (by omega), v1]
      exact hm.symm
    | succ f ih =>
      intro k m ξ hk m0 m1 hm hξ
      have w1 : jm_wr ((n : Int) + 1) = (n : Int) + 1 := jm_wr_id (by omega) (by omega)
      have w2 : jm_wr (16 * who) = 16 * who := jm_wr_id (by omega) (by omega)
      have w3 : jm_wr (16 * who + (k : Int)) = 16 * who + (k : Int) := jm_wr_id (by omega) (by omega)
      have w4 : jm_wr ((k : Int) + 1) = ((k + 1 : Nat) : Int) := by rw [jm_wr_id (by omega) (by omega)]; omega
      refine r_L_law_702 (d := 60) hc hs ⟨fun z => absurd z (by omega), fun _ => ⟨by omega, fun x6 _ m7 hm7 => ?_⟩⟩
      rw [w2, w3] at hm7
      rw [w1, w4, hm7]
      have hT : sTry ρ w n who (k : Int) = sWr ρ (sLay ρ w n) who (k : Int) := sTry_in u0 u1 (by omega) (by omega) (by omega)
      have hmk : sMsk (fun k => decide (sWr ρ (sLay ρ w n) who k = 0)) f ((k : Int) + 1) (if decide (sWr ρ (sLay ρ w n) who (k : Int) = 0) = true then sor m (k : Int) else m) = sMsk (fun k => decide (sWr ρ (sLay ρ w n) who k = 0)) 7 0 0 := hm
      have ek : ((k + 1 : Nat) : Int) = (k : Int) + 1 := by omega
      refine live_more (d := 59) n11 hξ hW u0 u1 (by omega) (by omega) (fun hne ν f1 f2 => jq_I ⟨fun _ => ?_, fun z => absurd (by omega) z⟩) (fun h0 ν f1 f2 => jq_I ⟨fun z => absurd z (by decide), fun _ => ?_⟩)
      · have hν := hξ.up.f6 f1
        refine c_C_wrong (d := 55) hν.1 (jq_I ⟨fun _ m15 hm15 => ?_, fun z => absurd (by rw [hT, f2]) z⟩)
        rw [hm15]
        rw [decide_eq_false hne, if_neg (by decide)] at hmk
        exact ih (k + 1) m _ (by omega) m0 m1 (by rw [ek]; exact hmk) hν.up
      · have hν := hξ.up.f6 f1
        refine c_C_wrong (d := 55) hν.1 (jq_I ⟨fun _ x20 hx20 m21 hm21 => ?_, fun z => absurd (by rw [hT, f2]; exact h0) z⟩)
        rw [jm_or_bit m0 (by omega) (by omega) (by omega)] at hx20
        rw [hm21, hx20]
        rw [decide_eq_true h0, if_pos rfl] at hmk
        have hb := sor_lt (m := m) (k := (k : Int)) (n := 10) m0 (by omega) (by omega) (by omega)
        exact ih (k + 1) _ _ (by omega) hb.1 (by omega) (by rw [ek]; exact hmk) hν.up
  exact loop 7 0 0 μ (by decide) (by decide) (by decide) rfl hS
theorem law_688 (hc : cs + 9 ≤ C2) (hs : sl + 120 ≤ S2) (hS : pSpk ρ w n μ) (hW : sWR ρ) (n11 : n ≤ 11)
    (h0 : n = 0 → ∀ ξ, pSpk ρ w 0 ξ → jm_G E m_L_law (jm_rm (60 + 1) C2 S2) jm_N jm_N cs sl 428 [none, some (jm_R 0), none, some (jm_R 134), some (jm_R 135), some (jm_R 136), none, none, none, some (jm_I (-1)), none, none, none, none, none] [] ξ Q)
    (h1 : ∀ m : Nat, n = m + 1 → ∀ ξ, pSpk ρ w m ξ → jm_G E m_L_law (jm_rm (60 + 1) C2 S2) jm_N jm_N cs sl 428 [none, some (jm_R 0), none, some (jm_R 134), some (jm_R 135), some (jm_R 136), none, none, none, some (jm_I (m : Int)), none, none, none, none, none] [] ξ Q) :
    jm_G E m_L_law (jm_rm (60 + 1) C2 S2) jm_N jm_N cs sl 688 [none, some (jm_R 0), none, some (jm_R 134), some (jm_R 135), some (jm_R 136), none, none, none, some (jm_I (n : Int)), some (jm_I 0), none, none, none, none] [] μ Q := by
  have v0 := hS.2.1.1
  have loop : ∀ (f a : Nat) (ξ : jm_M), (a : Int) + f = ρ 0 → pSpk ρ w n ξ → jm_G E m_L_law (jm_rm (60 + 1) C2 S2) jm_N jm_N cs sl 688 [none, some (jm_R 0), none, some (jm_R 134), some (jm_R 135), some (jm_R 136), none, none, none, some (jm_I (n : Int)), some (jm_I (a : Int)), none, none, none, none] [] ξ Q := by
    intro f
    induction f with
    | zero =>
      intro a ξ ha hξ
      have e0 : ξ 134 0 = ρ 0 := hξ.2.1.2.2.2.1
      have w1 : jm_wr ((n : Int) - 1) = (n : Int) - 1 := jm_wr_id (by omega) (by omega)
      have w2 : jm_wr ((n : Int) + (-1)) = (n : Int) - 1 := by rw [jm_wr_id (by omega) (by omega)]; omega
      refine r_L_law_688 (d := 60) hc hs ⟨fun _ => ?_, fun z => absurd (by omega) z⟩
      rw [w1, w2]
      refine c_C_undo (d := 57) hξ.1 hξ.2.2.2 (by omega) (fun hn => jq_I ⟨fun _ => ?_, fun z => absurd (by omega) z⟩) (fun hn ν f1 f2 => jq_I ⟨fun _ => ?_, fun z => absurd rfl z⟩)
      · have := h0 hn ξ (by rw [← hn]; exact hξ)
        rw [show (n : Int) - 1 = -1 by omega]
        exact this
      · have e : ∀ q, 132 ≤ q → ν q = ξ q := fun q hq => f1.1 q (by omega)
        have := h1 (n - 1) (by omega) ν ⟨f2, hξ.2.1.fr (e 134 (by decide)), fun t ht => by rw [e 135 (by decide)]; exact hξ.2.2.1 t (by omega), fun t ht => hξ.2.2.2 t (by omega)⟩
        rw [show (n : Int) - 1 = ((n - 1 : Nat) : Int) by omega]
        exact this
    | succ f ih =>
      intro a ξ ha hξ
      have e0 : ξ 134 0 = ρ 0 := hξ.2.1.2.2.2.1
      refine r_L_law_688 (d := 60) hc hs ⟨fun z => absurd z (by omega), fun _ => ?_⟩
      refine law_702 hc hs hξ hW n11 (by omega) (by omega) (fun κ hκ => ?_)
      have := ih (a + 1) κ (by omega) hκ
      exact this
  have := loop (ρ 0).toNat 0 μ (by omega) hS
  exact this
theorem law_end (hc : cs + 9 ≤ C2) (hs : sl + 120 ≤ S2) (hS : pSpk ρ w 0 μ) (hW : sWR ρ) (h : Q (some (jm_I 1)) μ) : jm_G E m_L_law (jm_rm (60 + 1) C2 S2) jm_N jm_N cs sl 428 [none, some (jm_R 0), none, some (jm_R 134), some (jm_R 135), some (jm_R 136), none, none, none, some (jm_I (-1)), none, none, none, none, none] [] μ Q := by
  obtain ⟨hT, hV, -, -⟩ := hS
  have v1 : ρ 1 = 7 := hV.2.1
  have e0 : μ 134 0 = ρ 0 := hV.2.2.2.1
  have t1 : sTry ρ w 0 (ρ 0) 0 = -1 := by
    unfold sTry
    rw [if_neg (fun z => absurd z.1.2 (by omega))]
  have t2 : sTry ρ w 0 0 7 = -1 := by
    unfold sTry
    rw [if_neg (fun z => absurd z.2.1.2 (by omega))]
  refine r_L_law_428 (d := 60) hc hs ⟨fun _ => ?_, fun z => absurd (by decide) z⟩
  rw [e0]
  refine c_C_rank (d := 58) hT (jq_I ⟨fun z => absurd (if_neg (by omega)) z, fun _ => ?_⟩)
  refine x_L_kind (d := 53) hW hT.1 (fun _ => jq_I ⟨fun z => absurd rfl z, fun _ => ?_⟩) (fun _ z _ _ => absurd z (by omega))
  refine x_L_kind (d := 53) hW hT.1 (fun _ => jq_I ⟨fun z => absurd rfl z, fun _ => ?_⟩) (fun _ _ _ z => absurd z (by decide))
  rw [e0]
  refine c_C_say (d := 55) hT (fun z => absurd (t1.symm.trans z) (by decide)) (fun _ => jq_I ⟨fun z => absurd t1 z, fun _ => ?_⟩)
  refine c_C_wrong (d := 55) hT (jq_I ⟨fun z => absurd t2 z, fun _ => ?_⟩)
  refine c_C_may (d := 54) hT (fun _ => jq_I ⟨fun z => absurd rfl z, fun _ => ?_⟩) (fun z _ => absurd z (by decide))
  exact c_C_count6 (d := 59) hT (jq_I ⟨fun z => absurd rfl z, fun _ => h⟩)
theorem law_428 (hW : sWR ρ) (hQ : ∀ ξ, Q (some (jm_I 1)) ξ) : ∀ (n cs sl : Nat) (μ : jm_M), n ≤ 11 → cs + 91 * n + 100 ≤ C2 → sl + 546 * n + 666 ≤ S2 → pSpk ρ w n μ → jm_G E m_L_law (jm_rm (60 + 1) C2 S2) jm_N jm_N cs sl 428 [none, some (jm_R 0), none, some (jm_R 134), some (jm_R 135), some (jm_R 136), none, none, none, some (jm_I (n : Int)), none, none, none, none, none] [] μ Q := by
  intro n
  induction n with
  | zero =>
    intro cs sl μ n11 hc hs hS
    refine r_L_law_428 (d := 60) (by omega) (by omega) ⟨fun z => absurd z (by omega), fun _ => live_said (d := 59) (by omega) hS hW (fun ν f1 f2 => jq_I ⟨fun _ => ?_, fun z => absurd (by decide) z⟩)⟩
    refine law_451 (by omega) (by omega) (hS.f6 f1) hW n11 f2 (fun cs1 sl1 h1 h2 => ?_)
    exact law_688 (by omega) (by omega) (hS.f6 f1) hW n11 (fun _ ξ hξ => law_end (by omega) (by omega) hξ hW (hQ ξ)) (fun m hm => absurd hm (by omega))
  | succ n ih =>
    intro cs sl μ n11 hc hs hS
    refine r_L_law_428 (d := 60) (by omega) (by omega) ⟨fun z => absurd z (by omega), fun _ => live_said (d := 59) (by omega) hS hW (fun ν f1 f2 => jq_I ⟨fun _ => ?_, fun z => absurd (by decide) z⟩)⟩
    refine law_451 (by omega) (by omega) (hS.f6 f1) hW n11 f2 (fun cs1 sl1 h1 h2 => ?_)
    refine law_688 (by omega) (by omega) (hS.f6 f1) hW n11 (fun hn => absurd hn (by omega)) (fun m hm ξ hξ => ?_)
    have e : m = n := by omega
    rw [e] at hξ ⊢
    exact ih cs1 sl1 ξ (by omega) (by omega) (by omega) hξ
theorem law_390 (hc : cs + 1101 ≤ C2) (hs : sl + 6672 ≤ S2) (hx : jm_xp E ≠ 0) (hW : sWR ρ) (hS : pSpk ρ w 0 μ) (hQ : ∀ ξ, Q (some (jm_I 1)) ξ) :
    jm_G E m_L_law (jm_rm (60 + 1) C2 S2) jm_N jm_N cs sl 390 [none, some (jm_R 0), none, some (jm_R 134), some (jm_R 135), some (jm_R 136), some (jm_R ((jm_xp E : Int))), none, none, none, none, none, none, none, none] [] μ Q := by
  refine r_L_law_390 (d := 60) (by omega) (by omega) ?_
  refine c_L_speak (d := 54) hx (by decide) hW hS (fun ν w' n' hn hs' hB => jq_I ⟨fun z => absurd z (by omega), fun _ => ?_⟩)
  refine c_C_threads (d := 59) hs'.1 (jq_I ⟨fun _ => ?_, fun z => absurd hB.1.symm z⟩)
  exact law_428 hW hQ n' (cs + 0) (sl + 0) ν hn (by omega) (by omega) hs'
end LC
/-- the law, from its first instruction -/
theorem q_law {E : jm_E} {C2 S2 : Nat} (hx : jm_xp E = 0) (hL : jm_sL E < 2147483648) (hC : 1300 ≤ C2) (hS : 16400 ≤ S2) : jm_G E m_L_law (jm_rm 61 C2 S2) jm_N 0 0 0 0 [some (jm_R (-2)), none, none, none, none, none, none, none, none, none, none, none, none, none, none] [] (fun _ _ => 0) (fun (o : Option jm_V) (_ : jm_M) => o = some (jm_I 1)) := by
  refine r_L_law_0 (d := 57) (by omega) (by omega) ?_
  refine law_30 (by omega) (by omega) hL (fun ν ρ hV hW hT => ?_)
  refine law_210 (by omega) (by omega) hV hT ?_
  refine law_245 (by omega) (by omega) hx hV hW hT.1 (fun z hz => ?_)
  have h133 : jm_N = 137 := rfl
  have hx2 : jm_xp (jm_setx E z) ≠ 0 := show z ≠ 0 by omega
  refine law_349 (E := jm_setx E z) (by omega) (by omega) hx2 hL ?_
  exact law_390 (E := jm_setx E z) (w := fun _ => 0) (by omega) (by omega) hx2 hW ⟨hT, hV, fun t ht => absurd ht (Nat.not_lt_zero _), fun t ht => absurd ht (Nat.not_lt_zero _)⟩ (fun _ => rfl)
