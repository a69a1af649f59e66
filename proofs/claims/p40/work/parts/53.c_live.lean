/-! the law's own talk: one word more; the whole of it -/
theorem pVf.fr {a b : jm_M} {ρ : sR} (h : b 134 = a 134) (g : pVf a ρ) : pVf b ρ := by
  unfold pVf at g ⊢
  rw [h]
  exact g
section LX
variable {E : jm_E} {d : Nat} {μ ξ : jm_M} {Q : Option jm_V → jm_M → Prop} {N who k a y : Int} {ρ : sR} {b : sB}
theorem live_381 {t : Int} (y0 : 0 ≤ y) (t0 : 0 ≤ t) (t1 : t < 12) (k0 : 0 ≤ k) (k7 : k < 7) (hdo : sDo ρ k = pDo k) (hn : b.2.1 = t) (hG : sGB ρ b) (hB : pBd ξ b) (ha : sAns ρ b.2.1 who k = a) (hin : a = -1 ∨ 0 ≤ a ∧ a < t) (hy : y = sWr ρ b who k)
    (hno : y ≠ 0 → ∀ ν, pF6 ξ ν → ν 136 48 = y → Q (some (jm_I t)) ν) (hok : y = 0 → ∀ ν, pF6 ξ ν → ν 136 48 = 0 → pBd ν (sPush ρ b who k) → pl0 E d 8 N (t + 1) ν Q) : pl4 E d 381 N t k a y ξ Q := by
  refine r_L_live_381 (d := d) (fun m1 hm1 => ⟨fun z => ?_, fun z => hno (by omega) m1 (by rw [hm1]; exact pF6.up) (by rw [hm1]; exact jm_up_at)⟩)
  have ey : y = 0 := by omega
  have hw0 : sWr ρ b who k = 0 := by rw [← hy]; exact ey
  have h0 := sWr0 ha hw0
  rw [hdo] at h0
  have hk5 : 1 ≤ k → k ≤ 5 → 0 ≤ a ∧ a < t := by
    intro q1 q2
    have : pDo k = k + 1 := by unfold pDo; rw [if_pos (by omega)]
    omega
  have hpn := sPush_n (ρ := ρ) (b := b) (who := who) (k := k) ha
  have hpc := sPush_c (ρ := ρ) (b := b) (who := who) (k := k) ha
  rw [hn] at hpn
  have gb0 := hG.2.2.1
  have gb1 := hG.2.2.2.1
  rw [hn] at gb1
  have rest : ∀ m : jm_M, pF6 ξ m → m 136 48 = 0 → m 136 49 = (if a = -1 then b.2.2 + 1 else b.2.2) → m 136 t = a → m 136 (12 + t) = (if a = -1 then b.2.2 else b.1 3 a) → m 136 (24 + t) = (if a = -1 then 0 else b.1 4 a + 1) → (∀ i, i ≠ 48 → i ≠ 49 → i ≠ t → i ≠ 12 + t → i ≠ 24 + t → m 136 i = ξ 136 i) → pl5 E d 465 N t k a m Q := by
    intro m f1 f48 f49 ft f12 f24 fo
    refine live_465 t0 t1 k0 k7 hk5 (fun M g1 g2 g3 g4 => ?_)
    have go : ∀ i, i < 36 ∨ 47 < i → M 136 i = m 136 i := fun i hi => g2 i (by omega) (by omega)
    refine hok ey M (f1.tr g1) (by rw [go 48 (by omega)]; exact f48) ⟨?_, fun τ h1 h2 => ?_⟩
    · rw [go 49 (by omega), f49, hpc.2]
    · rw [hpc.1, hn] at h2
      have e5 := sPush_5 (t := τ) (ρ := ρ) (b := b) (who := who) (k := k) ha (by omega)
      by_cases q : τ = t
      · subst q
        refine ⟨?_, ?_, ?_, ?_⟩
        · rw [go _ (by omega), ft, hpn.2.2.1]
        · rw [go _ (by omega), f12, hpn.2.2.2.1]
        · rw [go _ (by omega), f24, hpn.2.2.2.2]
        · rw [g3, e5, if_neg (by omega), if_pos hn.symm, hdo]
      · have hb := hB.2 τ h1 (by omega)
        have ne : τ ≠ b.2.1 := by omega
        refine ⟨?_, ?_, ?_, ?_⟩
        · rw [go _ (by omega), fo _ (by omega) (by omega) (by omega) (by omega) (by omega), sPush_f ha (by decide) ne]
          exact hb.1
        · rw [go _ (by omega), fo _ (by omega) (by omega) (by omega) (by omega) (by omega), sPush_f ha (by decide) ne]
          exact hb.2.1
        · rw [go _ (by omega), fo _ (by omega) (by omega) (by omega) (by omega) (by omega), sPush_f ha (by decide) ne]
          exact hb.2.2.1
        · rw [e5, if_neg ne, hdo]
          by_cases qa : τ = a ∧ a ≠ -1 ∧ 1 < pDo k
          · rw [if_pos qa]
            have hk1 : 1 ≤ k ∧ k ≤ 5 := by
              have := qa.2.2
              unfold pDo at this
              split at this <;> omega
            rw [qa.1]
            exact g4 hk1.1 hk1.2
          · rw [if_neg qa, g2 _ (by omega) ?_, fo _ (by omega) (by omega) (by omega) (by omega) (by omega)]
            · exact hb.2.2.2
            · by_cases e : τ = a
              · refine Or.inr ?_
                have hd : ¬ 1 < pDo k := fun z => qa ⟨e, by omega, z⟩
                unfold pDo at hd
                split at hd <;> omega
              · exact Or.inl (by omega)
  have w1 : jm_wr (12 + t) = 12 + t := jm_wr_id (by omega) (by omega)
  have w2 : jm_wr (24 + t) = 24 + t := jm_wr_id (by omega) (by omega)
  rw [w1, w2]
  refine ⟨by omega, fun m4 hm4 => ⟨fun a0 => ?_, fun a0 => ?_⟩⟩
  · have w3 : jm_wr (12 + a) = 12 + a := jm_wr_id (by omega) (by omega)
    have w4 : jm_wr (24 + a) = 24 + a := jm_wr_id (by omega) (by omega)
    rw [w3, w4]
    have hb := hB.2 a a0 (by omega)
    have hg := (hG.2.2.2.2 a a0 (by omega)).2.2.2.2.1
    have na : a ≠ -1 := by omega
    refine ⟨by omega, by omega, fun m8 hm8 => ⟨by omega, by omega, fun m12 hm12 => ?_⟩⟩
    have e8 : m8 136 (24 + a) = b.1 4 a := by
      rw [hm8, jm_up_i (by omega), hm4, jm_up_i (by omega), hm1, jm_up_i (by omega)]
      exact hb.2.2.1
    rw [e8, jm_wr_id (by omega) (by omega)] at hm12
    have e4 : m4 136 (12 + a) = b.1 3 a := by
      rw [hm4, jm_up_i (by omega), hm1, jm_up_i (by omega)]
      exact hb.2.1
    rw [e4] at hm8
    subst hm12
    subst hm8
    subst hm4
    subst hm1
    refine rest _ (((pF6.up.tr pF6.up).tr pF6.up).tr pF6.up) ?_ ?_ ?_ ?_ ?_ (fun i i1 i2 i3 i4 i5 => ?_)
    · rw [jm_up_i (by omega), jm_up_i (by omega), jm_up_i (by omega), jm_up_at]; exact ey
    · rw [jm_up_i (by omega), jm_up_i (by omega), jm_up_i (by omega), jm_up_i (by omega), if_neg na]; exact hB.1
    · rw [jm_up_i (by omega), jm_up_i (by omega), jm_up_at]
    · rw [jm_up_i (by omega), jm_up_at, if_neg na]
    · rw [jm_up_at, if_neg na]
    · rw [jm_up_i i5, jm_up_i i4, jm_up_i i3, jm_up_i i1]
  · have na : a = -1 := by omega
    refine ⟨by omega, fun m15 hm15 => ⟨by omega, fun m18 hm18 m20 hm20 => ?_⟩⟩
    have e4 : m4 136 49 = b.2.2 := by
      rw [hm4, jm_up_i (by omega), hm1, jm_up_i (by omega)]
      exact hB.1
    have e18 : m18 136 49 = b.2.2 := by
      rw [hm18, jm_up_i (by omega), hm15, jm_up_i (by omega)]
      exact e4
    rw [e18, jm_wr_id (by omega) (by omega)] at hm20
    rw [e4] at hm15
    subst hm20
    subst hm18
    subst hm15
    subst hm4
    subst hm1
    refine rest _ ((((pF6.up.tr pF6.up).tr pF6.up).tr pF6.up).tr pF6.up) ?_ ?_ ?_ ?_ ?_ (fun i i1 i2 i3 i4 i5 => ?_)
    · rw [jm_up_i (by omega), jm_up_i (by omega), jm_up_i (by omega), jm_up_i (by omega), jm_up_at]; exact ey
    · rw [jm_up_at, if_pos na]
    · rw [jm_up_i (by omega), jm_up_i (by omega), jm_up_i (by omega), jm_up_at]
    · rw [jm_up_i (by omega), jm_up_i (by omega), jm_up_at, if_pos na]
    · rw [jm_up_i (by omega), jm_up_at, if_pos na]
    · rw [jm_up_i i2, jm_up_i i5, jm_up_i i4, jm_up_i i3, jm_up_i i1]
/-- one word: from the loop's head to the next, or out -/
theorem live_8 {w : Int → Int} {t : Nat} (hV : pVf ξ ρ) (hW : sWR ρ) (htN : (t : Int) < N) (t12 : t < 12) (hr : pRw ξ w (t + 1)) (hw : pVw ρ w (t + 1)) (hB : pBd ξ (sLay ρ w t)) (hG : sGB ρ (sLay ρ w t))
    (hno : sWr ρ (sLay ρ w t) (w (2 * t)) (w (2 * t + 1)) ≠ 0 → ∀ ν, pF6 ξ ν → ν 136 48 = sWr ρ (sLay ρ w t) (w (2 * t)) (w (2 * t + 1)) → Q (some (jm_I (t : Int))) ν)
    (hok : sWr ρ (sLay ρ w t) (w (2 * t)) (w (2 * t + 1)) = 0 → ∀ ν, pF6 ξ ν → ν 136 48 = 0 → pBd ν (sLay ρ w (t + 1)) → pl0 E d 8 N ((t : Int) + 1) ν Q) : pl0 E d 8 N (t : Int) ξ Q := by
  obtain ⟨v0, v1, v3, p0, p1, p2, p6, p7, p8, p11, vsp, vk⟩ := hV
  have hn : (sLay ρ w t).2.1 = (t : Int) := sLay_n t
  have hwt := hw t (Nat.lt_succ_self _)
  have hrow : ∀ j : Nat, j < t + 1 → jm_shr (ξ 135 (j : Int)) 4 = w (2 * j) ∧ jm_and (ξ 135 (j : Int)) 15 = w (2 * j + 1) := fun j hj => by
    have h := hw j hj
    rw [hr j hj]
    exact pRow h.1.1 (by omega) h.2.1 (by omega)
  have hbw : ∀ j, 0 ≤ j → j < (t : Int) → (sLay ρ w t).1 0 j = w (2 * j) ∧ (sLay ρ w t).1 1 j = w (2 * j + 1) := fun j j0 j1 => by
    have := sLay_w (ρ := ρ) (w := w) t j.toNat (by omega)
    have e : ((j.toNat : Nat) : Int) = j := by omega
    rw [e] at this
    exact this
  generalize hb : sLay ρ w t = b at *
  generalize hwho : w (2 * (t : Int)) = who at *
  generalize hkk : w (2 * (t : Int) + 1) = k at *
  obtain ⟨⟨u0, u1⟩, k0, k7⟩ := hwt
  have hdo := (vk k k0 k7).2.2.1
  have hsh := hrow t (Nat.lt_succ_self _)
  rw [hwho, hkk] at hsh
  have hin := sAns_in (n := (t : Int)) (k := k) hW (by omega) u0 u1
  have ha' : sAns ρ b.2.1 who k = sAns ρ (t : Int) who k := by rw [hn]
  generalize haa : sAns ρ (t : Int) who k = a at hin ha'
  have hbk := sBack_in (n := (t : Int)) hW (by omega) u0 u1
  have hma := (hW.2.2.2.2.2.2.2.2.2.2.2.2 k k0 (by omega)).2.2.2
  have hkind : ∀ j, 0 ≤ j → j < (t : Int) → (0 ≤ b.1 0 j ∧ b.1 0 j < ρ 0) ∧ 0 ≤ b.1 1 j ∧ b.1 1 j < 7 := fun j j0 j1 => by
    have h := hw j.toNat (by omega)
    have e : ((j.toNat : Nat) : Int) = j := by omega
    rw [e] at h
    rw [(hbw j j0 j1).1, (hbw j j0 j1).2]
    exact h
  have hrw : ∀ j, 0 ≤ j → j < (t : Int) → jm_shr (ξ 135 j) 4 = b.1 0 j ∧ jm_and (ξ 135 j) 15 = b.1 1 j := fun j j0 j1 => by
    have h := hrow j.toNat (by omega)
    have e : ((j.toNat : Nat) : Int) = j := by omega
    rw [e] at h
    rw [(hbw j j0 j1).1, (hbw j j0 j1).2]
    exact h
  have hBd := hB.2
  rw [hn] at hBd
  have hEq := lv_eq (ρ := ρ) (b := b) (who := who) (k := k) (a := a) k0 k7 (fun j j0 j1 => (vk j j0 j1).2.2) hG (fun j j0 j1 => (hkind j j0 (by omega)).2) ha' (by rw [hn]; omega)
  rw [hn] at hEq
  -- from 148 on
  have G148 : pl1 E d 148 N (t : Int) who k a 0 (if 0 ≤ a ∧ b.1 1 a = 1 ∧ b.1 5 a = 4 ∧ (t : Int) - a ≤ sDu ρ 1 then a else -1) ξ Q := by
    refine live_148 (wa := b.1 0 a) (z := b.1 2 a) (wz := b.1 0 (b.1 2 a)) k0 k7 (by split <;> omega) (by omega) (fun hp => ?_) ?_
    · split at hp
      · rename_i hq
        have hst := hG.st (t := a) hq.1 (by omega)
        have h2 := hst.2 (by omega)
        refine ⟨(hrw a (by omega) (by omega)).1, (hkind a (by omega) (by omega)).1.1, (hBd a (by omega) (by omega)).1, by omega, (hrw _ h2.1 (by omega)).1, (hkind _ h2.1 (by omega)).1.1⟩
      · omega
    · refine live_245 (st := b.1 5 a) (by omega) (fun a0 => (hBd a a0 (by omega)).2.2.2) ?_
      refine live_276 (wa := b.1 0 a) (by omega) (fun a0 => (hrw a a0 (by omega)).1) ?_
      refine live_307 (op := sOp ρ k) (ma := sMa ρ k) (ka := b.1 1 a) k0 k7 (by omega) (vk k k0 k7).1 (vk k k0 k7).2.1 hma.1 (by omega) (fun a0 => ⟨(hrw a a0 (by omega)).2, (hkind a a0 (by omega)).2.1, (hkind a a0 (by omega)).2.2⟩) ?_
      refine live_353 (tw := ρ 5) (wl := b.1 0 ((t : Int) - 1)) (by omega) (by omega) p7 (fun h0 => (hrw _ (by omega) (by omega)).1) ?_
      rw [← hEq]
      have hy0 : 0 ≤ sWr ρ b who k := by
        rw [hEq]
        unfold lv4 lv3 lv2 lv1
        repeat' split
        all_goals omega
      refine live_381 hy0 (by omega) (by omega) k0 k7 hdo hn hG hB ha' (by omega) rfl hno (fun h0 ν f1 f2 f3 => hok h0 ν f1 f2 ?_)
      show pBd ν (sPush ρ (sLay ρ w t) (w (2 * t)) (w (2 * t + 1)))
      rw [hb, hwho, hkk]
      exact f3
  have c79 : a = -1 → pl3 E d 79 N (t : Int) who k ξ Q := by
    intro e
    rw [e, if_neg (fun z => absurd z.1 (by decide))] at G148
    exact r_L_live_79 (d := d) (r_L_live_114 (d := d) G148)
  have w12 : jm_wr (12 + k) = 12 + k := jm_wr_id (by omega) (by omega)
  have inner : ∀ bk : Int, bk = sBack ρ (t : Int) who → ((ξ 134 (12 + k) = 2 → pl3 E d 79 N (t : Int) who k ξ Q) ∧ (¬ (ξ 134 (12 + k) = 2) → ((bk ≤ (t : Int) → ∀ x12 : Int, x12 = jm_wr ((t : Int) - bk) → ((x12 < 0 → pl2 E d 114 N (t : Int) who k x12 0 ξ Q) ∧ (¬ (x12 < 0) → (0 ≤ x12 ∧ x12 < 16) ∧ (((jm_and (ξ 135 x12) 15) ≠ 1 → pl2 E d 114 N (t : Int) who k x12 0 ξ Q) ∧ (¬ ((jm_and (ξ 135 x12) 15) ≠ 1) → (0 ≤ jm_wr (36 + x12) ∧ jm_wr (36 + x12) < 56) ∧ (((ξ 136 (jm_wr (36 + x12))) ≠ 4 → pl1 E d 148 N (t : Int) who k x12 0 (-1) ξ Q) ∧ (¬ ((ξ 136 (jm_wr (36 + x12))) ≠ 4) → (((jm_wr ((t : Int) - x12)) ≤ ξ 134 11 → pl1 E d 148 N (t : Int) who k x12 0 x12 ξ Q) ∧ (¬ ((jm_wr ((t : Int) - x12)) ≤ ξ 134 11) → pl1 E d 148 N (t : Int) who k x12 0 (-1) ξ Q)))))))) ) ∧ (¬ (bk ≤ (t : Int)) → pl3 E d 79 N (t : Int) who k ξ Q)))) := by
    intro bk hbk2
    rw [(vk k k0 k7).1]
    unfold sAns at haa
    rw [← hbk2] at haa
    refine ⟨fun o2 => c79 (by rw [if_pos o2] at haa; exact haa.symm), fun o2 => ?_⟩
    rw [if_neg o2] at haa
    refine ⟨fun hle x12 hx => ?_, fun hle => c79 (by rw [if_neg hle] at haa; exact haa.symm)⟩
    rw [if_pos hle] at haa
    rw [jm_wr_id (by omega) (by omega), haa] at hx
    rw [hx]
    have w36 : jm_wr (36 + a) = 36 + a := jm_wr_id (by omega) (by omega)
    have wta : jm_wr ((t : Int) - a) = (t : Int) - a := jm_wr_id (by omega) (by omega)
    rw [w36, wta, (hrw a (by omega) (by omega)).2, (hBd a (by omega) (by omega)).2.2.2, p11]
    refine ⟨fun z => absurd z (by omega), fun _ => ⟨by omega, fun k1 => ?_, fun k1 => ⟨by omega, fun s4 => ?_, fun s4 => ⟨fun hs => ?_, fun hs => ?_⟩⟩⟩⟩
    · rw [if_neg (fun z => k1 z.2.1)] at G148
      exact r_L_live_114 (d := d) G148
    · rw [if_neg (fun z => s4 z.2.2.1)] at G148
      exact G148
    · rw [if_pos ⟨by omega, by omega, by omega, hs⟩] at G148
      exact G148
    · rw [if_neg (fun z => hs z.2.2.2)] at G148
      exact G148
  refine r_L_live_8 (d := d) ⟨fun z => absurd z (by omega), fun _ => ⟨by omega, fun x3 hx3 x4 hx4 => ?_⟩⟩
  rw [hsh.1] at hx3
  rw [hsh.2] at hx4
  rw [hx3, hx4, p6, p1, w12]
  have h4 := hW.2.2.2.2.2.2.2.2.1
  refine ⟨fun r0 => ⟨by omega, ?_⟩, fun r0 => ?_⟩
  · have hrem : jm_rem (t : Int) (ρ 3) = (t : Int) % ρ 3 := jm_rem_n (by omega) (by omega) (by omega) (by omega)
    have m0 := Int.emod_nonneg (t : Int) (show ρ 3 ≠ 0 by omega)
    have m1 := Int.emod_lt_of_pos (t : Int) (show 0 < ρ 3 by omega)
    have w2 : jm_wr (2 + (t : Int) % ρ 3) = 2 + (t : Int) % ρ 3 := jm_wr_id (by omega) (by omega)
    rw [hrem, w2]
    refine ⟨by omega, fun x8 hx8 => ⟨by omega, inner x8 ?_⟩⟩
    rw [hx8, p2 _ m0 m1]
    unfold sBack
    rw [if_neg (by omega), if_neg (by omega)]
  · have w8 : jm_wr (8 + who) = 8 + who := jm_wr_id (by omega) (by omega)
    rw [w8]
    refine ⟨by omega, fun x8 hx8 => ⟨by omega, inner x8 ?_⟩⟩
    rw [hx8, p8 _ u0 u1]
    unfold sBack
    rw [if_pos (by omega)]
/-- the law's talk, told anew -/
theorem c_L_live {w : Int → Int} {n : Nat} (hV : pVf μ ρ) (hW : sWR ρ) (hN : n ≤ 12) (hr : pRw μ w n) (hw : pVw ρ w n)
    (hno : ∀ t : Nat, t < n → sVW ρ w t → sWr ρ (sLay ρ w t) (w (2 * t)) (w (2 * t + 1)) ≠ 0 → ∀ ν, pF6 μ ν → ν 136 48 = sWr ρ (sLay ρ w t) (w (2 * t)) (w (2 * t + 1)) → Q (some (jm_I (t : Int))) ν)
    (hok : sVW ρ w n → ∀ ν, pF6 μ ν → pBd ν (sLay ρ w n) → (0 < n → ν 136 48 = 0) → Q (some (jm_I (-1))) ν) : jc E m_L_live (d + 1) [jm_R 134, jm_R 135, jm_I (n : Int), jm_R 136] μ Q := by
  have h1 : ρ 1 = 7 := hV.2.1
  refine e_L_live (d := d) (fun _ m1 hm1 => ?_)
  have loop : ∀ (f t : Nat) (ξ : jm_M), t + f = n → pF6 μ ξ → pBd ξ (sLay ρ w t) → sVW ρ w t → (0 < t → ξ 136 48 = 0) → pl0 E d 8 (n : Int) (t : Int) ξ Q := by
    intro f
    induction f with
    | zero =>
      intro t ξ ht hF hB hS h48
      obtain rfl : t = n := by omega
      exact r_L_live_8 (d := d) ⟨fun _ => hok hS ξ hF hB h48, fun z => absurd (Int.le_refl _) z⟩
    | succ f ih =>
      intro t ξ ht hF hB hS h48
      have hG := sLay_good hW t (by omega) hS
      refine live_8 (pVf.fr (hF 134 (by decide)) hV) hW (by omega) (by omega) (fun j hj => by rw [hF 135 (by decide)]; exact hr j (by omega)) (fun j hj => hw j (by omega)) hB hG (fun hne ν f1 f2 => hno t (by omega) hS hne ν (hF.tr f1) f2) (fun h0 ν f1 f2 f3 => ?_)
      have := ih (t + 1) ν (by omega) (hF.tr f1) f3 (fun j hj => ?_) (fun _ => f2)
      · exact this
      · by_cases q : j = t
        · subst q
          have h := hw j (by omega)
          exact ⟨h.1, ⟨h.2.1, by rw [h1]; exact h.2.2⟩, h0⟩
        · exact hS j (by omega)
  exact loop n 0 m1 (by omega) (by rw [hm1]; exact pF6.up) ⟨by rw [hm1, jm_up_at]; rfl, fun t t0 t1 => absurd (show t < 0 from t1) (by omega)⟩ (fun j hj => absurd hj (Nat.not_lt_zero _)) (fun z => absurd z (Nat.lt_irrefl _))
end LX
