/-! a talk, in the class: the call -/
section KV
variable {E : jm_E} {d : Nat} {μ : jm_M} {Q : Option jm_V → jm_M → Prop} {τ : Int → Int} {n lim p : Int} {T : zTs} {W : zTk}
theorem g_K_tread : ∀ (f : Nat) (i p : Int) (W : zTk) (ν : jm_M), i + f = 471 → 0 ≤ i → 2 * i ≤ p → kAt ν τ n lim p → kTk ν T W → (∀ e, zWt (sTok τ n lim) T f W p = .error e → ∀ ξ, kFe kT ν ξ (e.1, e.2.1) → ξ 37 3 = e.2.2 → Q (some (jm_I 0)) ξ) → (∀ x, zWt (sTok τ n lim) T f W p = .ok x → ∀ ξ, kFo kT ν ξ → kTk ξ T x → Q (some (jm_I 1)) ξ) → jg E m_X6_read (d + 6) 19 [some (jm_R 37), some (jm_R 1), none, some (jm_I i)] [] ν Q
  | 0, i, p, W, ν, g1, g2, g3, h0, hT, h1, h2 => by
    have b1 := h0.1.2.1
    have b2 := h0.2.2.2.2.2.1
    omega
  | f + 1, i, p, W, ν, g1, g2, g3, h0, hT, h1, h2 => by
    have s := h0.s1
    have so := sTok_so (τ := τ) (n := n) (lim := lim) (p := p)
    have b1 := h0.1.2.1
    have b2 := h0.2.2.2.2.2.1
    rw [zWt] at h1 h2
    refine r_X6_read_19 (d := d + 6) ⟨fun z => absurd z (by omega), fun _ => ⟨fun z => ?_, fun z => ⟨is_37, ?_⟩⟩⟩
    · refine c_K_closes (d := d + 4) h0 (fun e => jq_Z ?_) (fun e ξ er => jq_Z ?_)
      · rw [if_pos e] at h2
        exact h2 _ rfl ν kFo.rfl hT
      · rw [if_neg e] at h1
        have nm : ¬ zIs (sTok τ n lim) p 0 := fun q => by have := s.1.mpr q.1; omega
        exact h1 (1, _, 0) (zC3_e (zC3_e (zB3_e (e := (1, (sTok τ n lim p).2.1)) (by unfold zNH; rw [if_pos nm]; rfl)))) ξ (kFo.rfl.er er) (by rw [er.1 37 (by decide)]; exact hT.2.2.2)
    · have e0 : ¬ (sTok τ n lim p).1 = 0 := fun q => z (s.2.2.2.mp q).1
      rw [if_neg e0] at h1 h2
      refine c_K_readTw (d := d + 1) h0 hT (fun e he ξ fe f3 => jq_Z (jb_t rfl (h1 e (zC3_e (zC3_e he)) ξ fe f3))) (fun x hx xp m9 fo xa xm => jq_Z (jb_f (by decide) ?_))
      refine c_K_takes (d := d + 2) xa (fun s4 v4 ξ b c => jq_Z (jb_t (by decide) ?_)) (fun z2 ξ er => jq_Z (jb_f (by decide) (h1 (1, _, 0) (zC3_e ?_) ξ (fo.er er) (by rw [er.1 37 (by decide)]; exact xm.2.2.2))))
      · have el : zWl (sTok τ n lim) T W p = .ok (x.1, sNx1 τ n lim x.2) := by unfold zWl; rw [zC3_o hx, if_pos ⟨s4, v4⟩]
        rw [zC3_o el] at h1 h2
        have x2 := xa.nx (by omega)
        rw [jm_wr_id (by omega) (by omega)]
        have fu : kFo kT ν ξ := fo.trans (kFo.of b)
        exact g_K_tread f (i + 1) _ x.1 ξ (by omega) (by omega) (by show 2 * (i + 1) ≤ sNx1 τ n lim x.2; omega) c (xm.of (fun q q0 q1 => b.1 q (by omega))) (fun e he ζ fe f3 => h1 e he ζ (fu.fe fe) f3) (fun y hy ζ f2 t2 => h2 y hy ζ (fu.trans f2) t2)
      · unfold zWl; rw [zC3_o hx, if_neg z2]
theorem c_C_talk (hX : sTx τ n) (ht : tTx μ τ n) (hW : sWR T.1) (hT : tTb μ 3 T.1 T.2.1 T.2.2)
    (h1 : ∀ e, zWt (sTok τ n 900) T 471 zW0 0 = .error e → ∀ ν, (∀ x, x ≠ 1 → x ≠ 21 → x ≠ 37 → x < 47 ∨ 52 < x → ν x = μ x) → (∀ i, i ≠ 3 → ν 21 i = μ 21 i) → ν 21 3 = e.2.2 → (∀ j, j = 0 ∨ 10 < j → ν 1 j = μ 1 j) → ν 1 1 = 0 → ν 1 9 = e.1 → Q (some (jm_I (jm_wr (-1 - e.2.1)))) ν)
    (h2 : ∀ x, zWt (sTok τ n 900) T 471 zW0 0 = .ok x → sVW T.1 x.1 x.2 → x.2 ≤ 400 → ∀ ν, (∀ y, y ≠ 1 → y ≠ 21 → y < 31 ∨ 37 < y → y < 47 ∨ 52 < y → ν y = μ y) → (∀ i, 3 < i → ν 21 i = μ 21 i) → ν 21 3 = 0 → (∀ j, j = 0 ∨ 10 < j → ν 1 j = μ 1 j) → ν 1 1 = 0 → ν 1 9 = 0 → tTl ν T.1 x.1 x.2 → Q (some (jm_I x.2)) ν) : jc E m_X10_talk (d + 8) [jm_R 0] μ Q := by
  refine e_X10_talk (d := d + 7) (fun _ => e_X6_read (d := d + 6) (fun _ => ⟨is_37, ?_⟩))
  refine c_T_begin (a := 37) (p := 3) (c := 400) pl_37 hW hT.1 (fun m1 A1 f1 f2 _ => ?_)
  have g0 : ∀ x, x ≠ 37 → jm_up m1 37 3 0 x = μ x := fun x hx => by rw [jm_up_ne hx, f1 x hx]
  have k3 : jm_up m1 37 3 0 37 3 = 0 := jm_up_at
  have A : tA (jm_up m1 37 3 0) T.1 37 3 400 sEmpty := A1.s3
  generalize jm_up m1 37 3 0 = m0 at g0 k3 A ⊢
  have t0 : tTx m0 τ n := ⟨by rw [g0 1 (by decide)]; exact ht.1, fun i i0 i1 => by rw [g0 2 (by decide)]; exact ht.2 i i0 i1⟩
  refine c_K_open (d := d + 2) hX t0 (fun m3 a1 a2 a9 a10 aA _ => ?_)
  have nT : ∀ x : Int, x ≠ 37 → x < 47 ∨ 52 < x → ¬ kT x := fun x hx h5 q => by have : x = 37 ∨ (47 ≤ x ∧ x ≤ 52) := q; omega
  refine g_K_tread 471 0 0 zW0 m3 (by decide) (by decide) (by decide) aA ⟨tTb_of (fun q q0 q1 => by rw [a1 q (by omega), g0 q (by omega)]) hT, A.of (fun q hq => a1 q (by omega)), fun t ht => absurd ht (Nat.not_lt_zero t), by rw [a1 37 (by decide)]; exact k3⟩ (fun e he ξ fe f3 => jq_Z (jb_t rfl ?_)) (fun x hx ξ fo xm => jq_Z (jb_f (by decide) ?_))
  · refine c_C_after (fun _ => jq_I ?_) (fun z => absurd rfl z)
    rw [jm_up_lj (by decide), fe.2.2.2, f3]
    exact h1 e he _ (fun x x1 x2 x3 x4 => by rw [jm_up_ne x1, jm_up_ne x2, fe.1 x x1 (nT x x3 x4), a1 x x1, g0 x x3]) (fun i hi => by rw [jm_up_lj (by decide), jm_up_i hi, fe.1 21 (by decide) (nT 21 (by decide) (by decide)), a1 21 (by decide), g0 21 (by decide)]) (by rw [jm_up_lj (by decide), jm_up_at]) (fun j hj => by rw [jm_up_i (by omega), jm_up_lj (by decide), fe.2.1 j (by omega), a2 j (by omega), g0 1 (by decide)]) jm_up_at (by rw [jm_up_i (by decide), jm_up_lj (by decide)]; exact fe.2.2.1)
  · refine c_T_copyTalk xm.2.1 xm.1.1 xm.le xm.2.2.1 (fun m7 A7 b1 b2 _ => ?_)
    refine c_C_after (fun z => absurd z (by decide)) (fun _ => jq_I ?_)
    have e7 : m7 21 1 = x.2 := by
      have h1 := A7.2.2.2.2.1.1
      rw [sLay_n] at h1
      exact h1
    have y7 : m7 37 3 = 0 := by rw [b1 37 (by decide) (by decide)]; exact xm.2.2.2
    rw [e7, y7]
    have fr : ∀ y, y ≠ 1 → y ≠ 21 → y < 31 ∨ 37 < y → y < 47 ∨ 52 < y → m7 y = μ y := fun y y1 y2 y3 y4 => by rw [b1 y y2 (by omega), fo.1 y y1 (nT y (by omega) y4), a1 y y1, g0 y (by omega)]
    have f1' : ∀ j, m7 1 j = ξ 1 j := fun j => by rw [b1 1 (by decide) (by decide)]
    refine h2 x hx xm.2.2.1 xm.le _ (fun y y1 y2 y3 y4 => by rw [jm_up_ne y1, jm_up_ne y2]; exact fr y y1 y2 y3 y4) (fun i hi => by rw [jm_up_lj (by decide), jm_up_i (by omega), b2 i (by omega) (by omega) (by omega), fo.1 21 (by decide) (nT 21 (by decide) (by decide)), a1 21 (by decide), g0 21 (by decide)]) (by rw [jm_up_lj (by decide), jm_up_at]) (fun j hj => by rw [jm_up_i (by omega), jm_up_lj (by decide), f1', fo.2 j (by omega), a2 j (by omega), g0 1 (by decide)]) jm_up_at (by rw [jm_up_i (by decide), jm_up_lj (by decide), f1', fo.2 9 (by decide), a9]) ⟨?_, 3, Or.inl rfl, ?_⟩
    · exact tRu_of (fun q q0 q1 => by rw [jm_up_ne (by omega), jm_up_ne (by omega), fr q (by omega) (by omega) (by omega) (by omega)]) hT.1
    · exact (A7.s3 (v := 0)).of (fun q hq => jm_up_ne (by omega))
end KV
