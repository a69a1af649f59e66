/-! torn minutes, in the class: the call -/
section KQ
variable {E : jm_E} {d : Nat} {μ : jm_M} {Q : Option jm_V → jm_M → Prop} {τ : Int → Int} {n lim p : Int} {T : zTs} {M : zMs}
theorem zTn_in {κ : zKp} {g : Int → Int} {c tn p : Int} {y : Int × Int} (c0 : 0 ≤ c) (h : zTn κ g c tn p = .ok y) : (y.1 = -1 ∧ y.2 = tn + 1 ∧ tn ≠ 8) ∨ (0 ≤ y.1 ∧ y.1 < c ∧ y.2 = tn) := by
  unfold zTn at h
  by_cases q : zIs κ p 15
  · rw [if_pos q] at h
    by_cases q8 : tn = 8
    · rw [if_pos q8] at h; cases h
    · rw [if_neg q8] at h; cases h; exact Or.inl ⟨rfl, rfl, q8⟩
  · rw [if_neg q] at h
    cases hx : zNH κ g c p with
    | error e => rw [zBi_e hx] at h; cases h
    | ok a =>
      rw [zBi_o hx] at h
      have := zNH_in c0 hx
      cases h
      exact Or.inr ⟨this.1, this.2.1, rfl⟩
theorem zMw_i {κ : zKp} {x : zMs × Int} (hW : sWR T.1) (hi : zMi T.1 M) (h : zMw κ T M p = .ok x) : zMi T.1 x.1 := by
  unfold zMw at h
  by_cases m24 : M.2.1 = 24
  · rw [if_pos m24] at h
    by_cases q : zIs κ p 15
    · rw [if_pos q] at h; cases h
    · rw [if_neg q] at h
      cases hx : zNH κ T.2.1 (T.1 0) p with
      | error e => rw [zBi_e hx] at h; cases h
      | ok a => rw [zBi_o hx] at h; cases h
  · rw [if_neg m24] at h
    cases hx : zTn κ T.2.1 (T.1 0) M.2.2 p with
    | error e => rw [zBi_e hx] at h; cases h
    | ok a =>
      rw [zBi_o hx] at h
      cases hy : zTn κ T.2.2 (T.1 1) a.2 (zNx κ p) with
      | error e => rw [zBi_e hy] at h; cases h
      | ok b =>
        rw [zBi_o hy] at h
        have t8 := hi.1.2.2
        have te := hi.2
        unfold sTorn at te
        have ia := zTn_in hW.1 hx
        have ib := zTn_in hW.2.2.1 hy
        have s := zMi_s (a := a.1) (b := b.1) hi m24 (by omega) (by omega) (by split <;> split <;> omega)
        have e : M.2.2 + (if a.1 = -1 then 1 else 0) + (if b.1 = -1 then 1 else 0) = b.2 := by split <;> split <;> omega
        rw [e] at s
        cases h
        exact s
theorem g_K_mread : ∀ (f : Nat) (i p : Int) (M : zMs) (ν : jm_M), i + f = 471 → 0 ≤ i → 2 * i ≤ p → sWR T.1 → tTb ν 3 T.1 T.2.1 T.2.2 → kAt ν τ n lim p → kMn ν M → zMi T.1 M → (∀ e, zMt (sTok τ n lim) T f M p = .error e → ∀ ξ, kFe kX ν ξ e → Q (some (jm_I 0)) ξ) → (∀ x, zMt (sTok τ n lim) T f M p = .ok x → ∀ ξ, kFo kX ν ξ → kMn ξ x → zMi T.1 x → Q (some (jm_I 1)) ξ) → jg E m_X1_read (d + 5) 13 [some (jm_R 72), some (jm_R 1), some (jm_R 3), some (jm_I i)] [] ν Q
  | 0, i, p, M, ν, g1, g2, g3, hW, hT, h0, hM, hi, h1, h2 => by
    have b1 := h0.1.2.1
    have b2 := h0.2.2.2.2.2.1
    omega
  | f + 1, i, p, M, ν, g1, g2, g3, hW, hT, h0, hM, hi, h1, h2 => by
    have s := h0.s1
    have so := sTok_so (τ := τ) (n := n) (lim := lim) (p := p)
    have b1 := h0.1.2.1
    have b2 := h0.2.2.2.2.2.1
    have t8 := hi.1.2.2
    have te := hi.2
    have tg := (sCnt_le (fun k => decide (M.1 k = -1)) (2 * M.2.1) 0 0).1
    unfold sTorn at te
    rw [zMt] at h1 h2
    refine r_X1_read_13 (d := d + 5) ⟨fun z => absurd z (by omega), fun _ => ⟨fun z => ?_, fun z => ⟨is_72, ?_⟩⟩⟩
    · refine c_K_closes (d := d + 3) h0 (fun e => jq_Z ?_) (fun e ξ er => jq_Z ?_)
      · rw [if_pos e] at h2
        exact h2 _ rfl ν kFo.rfl hM hi
      · rw [if_neg e] at h1
        have lt : (sTok τ n lim p).1 ≠ 2 := fun q => by have := s.1.mpr q; omega
        have n15 : ¬ zIs (sTok τ n lim) p 15 := fun q => lt q.1
        have nm : ¬ zIs (sTok τ n lim) p 0 := fun q => lt q.1
        have nh : ∀ g c, zNH (sTok τ n lim) g c p = .error (1, (sTok τ n lim p).2.1) := fun g c => by unfold zNH; rw [if_pos nm]; rfl
        have ew : zMw (sTok τ n lim) T M p = .error (1, (sTok τ n lim p).2.1) := by
          unfold zMw
          by_cases m24 : M.2.1 = 24
          · rw [if_pos m24, if_neg n15]; exact zBi_e (nh _ _)
          · rw [if_neg m24]; exact zBi_e (by unfold zTn; rw [if_neg n15]; exact zBi_e (nh _ _))
        exact h1 (1, _) (zBi_e (zBi_e ew)) ξ (kFo.rfl.er er)
    · have e0 : ¬ (sTok τ n lim p).1 = 0 := fun q => z (s.2.2.2.mp q).1
      rw [if_neg e0] at h1 h2
      refine c_K_readMin (d := d + 1) h0 hi.1.1 (by omega) (by omega) hW hT hM (fun e he ξ fe => jq_Z (jb_t rfl (h1 e (zBi_e (zBi_e he)) ξ fe))) (fun x hx xp m9 fo xa xm => jq_Z (jb_f (by decide) ?_))
      have hi9 := zMw_i hW hi hx
      refine c_K_takes (d := d + 1) xa (fun s4 v4 ξ b c => jq_Z (jb_t (by decide) ?_)) (fun z2 ξ er => jq_Z (jb_f (by decide) (h1 (1, _) (zBi_e ?_) ξ (fo.er er))))
      · have el : zMl (sTok τ n lim) T M p = .ok (x.1, sNx1 τ n lim x.2) := by unfold zMl; rw [zBi_o hx, if_pos ⟨s4, v4⟩]
        rw [zBi_o el] at h1 h2
        have x2 := xa.nx (by omega)
        rw [jm_wr_id (by omega) (by omega)]
        have fu : kFo kX ν ξ := fo.trans (kFo.of b)
        have nX : ∀ q : Int, q < 72 → ¬ kX q := fun q hq y => by have : 72 ≤ q ∧ q ≤ 74 := y; omega
        exact g_K_mread f (i + 1) _ x.1 ξ (by omega) (by omega) (by show 2 * (i + 1) ≤ sNx1 τ n lim x.2; omega) hW (tTb_of (fun q q0 q1 => fu.1 q (by omega) (nX q (by omega))) hT) c (by unfold kMn; rw [b.1 72 (by decide), b.1 73 (by decide), b.1 74 (by decide)]; exact xm) hi9 (fun e he ζ fe => h1 e he ζ (fu.fe fe)) (fun y hy ζ f2 o2 t2 => h2 y hy ζ (fu.trans f2) o2 t2)
      · unfold zMl; rw [zBi_o hx, if_neg z2]; rfl
end KQ
