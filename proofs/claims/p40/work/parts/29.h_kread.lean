/-! a table, in the class -/
section KR
variable {E : jm_E} {d : Nat} {μ : jm_M} {Q : Option jm_V → jm_M → Prop} {τ : Int → Int} {n lim p : Int} {T : zTs}
theorem c_K_once {q : Int} (hq : q = 4 ∨ q = 5) (h0 : kAt μ τ n lim p) (hs : 2 ≤ (sTok τ n lim p).1) (hT : kTb μ T) (h1 : ∀ e, zRo (sTok τ n lim) q T p = .error e → ∀ ν, kFe kW μ ν e → Q (some (jm_I 0)) ν) (h2 : ∀ x, zRo (sTok τ n lim) q T p = .ok x → p < x.2 → ∀ ν, kFo kW μ ν → ν 12 0 = μ 12 0 → kAt ν τ n lim x.2 → kTb ν x.1 → Q (some (jm_I 1)) ν) :
    (μ 12 (10 + q) = 0 → jc E m_X7_advance (d + 3) [jm_R 1] (jm_up μ 12 (10 + q) 1) (fun o m => o = none → Q (some (jm_I 1)) m)) ∧ (¬ μ 12 (10 + q) = 0 → jc E m_X7_fails (d + 3) [jm_R 1, jm_I 3, jm_I (μ 1 5)] μ (fun o m => ∀ r : Int, o = some (jm_I r) → (r = 0 ∨ r = 1) → Q (some (jm_I r)) m)) := by
  have e : μ 12 (10 + q) = T.1 q := by
    rcases hq with rfl | rfl
    · exact hT.1.1.2.2.2.2.1
    · exact hT.1.1.2.2.2.2.2.1
  have w : T.1 q = 0 ∨ T.1 q = 1 := by
    rcases hq with rfl | rfl
    · exact hT.2.2.1.2.2.2.2.2.2.2.2.1
    · exact hT.2.2.1.2.2.2.2.2.2.2.2.2.1
  rw [e, h0.val.1]
  unfold zRo at h1 h2
  refine ⟨fun z => ?_, fun z => ?_⟩
  · rw [if_neg (by omega)] at h2
    have a0 : kAt (jm_up μ 12 (10 + q) 1) τ n lim p := h0.kf (jm_up_ne (by decide)) (jm_up_ne (by decide))
    have f0 : kFo kW μ (jm_up μ 12 (10 + q) 1) := kFo.up (by decide) (by decide)
    have t0 := kTb_once hT hq
    have o0 : jm_up μ 12 (10 + q) 1 12 0 = μ 12 0 := jm_up_i (by omega)
    have x1 := h0.nx hs
    generalize jm_up μ 12 (10 + q) 1 = m at a0 f0 t0 o0 ⊢
    exact c_K_adv a0 hs (fun m10 b1 b2 _ => h2 _ rfl x1 m10 (f0.trans (kFo.of b1)) (by rw [b1.1 12 (by decide), o0]) b2 (t0.kf b1))
  · rw [if_pos (by omega)] at h1
    exact c_K_fails (fun ν er => jq_Z (h1 (3, _) rfl ν (kFo.rfl.er er)))
theorem c_K_readLine (h0 : kAt μ τ n lim p) (hT : kTb μ T) (h1 : ∀ e, zRl1 (sTok τ n lim) T p = .error e → ∀ ν, kFe kW μ ν e → Q (some (jm_I 0)) ν) (h2 : ∀ x, zRl1 (sTok τ n lim) T p = .ok x → p < x.2 → ∀ ν, kFo kW μ ν → ν 12 0 = μ 12 0 → kAt ν τ n lim x.2 → kTb ν x.1 → Q (some (jm_I 1)) ν) : jc E m_X5_readLine (d + 5) [jm_R 12, jm_R 1] μ Q := by
  refine e_X5_readLine (d := d + 4) (fun _ => ?_)
  refine c_K_isTerm (t := 1) h0 (by decide) (by decide) (fun s t => jq_Z (jb_f (by decide) ⟨is_12, ?_⟩)) (fun n1 => jq_Z (jb_t rfl ?_)) rfl
  rotate_left
  · have e : zRl1 (sTok τ n lim) T p = zRw (sTok τ n lim) T p := by unfold zRl1; rw [if_pos ⟨s, t⟩]
    rw [e] at h1 h2
    exact c_K_readWho h0 (by omega) hT (fun e he ν f => jq_Z (h1 e he ν f)) (fun x hx xp ν f o a t => jq_Z (h2 x hx xp ν f o a t))
  refine c_K_isTerm (t := 2) h0 (by decide) (by decide) (fun s t => jq_Z (jb_f (by decide) ⟨is_12, ?_⟩)) (fun n2 => jq_Z (jb_t rfl ?_)) rfl
  rotate_left
  · have e : zRl1 (sTok τ n lim) T p = zRk1 (sTok τ n lim) T p := by unfold zRl1; rw [if_neg n1, if_pos ⟨s, t⟩]
    rw [e] at h1 h2
    exact c_K_readKind h0 (by omega) hT (fun e he ν f => jq_Z (h1 e he ν f)) (fun x hx xp ν f o a t => jq_Z (h2 x hx xp ν f o a t))
  refine c_K_isTerm (t := 3) h0 (by decide) (by decide) (fun s t => jq_Z (jb_f (by decide) ⟨is_12, ?_⟩)) (fun n3 => jq_Z (jb_t rfl ?_)) rfl
  rotate_left
  · have e : zRl1 (sTok τ n lim) T p = zRm (sTok τ n lim) T p := by unfold zRl1; rw [if_neg n1, if_neg n2, if_pos ⟨s, t⟩]
    rw [e] at h1 h2
    exact c_K_readMay h0 (by omega) hT (fun e he ν f => jq_Z (h1 e he ν f)) (fun x hx xp ν f o a t => jq_Z (h2 x hx xp ν f o a t))
  refine c_K_isTerm (t := 4) h0 (by decide) (by decide) (fun s t => jq_Z (jb_f (by decide) ⟨is_12, ?_⟩)) (fun n4 => jq_Z (jb_t rfl ?_)) rfl
  rotate_left
  · have e : zRl1 (sTok τ n lim) T p = if 0 < T.1 3 then zE (sTok τ n lim) p 3 else zRc (sTok τ n lim) 7 T (zNx (sTok τ n lim) p) := by unfold zRl1; rw [if_neg n1, if_neg n2, if_neg n3, if_pos ⟨s, t⟩]
    rw [e] at h1 h2
    exact c_K_readComb h0 (by omega) hT (fun e he ν f => jq_Z (h1 e he ν f)) (fun x hx xp ν f o a t => jq_Z (h2 x hx xp ν f o a t))
  refine c_K_isTerm (t := 5) h0 (by decide) (by decide) (fun s t => jq_Z (jb_f (by decide) ⟨is_12, ?_⟩)) (fun n5 => jq_Z (jb_t rfl ?_)) rfl
  rotate_left
  · have e : zRl1 (sTok τ n lim) T p = zRo (sTok τ n lim) 4 T p := by unfold zRl1; rw [if_neg n1, if_neg n2, if_neg n3, if_neg n4, if_pos ⟨s, t⟩]
    rw [e] at h1 h2
    exact c_K_once (d := d + 1) (Or.inl rfl) h0 (by omega) hT h1 h2
  refine c_K_isTerm (t := 6) h0 (by decide) (by decide) (fun s t => jq_Z (jb_f (by decide) ⟨is_12, ?_⟩)) (fun n6 => jq_Z (jb_t rfl ?_)) rfl
  rotate_left
  · have e : zRl1 (sTok τ n lim) T p = zRo (sTok τ n lim) 5 T p := by unfold zRl1; rw [if_neg n1, if_neg n2, if_neg n3, if_neg n4, if_neg n5, if_pos ⟨s, t⟩]
    rw [e] at h1 h2
    exact c_K_once (d := d + 1) (Or.inr rfl) h0 (by omega) hT h1 h2
  have e : zRl1 (sTok τ n lim) T p = zE (sTok τ n lim) p 1 := by unfold zRl1; rw [if_neg n1, if_neg n2, if_neg n3, if_neg n4, if_neg n5, if_neg n6]
  rw [e] at h1
  rw [h0.val.1]
  exact c_K_fails (fun ν er => jq_Z (h1 (1, _) rfl ν (kFo.rfl.er er)))
theorem zRl_1 (h : (sTok τ n lim p).1 < 2) : zRl (sTok τ n lim) T p = zE (sTok τ n lim) p 1 := by
  have no : ∀ t, ¬ zIs (sTok τ n lim) p t := fun t q => by have := q.1; omega
  have e : zRl1 (sTok τ n lim) T p = zE (sTok τ n lim) p 1 := by unfold zRl1; rw [if_neg (no 1), if_neg (no 2), if_neg (no 3), if_neg (no 4), if_neg (no 5), if_neg (no 6)]
  exact zBi_e e
theorem g_read : ∀ (f : Nat) (m p : Int) (T : zTs) (ν : jm_M), m + f = 471 → 0 ≤ m → 2 * m ≤ p → ν 12 0 = m → kAt ν τ n lim p → kTb ν T → (∀ e, zRtb (sTok τ n lim) f T m p = .error e → ∀ ξ, kFe kW ν ξ e → Q (some (jm_I 0)) ξ) → (∀ x, zRtb (sTok τ n lim) f T m p = .ok x → ∀ ξ, kFo kW ν ξ → ξ 12 0 = x.2 → kTb ξ x.1 → Q (some (jm_I 1)) ξ) → jg E m_X5_read (d + 6) 13 [some (jm_R 12), some (jm_R 1), some (jm_I m)] [] ν Q
  | 0, m, p, T, ν, g1, g2, g3, g4, h0, hT, h1, h2 => by
    have b1 := h0.1.2.1
    have b2 := h0.2.2.2.2.2.1
    omega
  | f + 1, m, p, T, ν, g1, g2, g3, g4, h0, hT, h1, h2 => by
    have s := h0.s1
    have so := sTok_so (τ := τ) (n := n) (lim := lim) (p := p)
    have b1 := h0.1.2.1
    have b2 := h0.2.2.2.2.2.1
    rw [zRtb] at h1 h2
    refine r_X5_read_13 (d := d + 6) ⟨fun z => absurd z (by omega), fun _ => ⟨fun z => ?_, fun z => ⟨is_12, ?_⟩⟩⟩
    · refine c_K_closes (d := d + 4) h0 (fun e => jq_Z ?_) (fun e ξ er => jq_Z ?_)
      · rw [if_pos e] at h2
        exact h2 _ rfl ν kFo.rfl g4 hT
      · rw [if_neg e] at h1
        have lt : (sTok τ n lim p).1 < 2 := by
          have t := h0.2.2.2.2.2.2
          have e2 : (sTok τ n lim p).1 ≠ 2 := fun q => by have := s.1.mpr q; omega
          have e3 : (sTok τ n lim p).1 ≠ 3 := fun q => by have := s.2.1.mpr q; omega
          have e4 : (sTok τ n lim p).1 ≠ 4 := fun q => by have := s.2.2.1.mpr q; omega
          omega
        exact h1 (1, _) (zBi_e (zRl_1 lt)) ξ (kFo.rfl.er er)
    · have e0 : ¬ (sTok τ n lim p).1 = 0 := fun q => z (s.2.2.2.mp q).1
      rw [if_neg e0] at h1 h2
      refine c_K_readLine (d := d + 1) h0 hT (fun e he ξ fe => jq_Z (jb_t rfl (h1 e (zBi_e (zBi_e he)) ξ fe))) (fun x hx xp m9 fo xo xa xt => jq_Z (jb_f (by decide) ?_))
      refine c_K_takes (d := d + 2) xa (fun s4 v4 ξ b c => jq_Z (jb_t (by decide) ?_)) (fun z2 ξ er => jq_Z (jb_f (by decide) (h1 (1, _) (zBi_e ?_) ξ (fo.er er))))
      · have el : zRl (sTok τ n lim) T p = .ok (x.1, sNx1 τ n lim x.2) := by unfold zRl; rw [zBi_o hx, if_pos ⟨s4, v4⟩]
        rw [zBi_o el] at h1 h2
        have x2 := xa.nx (by omega)
        have o : ξ 12 0 = m := by rw [b.1 12 (by decide), xo, g4]
        rw [o, jm_wr_id (by omega) (by omega)]
        have fu : kFo kW m9 (jm_up ξ 12 0 (m + 1)) := (kFo.of b).trans (kFo.up (by decide) (by decide))
        refine g_read f (m + 1) _ x.1 (jm_up ξ 12 0 (m + 1)) (by omega) (by omega) (by show 2 * (m + 1) ≤ sNx1 τ n lim x.2; omega) jm_up_at (c.kf (jm_up_ne (by decide)) (jm_up_ne (by decide))) ?_ (fun e he ζ fe => h1 e he ζ (fo.fe (fu.fe fe))) (fun y hy ζ f2 o2 t2 => h2 y hy ζ (fo.trans (fu.trans f2)) o2 t2)
        obtain ⟨⟨⟨t0, t1, t2, t3, t4, t5, t6, t7, t8, t9⟩, n0, n1, z13⟩, c13, hz⟩ := xt.kf b
        have uu : ∀ j, j ≠ 0 → jm_up ξ 12 0 (m + 1) 12 j = ξ 12 j := fun j hj => jm_up_i hj
        have ux : ∀ x, x ≠ 12 → jm_up ξ 12 0 (m + 1) x = ξ x := fun x hx => jm_up_ne hx
        generalize jm_up ξ 12 0 (m + 1) = ζ at uu ux ⊢
        unfold kTb tTb tRu
        rw [uu 1 (by decide), uu 4 (by decide), uu 10 (by decide), uu 11 (by decide), uu 14 (by decide), uu 15 (by decide), uu 13 (by decide), ux (12 + 8) (by decide), ux (12 + 2) (by decide), ux (12 + 4) (by decide), ux (12 + 5) (by decide), ux (12 + 6) (by decide), ux (12 + 7) (by decide), ux (12 + 1) (by decide), ux (12 + 3) (by decide)]
        exact ⟨⟨⟨t0, t1, t2, t3, t4, t5, t6, t7, t8, t9⟩, n0, n1, z13⟩, c13, hz⟩
      · unfold zRl; rw [zBi_o hx, if_neg z2]; rfl
end KR
