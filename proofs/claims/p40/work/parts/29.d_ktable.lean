/-! a table's lines, in the class -/
section KT
variable {E : jm_E} {d : Nat} {μ : jm_M} {Q : Option jm_V → jm_M → Prop} {τ : Int → Int} {n lim p : Int} {T : zTs}
abbrev kW : Int → Prop := fun x => 12 ≤ x ∧ x ≤ 20
theorem kAt.kf {ν : jm_M} (h : kAt μ τ n lim p) (h1 : ν 1 = μ 1) (h2 : ν 2 = μ 2) : kAt ν τ n lim p := h.of h1 h2
theorem kAt.val (h : kAt μ τ n lim p) : μ 1 5 = (sTok τ n lim p).2.1 ∧ ((sTok τ n lim p).1 = 2 → μ 1 6 = (sTok τ n lim p).2.2.2) ∧ ((sTok τ n lim p).1 = 3 → μ 1 8 = (sTok τ n lim p).2.2.2) :=
  ⟨h.2.2.2.2.2.2.1, fun e => (h.2.2.2.2.2.2.2.2.2.1 e).2.1, fun e => (h.2.2.2.2.2.2.2.2.2.2.1 e).2⟩
theorem kAt.nx (h : kAt μ τ n lim p) (hs : 2 ≤ (sTok τ n lim p).1) : p < sNx1 τ n lim p := (sTok_nx h.2.2.2.2.1 h.2.2.2.2.2.1 hs).1
theorem c_K_isNewName (h0 : kAt μ τ n lim p) (hT : kTb μ T) (h1 : ∀ e, zNN (sTok τ n lim) T p = .error e → ∀ ν, kEr μ ν e.1 e.2 → Q (some (jm_I 0)) ν) (h2 : (sTok τ n lim p).1 = 2 → zNN (sTok τ n lim) T p = .ok (sTok τ n lim p).2.2.2 → Q (some (jm_I 1)) μ) : jc E m_X5_isNewName (d + 2) [jm_R 12, jm_R 1] μ Q := by
  obtain ⟨e5, e6, -⟩ := h0.val
  have f3 : (sTok τ n lim p).1 = 2 → zNN (sTok τ n lim) T p = .error (3, (sTok τ n lim p).2.1) → jg E m_X5_isNewName (d + 1) 41 [none, some (jm_R 1), none] [] μ Q := fun a e => by
    refine r_X5_isNewName_41 (d := d + 1) ?_
    rw [e5]
    exact c_K_fails (fun ν er => jq_Z (jb_t rfl (h1 _ e ν er)))
  refine e_X5_isNewName (d := d + 1) (fun _ => c_K_isName h0 (fun a b => jq_Z (jb_t (by decide) ⟨is_12, ?_⟩)) (fun z => jq_Z (jb_f (by decide) ?_)))
  · rw [e6 a]
    have nm : ¬ ¬ zIs (sTok τ n lim) p 0 := Decidable.not_not.mpr ⟨a, b⟩
    refine c_T_whoNamed is_12 hT.2.2.1 hT.1.1.1 hT.1.2.1 (jq_I ⟨fun y => f3 a (by unfold zNN; rw [if_neg nm, if_pos (Or.inl y)]; rfl), fun y => ?_⟩)
    rw [e6 a]
    refine c_T_kindNamed is_12 hT.2.2.1 hT.1.1.2.1 hT.1.2.2.1 (jq_I ⟨fun y2 => h2 a (by unfold zNN; rw [if_neg nm, if_neg (fun q => q.elim (fun q => y q) (fun q => q y2))]), fun y2 => f3 a (by unfold zNN; rw [if_neg nm, if_pos (Or.inr y2)]; rfl)⟩)
  · rw [e5]
    exact c_K_fails (fun ν er => jq_Z (h1 (1, _) (by unfold zNN; rw [if_pos z]; rfl) ν er))
theorem c_K_num {lo hi : Int} (h0 : kAt μ τ n lim p) (h1 : ∀ e, zNu (sTok τ n lim) p lo hi = .error e → ∀ ν, kEr μ ν e.1 e.2 → Q (some (jm_I 0)) ν) (h2 : (sTok τ n lim p).1 = 3 → zNu (sTok τ n lim) p lo hi = .ok (sTok τ n lim p).2.2.2 → lo ≤ (sTok τ n lim p).2.2.2 → (sTok τ n lim p).2.2.2 ≤ hi → Q (some (jm_I 1)) μ) : jc E m_X7_isNumber (d + 2) [jm_R 1, jm_I lo, jm_I hi] μ Q :=
  c_K_isNumber h0 (fun a b c => h2 a (by unfold zNu; rw [if_neg (Decidable.not_not.mpr a), if_pos ⟨b, c⟩]) b c) (fun a ν er => h1 (1, _) (by unfold zNu; rw [if_pos a]; rfl) ν er) (fun a b ν er => h1 (2, _) (by unfold zNu; rw [if_neg (Decidable.not_not.mpr a), if_neg b]; rfl) ν er)
theorem c_K_readWho (h0 : kAt μ τ n lim p) (hs : 2 ≤ (sTok τ n lim p).1) (hT : kTb μ T) (h1 : ∀ e, zRw (sTok τ n lim) T p = .error e → ∀ ν, kFe kW μ ν e → Q (some (jm_I 0)) ν) (h2 : ∀ x, zRw (sTok τ n lim) T p = .ok x → p < x.2 → ∀ ν, kFo kW μ ν → ν 12 0 = μ 12 0 → kAt ν τ n lim x.2 → kTb ν x.1 → Q (some (jm_I 1)) ν) : jc E m_X5_readWho (d + 4) [jm_R 12, jm_R 1] μ Q := by
  have w0 := hT.2.2.1.1
  have w1 := hT.2.2.1.2.1
  have e0 : μ 12 1 = T.1 0 := hT.1.1.1
  refine e_X5_readWho (d := d + 3) (fun _ => ⟨is_12, fun z => ?_, fun z => ?_⟩)
  · have c8 : ¬ T.1 0 = 8 := by omega
    refine c_K_adv h0 hs (fun m3 a1 a2 _ => ?_)
    have hT3 := hT.kf a1
    refine c_K_isNewName a2 hT3 (fun e he ν er => jq_Z (jb_f (by decide) (h1 e (by unfold zRw; rw [if_neg c8]; exact zBi_e he) ν ((kFo.of a1).er er)))) (fun s3 he => jq_Z (jb_t (by decide) ?_))
    have e3 : m3 12 1 = T.1 0 := hT3.1.1.1
    rw [e3]
    refine ⟨⟨w0, by omega⟩, fun m9 h9 => ?_⟩
    rw [a2.val.2.1 s3] at h9
    have f9 : kFo kW m3 m9 := by rw [h9]; exact kFo.up (by decide) (by decide)
    have a9 : kAt m9 τ n lim (sNx1 τ n lim p) := a2.kf (by rw [h9, jm_up_ne (by decide)]) (by rw [h9, jm_up_ne (by decide)])
    refine c_K_adv a9 (by omega) (fun m10 b1 b2 _ => c_K_num b2 (fun e he2 ν er => jq_Z (jb_f (by decide) (h1 e (by unfold zRw; rw [if_neg c8]; rw [zBi_o he]; exact zBi_e he2) ν ((((kFo.of a1).trans f9).trans (kFo.of b1)).er er)))) (fun s4 he2 r0 r1 => jq_Z (jb_t (by decide) ?_)))
    have q10 : ∀ q, q ≠ 1 → q ≠ 13 → m10 q = μ q := fun q x1 x2 => by rw [b1.1 q x1, h9, jm_up_ne (show q ≠ 12 + 1 by omega), a1.1 q x1]
    rw [q10 12 (by decide) (by decide), e0, b2.val.2.2 s4]
    refine ⟨⟨w0, by omega⟩, fun m16 h16 => ?_⟩
    have e16 : m16 12 1 = T.1 0 := by rw [h16, jm_up_lj (by decide), q10 12 (by decide) (by decide)]; exact e0
    rw [e16, jm_wr_id (by omega) (by omega)]
    have f16 : kFo kW m10 (jm_up m16 12 1 (T.1 0 + 1)) := by rw [h16]; exact (kFo.up (by decide) (by decide)).trans (kFo.up (by decide) (by decide))
    have a16 : kAt (jm_up m16 12 1 (T.1 0 + 1)) τ n lim (sNx1 τ n lim (sNx1 τ n lim p)) := b2.kf (by rw [jm_up_ne (by decide), h16, jm_up_ne (by decide)]) (by rw [jm_up_ne (by decide), h16, jm_up_ne (by decide)])
    refine c_K_adv a16 (by omega) (fun m17 c1 c2 _ => ?_)
    refine h2 (_, _) (by unfold zRw; rw [if_neg c8]; rw [zBi_o he]; rw [zBi_o he2]) ?_ m17 ((((kFo.of a1).trans f9).trans (kFo.of b1)).trans (f16.trans (kFo.of c1))) ?_ c2 ?_
    · have x1 := h0.nx hs
      have x2 := a2.nx (by omega)
      have x3 := b2.nx (by omega)
      show p < sNx1 τ n lim (sNx1 τ n lim (sNx1 τ n lim p))
      omega
    · rw [c1.1 12 (by decide), jm_up_i (by decide), h16, jm_up_lj (by decide), q10 12 (by decide) (by decide)]
    · refine kTb_who hT c8 r0 r1 (sTok_nv s3) ?_ (fun j hj => ?_) ?_ (fun i hi => ?_) ?_ (fun i hi => ?_) (fun x x0 x1 => ?_)
      · rw [c1.1 12 (by decide), jm_up_at]
      · rw [c1.1 12 (by decide), jm_up_i hj, h16, jm_up_lj (by decide), q10 12 (by decide) (by decide)]
      · rw [c1.1 13 (by decide), jm_up_lj (by decide), h16, jm_up_lj (by decide), b1.1 13 (by decide), h9]; exact jm_up_at
      · rw [c1.1 13 (by decide), jm_up_lj (by decide), h16, jm_up_lj (by decide), b1.1 13 (by decide), h9]; exact (jm_up_i hi).trans (by rw [a1.1 13 (by decide)])
      · rw [c1.1 14 (by decide), jm_up_lj (by decide), h16]; exact jm_up_at
      · rw [c1.1 14 (by decide), jm_up_lj (by decide), h16]; exact (jm_up_i hi).trans (by rw [q10 14 (by decide) (by decide)])
      · rw [c1.1 x (by omega), jm_up_ne (by omega), h16, jm_up_ne (by omega), q10 x (by omega) (by omega)]
  · have c8 : T.1 0 = 8 := by omega
    rw [h0.val.1]
    exact c_K_fails (fun ν er => jq_Z (h1 (4, _) (by unfold zRw; rw [if_pos c8]; rfl) ν ((kFo.rfl).er er)))
end KT
