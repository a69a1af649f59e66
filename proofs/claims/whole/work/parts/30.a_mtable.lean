/-! a table's lines, in the reference -/
section MT
variable {E : jm_E} {d : Nat} {μ : jm_M} {Q : Option jm_V → jm_M → Prop} {τ : Int → Int} {n lim p : Int} {T : zTs}
abbrev mW : Int → Prop := fun x => x = 136 ∨ x = 140
def mTa (ν : jm_M) (T : zTs) : Prop := (∀ i, 0 ≤ i → i < 60 → ν 136 i = T.1 i) ∧ (∀ i, 0 ≤ i → i < T.1 0 → ν 140 i = sNa (T.2.1 i)) ∧ (∀ i, 0 ≤ i → i < T.1 1 → ν 140 (8 + i) = sNa (T.2.2 i)) ∧ zTi T
theorem mTa.of {ν : jm_M} (h : mTa μ T) (h1 : ν 136 = μ 136) (h2 : ν 140 = μ 140) : mTa ν T := by unfold mTa; rw [h1, h2]; exact h
theorem mAt.val (h : mAt μ τ n lim p) : μ 133 7 = (sTok τ n lim p).1 ∧ μ 133 6 = (sTok τ n lim p).2.1 ∧ ((sTok τ n lim p).1 = 2 → μ 133 12 = sNa (sTok τ n lim p).2.2.2) := ⟨h.2.2.2.2.2.1, h.2.2.2.2.2.2.1, h.2.2.2.2.2.2.2.1⟩
theorem mAt.nx (h : mAt μ τ n lim p) (hs : 2 ≤ (sTok τ n lim p).1) : p < sNx1 τ n lim p := (sTok_nx h.2.2.2.1 h.2.2.2.2.1 hs).1
theorem mAt.kf {ν : jm_M} (h : mAt μ τ n lim p) (h1 : ν 133 = μ 133) (h2 : ν 134 = μ 134) : mAt ν τ n lim p := h.of (fun j _ => by rw [h1]) h2
theorem c_M_bad1 (h0 : mAt μ τ n lim p) (h : ∀ ν, mEr μ ν 1 (sTok τ n lim p).2.1 → Q (some (jm_I 0)) ν) : jc E m_X11_bad (d + 1) [jm_R 133, jm_I 1] μ Q :=
  c_M_bad h0 (fun ν e => h ν (by have : (if (sTok τ n lim p).1 = 1 then (1 : Int) else 1) = 1 := by split <;> rfl
                                 rw [this] at e; exact e))
theorem c_M_bad2 {f : Int} (h0 : mAt μ τ n lim p) (hs : (sTok τ n lim p).1 ≠ 1) (h : ∀ ν, mEr μ ν f (sTok τ n lim p).2.1 → Q (some (jm_I 0)) ν) : jc E m_X11_bad (d + 1) [jm_R 133, jm_I f] μ Q :=
  c_M_bad h0 (fun ν e => h ν (by rw [if_neg hs] at e; exact e))
theorem c_M_findW {v : Int} (hT : mTa μ T) (hv : sNv v) (hw : μ 133 12 = sNa v) (h : Q (some (jm_I (zFd T.2.1 v (T.1 0).toNat 0))) μ) : jc E m_X11_findIn (d + 1) [jm_R 133, jm_R 140, jm_I 0, jm_I (T.1 0)] μ Q := by
  have w0 := hT.2.2.2.1.1
  have w1 := hT.2.2.2.1.2.1
  refine c_M_findIn (by decide) w0 (by omega) (fun j j0 j1 => ixl_140 j0 j1) hv (fun i i0 i1 => ⟨hT.2.2.2.2.1 i i0 i1, ?_⟩) hw h
  rw [show (0 : Int) + i = i by omega]
  exact hT.2.1 i i0 i1
theorem c_M_findK {v : Int} (hT : mTa μ T) (hv : sNv v) (hw : μ 133 12 = sNa v) (h : Q (some (jm_I (zFd T.2.2 v (T.1 1).toNat 0))) μ) : jc E m_X11_findIn (d + 1) [jm_R 133, jm_R 140, jm_I 8, jm_I (T.1 1)] μ Q := by
  have w0 := hT.2.2.2.1.2.2.1
  have w1 := hT.2.2.2.1.2.2.2.1
  exact c_M_findIn (by decide) w0 (by omega) (fun j j0 j1 => ixl_140 j0 j1) hv (fun i i0 i1 => ⟨hT.2.2.2.2.2.1 i i0 i1, hT.2.2.1 i i0 i1⟩) hw h
theorem c_M_readNew {s : Int} (s0 : 0 ≤ s) (s1 : s < 18) (h0 : mAt μ τ n lim p) (hT : mTa μ T) (h1 : ∀ e, zNN (sTok τ n lim) T p = .error e → ∀ ν, mEr μ ν e.1 e.2 → Q (some (jm_I 0)) ν) (h2 : (sTok τ n lim p).1 = 2 → zNN (sTok τ n lim) T p = .ok (sTok τ n lim p).2.2.2 → ∀ ν, mFo mW μ ν → ν 136 = μ 136 → ν 140 s = sNa (sTok τ n lim p).2.2.2 → (∀ i, i ≠ s → ν 140 i = μ 140 i) → mAt ν τ n lim (sNx1 τ n lim p) → Q (some (jm_I 1)) ν) : jc E m_X11_readNew (d + 4) [jm_R 133, jm_I s] μ Q := by
  have e0 : μ 136 0 = T.1 0 := hT.1 0 (by decide) (by decide)
  have e1 : μ 136 1 = T.1 1 := hT.1 1 (by decide) (by decide)
  refine e_X11_readNew (d := d + 3) (fun _ => c_M_isName h0 (fun a b => jq_Z (jb_t (by decide) ?_)) (fun z => jq_Z (jb_f (by decide) (c_M_bad1 h0 (fun ν er => jq_Z (h1 (1, _) (by unfold zNN; rw [if_pos z]; rfl) ν er))))))
  have nm : ¬ ¬ zIs (sTok τ n lim) p 0 := Decidable.not_not.mpr ⟨a, b⟩
  have nv := sTok_nv a
  have hw := h0.val.2.2 a
  rw [e0]
  refine c_M_findW hT nv hw (jq_I ⟨fun y => c_M_bad2 h0 (by omega) (fun ν er => jq_Z (h1 (3, _) (by unfold zNN; rw [if_neg nm, if_pos (Or.inl y)]; rfl) ν er)), fun y => ?_⟩)
  rw [e1]
  refine c_M_findK hT nv hw (jq_I ⟨fun y2 => ⟨⟨s0, s1⟩, fun m15 h15 => ?_⟩, fun y2 => c_M_bad2 h0 (by omega) (fun ν er => jq_Z (h1 (3, _) (by unfold zNN; rw [if_neg nm, if_pos (Or.inr y2)]; rfl) ν er))⟩)
  rw [hw] at h15
  have a15 : mAt m15 τ n lim p := h0.kf (by rw [h15, jm_up_ne (by decide)]) (by rw [h15, jm_up_ne (by decide)])
  have f15 : mFo mW μ m15 := by rw [h15]; exact mFo.up (Or.inr rfl) (by decide)
  exact c_M_adv a15 (by omega) (fun ν f k _ => h2 a (by unfold zNN; rw [if_neg nm, if_neg (fun q => q.elim y (fun q => q y2))]) ν (f15.trans (mFo.of f)) (by rw [f.1 136 (by decide), h15, jm_up_ne (by decide)]) (by rw [f.1 140 (by decide), h15]; exact jm_up_at) (fun i hi => by rw [f.1 140 (by decide), h15]; exact jm_up_i hi) k)
theorem c_M_num {lo hi : Int} (h0 : mAt μ τ n lim p) (h1 : ∀ e, zNu (sTok τ n lim) p lo hi = .error e → ∀ ν, mEr μ ν e.1 e.2 → Q (some (jm_I 0)) ν) (h2 : (sTok τ n lim p).1 = 3 → zNu (sTok τ n lim) p lo hi = .ok (sTok τ n lim p).2.2.2 → lo ≤ (sTok τ n lim p).2.2.2 → (sTok τ n lim p).2.2.2 ≤ hi → ∀ ν, mFo (fun _ => False) μ ν → ν 133 13 = (sTok τ n lim p).2.2.2 → mAt ν τ n lim (sNx1 τ n lim p) → Q (some (jm_I 1)) ν) : jc E m_X11_readNumber (d + 3) [jm_R 133, jm_I lo, jm_I hi] μ Q :=
  c_M_readNumber h0 (fun a b c ν g1 g2 g3 g4 => h2 a (by unfold zNu; rw [if_neg (Decidable.not_not.mpr a), if_pos ⟨b, c⟩]) b c ν ⟨fun x hx _ => g1 x hx, g2⟩ g3 g4) (fun a ν er => h1 (1, _) (by unfold zNu; rw [if_pos a]; rfl) ν er) (fun a b ν er => h1 (2, _) (by unfold zNu; rw [if_neg (Decidable.not_not.mpr a), if_neg b]; rfl) ν er)
theorem mFo.wi {W : Int → Prop} {ν : jm_M} (h : mFo (fun _ => False) μ ν) : mFo W μ ν := ⟨fun x hx _ => h.1 x hx (fun z => z), h.2⟩
theorem c_M_readWho (h0 : mAt μ τ n lim p) (hs : 2 ≤ (sTok τ n lim p).1) (hT : mTa μ T) (h1 : ∀ e, zRw (sTok τ n lim) T p = .error e → ∀ ν, mFe mW μ ν e → Q (some (jm_I 0)) ν) (h2 : ∀ x, zRw (sTok τ n lim) T p = .ok x → p < x.2 → ∀ ν, mFo mW μ ν → mAt ν τ n lim x.2 → mTa ν x.1 → Q (some (jm_I 1)) ν) : jc E m_X11_readWho (d + 5) [jm_R 133] μ Q := by
  have w0 := hT.2.2.2.1.1
  have w1 := hT.2.2.2.1.2.1
  have e0 : μ 136 0 = T.1 0 := hT.1 0 (by decide) (by decide)
  refine e_X11_readWho (d := d + 4) (fun _ x1 hx1 => ?_)
  rw [e0] at hx1
  subst hx1
  refine ⟨fun z => ?_, fun z => ?_⟩
  · refine c_M_adv h0 hs (fun m3 a1 a2 _ => ?_)
    have hT3 : mTa m3 T := hT.of (a1.1 136 (by decide)) (a1.1 140 (by decide))
    refine c_M_readNew w0 (by omega) a2 hT3 (fun e he ν er => jq_Z (jb_t rfl (h1 e (by unfold zRw; rw [if_neg z]; exact zBi_e he) ν ((mFo.of a1).er er)))) (fun s3 he m4 b1 b2 b3 b4 b5 => jq_Z (jb_f (by decide) ?_))
    refine c_M_num b5 (fun e he2 ν er => jq_Z (jb_f (by decide) (h1 e (by unfold zRw; rw [if_neg z]; rw [zBi_o he]; exact zBi_e he2) ν (((mFo.of a1).trans b1).er er)))) (fun s4 he2 r0 r1 m8 c1 c2 c3 => jq_Z (jb_t (by decide) ?_))
    rw [jm_wr_id (a := 12 + T.1 0) (by omega) (by omega)]
    refine ⟨⟨by omega, by omega⟩, fun m13 h13 m14 h14 => ?_⟩
    have g8 : ∀ x, x ≠ 133 → m8 x = m4 x := fun x hx => c1.1 x hx (fun q => q)
    have e8 : ∀ i, m8 136 i = μ 136 i := fun i => by rw [g8 136 (by decide), b2, a1.1 136 (by decide)]
    have e13 : m13 136 0 = T.1 0 := by rw [h13, jm_up_i (by omega), e8]; exact e0
    rw [e13, jm_wr_id (by omega) (by omega)] at h14
    rw [c2] at h13
    have f14 : mFo mW m8 m14 := by rw [h14, h13]; exact (mFo.up (Or.inl rfl) (by decide)).trans (mFo.up (Or.inl rfl) (by decide))
    have z1 := h0.nx hs
    have z2 := a2.nx (by omega)
    have z3 := b5.nx (by omega)
    refine h2 (_, _) (by unfold zRw; rw [if_neg z]; rw [zBi_o he]; rw [zBi_o he2]) (by show p < sNx1 τ n lim (sNx1 τ n lim (sNx1 τ n lim p)); omega) m14 ((((mFo.of a1).trans b1).trans c1.wi).trans f14) (c3.kf (by rw [h14, jm_up_ne (by decide), h13, jm_up_ne (by decide)]) (by rw [h14, jm_up_ne (by decide), h13, jm_up_ne (by decide)])) ⟨fun i i0 i1 => ?_, fun i i0 i1 => ?_, fun i i0 i1 => ?_, zTi_who hT.2.2.2 z r0 r1 (sTok_nv s3)⟩
    · show m14 136 i = sUp (sUp T.1 (12 + T.1 0) (sTok τ n lim (sNx1 τ n lim (sNx1 τ n lim p))).2.2.2) 0 (T.1 0 + 1) i
      rw [h14]
      by_cases q0 : i = 0
      · rw [q0, jm_up_at]; exact sUp_at.symm
      · rw [jm_up_i q0, h13]
        rw [sUp_ne q0]
        by_cases q1 : i = 12 + T.1 0
        · rw [q1, jm_up_at, sUp_at]
        · rw [jm_up_i q1, sUp_ne q1, e8]; exact hT.1 i i0 i1
    · have j1 : i < T.1 0 + 1 := by
        dsimp only at i1; rw [sUp_at] at i1; exact i1
      dsimp only
      rw [h14, jm_up_lj (by decide), h13, jm_up_lj (by decide), g8 140 (by decide)]
      by_cases q : i = T.1 0
      · rw [q, b3, sUp_at]
      · rw [b4 i q, sUp_ne q, a1.1 140 (by decide)]; exact hT.2.1 i i0 (by omega)
    · have j1 : i < T.1 1 := by
        dsimp only at i1; rw [sUp_ne (by decide), sUp_ne (by omega)] at i1; exact i1
      rw [h14, jm_up_lj (by decide), h13, jm_up_lj (by decide), g8 140 (by decide), b4 _ (by omega), a1.1 140 (by decide)]; exact hT.2.2.1 i i0 j1
  · have c8 := Decidable.not_not.mp z
    exact c_M_bad2 h0 (by omega) (fun ν er => jq_Z (h1 (4, _) (by unfold zRw; rw [if_pos c8]; rfl) ν (mFo.rfl.er er)))
end MT
