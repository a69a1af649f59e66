/-! a table's lines, in the reference: kinds -/
section MK
variable {E : jm_E} {d : Nat} {μ : jm_M} {Q : Option jm_V → jm_M → Prop} {τ : Int → Int} {n lim p : Int} {T : zTs}
theorem mTa_kind {ν : jm_M} {v a b c : Int} (hT : mTa μ T) (c10 : T.1 1 ≠ 10) (a0 : 0 ≤ a) (a1 : a ≤ 2) (b0 : 0 ≤ b) (b1 : b ≤ 6) (c0 : 0 ≤ c) (c1 : c ≤ 99) (hv : sNv v) (e1 : ν 136 1 = T.1 1 + 1) (ea : ν 136 (20 + 4 * T.1 1) = a ∧ ν 136 (21 + 4 * T.1 1) = b ∧ ν 136 (22 + 4 * T.1 1) = c) (eo : ∀ i, i ≠ 1 → i ≠ 20 + 4 * T.1 1 → i ≠ 21 + 4 * T.1 1 → i ≠ 22 + 4 * T.1 1 → ν 136 i = μ 136 i) (n8 : ν 140 (8 + T.1 1) = sNa v) (no : ∀ i, i ≠ 8 + T.1 1 → ν 140 i = μ 140 i) : mTa ν (zKd T.1 a b c, T.2.1, sUp T.2.2 (T.1 1) v) := by
  have w2 := hT.2.2.2.1.2.2.1
  have w3 := hT.2.2.2.1.2.2.2.1
  have w1 := hT.2.2.2.1.2.1
  have z := hT.2.2.2.2.2.2 (T.1 1) (Int.le_refl _) (by omega)
  obtain ⟨u, u1, ua, ub, uc, ud⟩ := zKd_u (a := a) (b := b) (c := c) w2
  refine ⟨fun i i0 i1 => ?_, fun i i0 i1 => ?_, fun i i0 i1 => ?_, zTi_kind hT.2.2.2 c10 a0 a1 b0 b1 c0 c1 hv⟩
  · show ν 136 i = zKd T.1 a b c i
    by_cases q1 : i = 1
    · rw [q1, e1, u1]
    by_cases q2 : i = 20 + 4 * T.1 1
    · rw [q2, ea.1, ua]
    by_cases q3 : i = 21 + 4 * T.1 1
    · rw [q3, ea.2.1, ub]
    by_cases q4 : i = 22 + 4 * T.1 1
    · rw [q4, ea.2.2, uc]
    rw [eo i q1 q2 q3 q4, hT.1 i i0 i1]
    by_cases q5 : i = 23 + 4 * T.1 1
    · rw [q5, ud, z.2]
    · rw [u i q1 (by omega)]
  · dsimp only at i1
    rw [u 0 (by decide) (by omega)] at i1
    dsimp only
    rw [no i (by omega)]; exact hT.2.1 i i0 i1
  · dsimp only at i1
    rw [u1] at i1
    dsimp only
    by_cases q : i = T.1 1
    · rw [q, n8, sUp_at]
    · rw [no _ (by omega), sUp_ne q]; exact hT.2.2.1 i i0 (by omega)
/-- a kind that is half told -/
def mHk (μ ν : jm_M) (T : zTs) (v a : Int) : Prop := (∀ i, i ≠ 20 + 4 * T.1 1 → i ≠ 21 + 4 * T.1 1 → ν 136 i = μ 136 i) ∧ ν 136 (20 + 4 * T.1 1) = a ∧ ν 140 (8 + T.1 1) = sNa v ∧ ∀ i, i ≠ 8 + T.1 1 → ν 140 i = μ 140 i
theorem mHk.of {ν ξ : jm_M} {v a : Int} (h : mHk μ ν T v a) (h1 : ξ 136 = ν 136) (h2 : ξ 140 = ν 140) : mHk μ ξ T v a := by unfold mHk; rw [h1, h2]; exact h
theorem g_M_150 {ν : jm_M} {v a b : Int} (h0 : mAt ν τ n lim p) (hT : mTa μ T) (c10 : T.1 1 ≠ 10) (hH : mHk μ ν T v a) (hb : ν 136 (21 + 4 * T.1 1) = b) (a0 : 0 ≤ a) (a1 : a ≤ 2) (b0 : 0 ≤ b) (b1 : b ≤ 6) (hv : sNv v) (h1 : b = 2 → ∀ e, zNu (sTok τ n lim) p 1 99 = .error e → ∀ ξ, mFe mW ν ξ e → Q (some (jm_I 0)) ξ) (h2 : b ≠ 2 → ∀ ξ, mFo mW ν ξ → mAt ξ τ n lim p → mTa ξ (zKd T.1 a b 0, T.2.1, sUp T.2.2 (T.1 1) v) → Q (some (jm_I 1)) ξ)
    (h3 : b = 2 → (sTok τ n lim p).1 = 3 → ∀ c, zNu (sTok τ n lim) p 1 99 = .ok c → ∀ ξ, mFo mW ν ξ → mAt ξ τ n lim (sNx1 τ n lim p) → mTa ξ (zKd T.1 a 2 c, T.2.1, sUp T.2.2 (T.1 1) v) → Q (some (jm_I 1)) ξ) : jg E m_X11_readKind (d + 3) 150 [some (jm_R 133), none, some (jm_I (20 + 4 * T.1 1)), none] [] ν Q := by
  have w2 := hT.2.2.2.1.2.2.1
  have w3 := hT.2.2.2.1.2.2.2.1
  have z := hT.2.2.2.2.2.2 (T.1 1) (Int.le_refl _) (by omega)
  have e1 : ν 136 1 = T.1 1 := by rw [hH.1 1 (by omega) (by omega)]; exact hT.1 1 (by decide) (by decide)
  have e22 : ν 136 (22 + 4 * T.1 1) = 0 := by rw [hH.1 _ (by omega) (by omega), hT.1 _ (by omega) (by omega)]; exact z.1
  refine r_X11_readKind_150 (d := d + 3) ?_
  rw [jm_wr_id (a := 20 + 4 * T.1 1 + 1) (by omega) (by omega), jm_wr_id (a := 20 + 4 * T.1 1 + 2) (by omega) (by omega), show 20 + 4 * T.1 1 + 1 = 21 + 4 * T.1 1 by omega, show 20 + 4 * T.1 1 + 2 = 22 + 4 * T.1 1 by omega, hb, e1, jm_wr_id (by omega) (by omega)]
  refine ⟨⟨by omega, by omega⟩, fun y m3 h3' => ?_, fun y => ?_⟩
  · refine h2 y m3 (by rw [h3']; exact mFo.up (Or.inl rfl) (by decide)) (h0.kf (by rw [h3', jm_up_ne (by decide)]) (by rw [h3', jm_up_ne (by decide)])) (mTa_kind hT c10 a0 a1 b0 b1 (by decide) (by decide) hv (by rw [h3', jm_up_at]) ⟨?_, ?_, ?_⟩ (fun i q1 q2 q3 q4 => ?_) ?_ (fun i hi => ?_))
    · rw [h3', jm_up_i (by omega)]; exact hH.2.1
    · rw [h3', jm_up_i (by omega)]; exact hb
    · rw [h3', jm_up_i (by omega)]; exact e22
    · rw [h3', jm_up_i q1]; exact hH.1 i q2 q3
    · rw [h3', jm_up_lj (by decide)]; exact hH.2.2.1
    · rw [h3', jm_up_lj (by decide)]; exact hH.2.2.2 i hi
  · have yb := Decidable.not_not.mp y
    refine c_M_num h0 (fun e he ξ er => jq_Z (jb_f (by decide) (h1 yb e he ξ (mFo.rfl.er er)))) (fun s4 he r0 r1 m4 c1 c2 c3 => jq_Z (jb_t (by decide) ⟨⟨by omega, by omega⟩, fun m9 h9 m10 h10 => ?_⟩))
    have g4 : ∀ x, x ≠ 133 → m4 x = ν x := fun x hx => c1.1 x hx (fun q => q)
    rw [c2] at h9
    have e9 : m9 136 1 = T.1 1 := by rw [h9, jm_up_i (by omega), g4 136 (by decide)]; exact e1
    rw [e9, jm_wr_id (by omega) (by omega)] at h10
    have f10 : mFo mW m4 m10 := by rw [h10, h9]; exact (mFo.up (Or.inl rfl) (by decide)).trans (mFo.up (Or.inl rfl) (by decide))
    refine h3 yb s4 _ he m10 (c1.wi.trans f10) (c3.kf (by rw [h10, jm_up_ne (by decide), h9, jm_up_ne (by decide)]) (by rw [h10, jm_up_ne (by decide), h9, jm_up_ne (by decide)])) (mTa_kind hT c10 a0 a1 (by decide) (by decide) (by omega) (by omega) hv (by rw [h10, jm_up_at]) ⟨?_, ?_, ?_⟩ (fun i q1 q2 q3 q4 => ?_) ?_ (fun i hi => ?_))
    · rw [h10, jm_up_i (by omega), h9, jm_up_i (by omega), g4 136 (by decide)]; exact hH.2.1
    · rw [h10, jm_up_i (by omega), h9, jm_up_i (by omega), g4 136 (by decide), hb]; exact yb
    · rw [h10, jm_up_i (by omega), h9, jm_up_at]
    · rw [h10, jm_up_i q1, h9, jm_up_i q4, g4 136 (by decide)]; exact hH.1 i q2 q3
    · rw [h10, jm_up_lj (by decide), h9, jm_up_lj (by decide), g4 140 (by decide)]; exact hH.2.2.1
    · rw [h10, jm_up_lj (by decide), h9, jm_up_lj (by decide), g4 140 (by decide)]; exact hH.2.2.2 i hi
theorem g_M_96 {ν : jm_M} {v a : Int} (h0 : mAt ν τ n lim p) (hT : mTa μ T) (c10 : T.1 1 ≠ 10) (hH : mHk μ ν T v a) (a0 : 0 ≤ a) (a1 : a ≤ 2) (hv : sNv v) (h1 : ∀ e, zRk2 (sTok τ n lim) T v a p = .error e → ∀ ξ, mFe mW ν ξ e → Q (some (jm_I 0)) ξ) (h2 : ∀ x, zRk2 (sTok τ n lim) T v a p = .ok x → p ≤ x.2 → ∀ ξ, mFo mW ν ξ → mAt ξ τ n lim x.2 → mTa ξ x.1 → Q (some (jm_I 1)) ξ) : jg E m_X11_readKind (d + 3) 96 [some (jm_R 133), none, some (jm_I (20 + 4 * T.1 1)), some (jm_I 8)] [] ν Q := by
  have w2 := hT.2.2.2.1.2.2.1
  have w3 := hT.2.2.2.1.2.2.2.1
  have st := sTm_in (v := (sTok τ n lim p).2.2.2)
  have tell : ∀ (w : Int) (m : jm_M), m = jm_up ν 136 (21 + 4 * T.1 1) w → mHk μ m T v a ∧ m 136 (21 + 4 * T.1 1) = w ∧ mFo mW ν m ∧ mAt m τ n lim p := fun w m hm => by
    rw [hm]
    exact ⟨⟨fun i q1 q2 => by rw [jm_up_i q2]; exact hH.1 i q1 q2, by rw [jm_up_i (by omega)]; exact hH.2.1, by rw [jm_up_lj (by decide)]; exact hH.2.2.1, fun i hi => by rw [jm_up_lj (by decide)]; exact hH.2.2.2 i hi⟩, jm_up_at, mFo.up (Or.inl rfl) (by decide), h0.kf (by rw [jm_up_ne (by decide)]) (by rw [jm_up_ne (by decide)])⟩
  have key : ∀ (f : Nat) (i : Int), i + f = 14 → 8 ≤ i → (∀ j, 8 ≤ j → j < i → ¬ zIs (sTok τ n lim) p (j + 1)) → jg E m_X11_readKind (d + 3) 96 [some (jm_R 133), none, some (jm_I (20 + 4 * T.1 1)), some (jm_I i)] [] ν Q := by
    intro f
    induction f with
    | zero =>
      intro i g1 g2 g3
      have dd : zDD (sTok τ n lim) p = 0 := by
        unfold zDD
        rw [if_neg (fun q => g3 (sTm (sTok τ n lim p).2.2.2 - 1) (by omega) (by omega) ⟨q.1, by omega⟩)]
      refine r_X11_readKind_96 (d := d + 3) ⟨fun _ => r_X11_readKind_116 (d := d + 3) ⟨fun z => absurd (by omega) z, fun _ => ?_⟩, fun z => absurd (by omega) z⟩
      rw [jm_wr_id (a := 20 + 4 * T.1 1 + 1) (by omega) (by omega), show 20 + 4 * T.1 1 + 1 = 21 + 4 * T.1 1 by omega]
      refine ⟨⟨by omega, by omega⟩, fun m7 h7 => ⟨fun _ => ?_, fun z => absurd (by omega) z⟩⟩
      obtain ⟨t1, t2, t3, t4⟩ := tell 0 m7 h7
      exact g_M_150 t4 hT c10 t1 t2 a0 a1 (by decide) (by decide) hv (fun z => absurd z (by decide)) (fun _ ξ fo xa xt => h2 (_, p) (by unfold zRk2; rw [if_pos dd]) (Int.le_refl _) ξ (t3.trans fo) xa xt) (fun z => absurd z (by decide))
    | succ f ih =>
      intro i g1 g2 g3
      refine r_X11_readKind_96 (d := d + 3) ⟨fun z => absurd z (by omega), fun _ => c_M_isWord h0 (by omega) (by omega) (fun s t => jq_Z (jb_t (by decide) ?_)) (fun z => jq_Z (jb_f (by decide) ?_))⟩
      · have dd : zDD (sTok τ n lim) p = i - 7 := by unfold zDD; rw [if_pos ⟨s, by omega, by omega⟩]; omega
        have x1 := h0.nx (by omega)
        refine r_X11_readKind_116 (d := d + 3) ⟨fun _ => ?_, fun z => absurd (by omega) z⟩
        rw [jm_wr_id (a := 20 + 4 * T.1 1 + 1) (by omega) (by omega), show 20 + 4 * T.1 1 + 1 = 21 + 4 * T.1 1 by omega, jm_wr_id (a := i - 8) (by omega) (by omega), jm_wr_id (a := i - 8 + 1) (by omega) (by omega), show i - 8 + 1 = i - 7 by omega]
        refine ⟨⟨by omega, by omega⟩, fun m3 h3 => ⟨fun z => absurd z (by omega), fun _ => ?_⟩⟩
        obtain ⟨t1, t2, t3, t4⟩ := tell (i - 7) m3 h3
        refine c_M_adv t4 (by omega) (fun m5 b1 b2 _ => ?_)
        have F : mFo mW ν m5 := t3.trans (mFo.of b1)
        refine g_M_150 (b := i - 7) b2 hT c10 (t1.of (b1.1 136 (by decide)) (b1.1 140 (by decide))) (by rw [b1.1 136 (by decide)]; exact t2) a0 a1 (by omega) (by omega) hv (fun z e he ξ fe => h1 e ?_ ξ (F.fe fe)) (fun z ξ fo xa xt => h2 (_, sNx1 τ n lim p) ?_ (by show p ≤ sNx1 τ n lim p; omega) ξ (F.trans fo) xa xt) (fun z s4 c he ξ fo xa xt => h2 (_, sNx1 τ n lim (sNx1 τ n lim p)) ?_ ?_ ξ (F.trans fo) xa xt)
        · unfold zRk2; rw [dd, if_neg (by omega), if_neg (by omega)]; exact zBi_e he
        · unfold zRk2; rw [dd, if_neg (by omega), if_pos z]
        · unfold zRk2; rw [dd, if_neg (by omega), if_neg (by omega)]; rw [zBi_o he]
        · have x2 := b2.nx (by omega)
          show p ≤ sNx1 τ n lim (sNx1 τ n lim p)
          omega
      · rw [jm_wr_id (by omega) (by omega)]
        refine ih (i + 1) (by omega) (by omega) (fun j j0 j1 => ?_)
        by_cases q : j = i
        · rw [q]; exact z
        · exact g3 j j0 (by omega)
  exact key 6 8 (by decide) (by decide) (fun j j0 j1 => by omega)
end MK
