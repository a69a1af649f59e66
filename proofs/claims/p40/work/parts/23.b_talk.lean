theorem tBd.at {μ : jm_M} {a : Int} {b : sB} {f t g : Int} (h : tBd μ a b) (hg : a + 10 + f = g) (f0 : 0 ≤ f) (f1 : f ≤ 5) (t0 : 0 ≤ t) (t1 : t < b.2.1) : μ g t = b.1 f t := by
  subst hg
  exact h.2.2 f t f0 f1 t0 t1
theorem sGB.st {ρ : sR} {b : sB} {t : Int} (hG : sGB ρ b) (t0 : 0 ≤ t) (t1 : t < b.2.1) : (sDo ρ (b.1 1 t) = 2 ↔ 4 ≤ b.1 5 t) ∧ (4 ≤ b.1 5 t → 0 ≤ b.1 2 t ∧ b.1 2 t < t) := by
  have h := hG.2.2.2.2 t t0 t1
  have hs := h.2.2.2.2.2
  by_cases d1 : sDo ρ (b.1 1 t) = 1
  · have := hs.1 d1
    exact ⟨⟨fun z => by omega, fun z => by omega⟩, fun z => by omega⟩
  · by_cases d2 : sDo ρ (b.1 1 t) = 2
    · have := hs.2.1 d2
      exact ⟨⟨fun _ => by omega, fun _ => d2⟩, fun z => by omega⟩
    · have := hs.2.2 d1 d2
      exact ⟨⟨fun z => absurd z d2, fun z => by omega⟩, fun z => by omega⟩
/-- why a next word is wrong; -1: there can be no such one -/
def sFw (ρ : sR) (b : sB) (c who k : Int) : Int := if (0 ≤ who ∧ who < ρ 0) ∧ (0 ≤ k ∧ k < ρ 1) ∧ b.2.1 < c then sWr ρ b who k else -1
section TC
variable {E : jm_E} {d : Nat} {μ : jm_M} {Q : Option jm_V → jm_M → Prop} {ρ : sR} {a p c : Int} {b : sB}
theorem c_T_dueOf {t : Int} (h0 : tA μ ρ a p c b) (t0 : 0 ≤ t) (t1 : t < b.2.1) (h : Q (some (jm_I (t + sDu ρ (b.1 1 t)))) μ) : jc E m_X6_dueOf (d + 2) [jm_R a, jm_I t] μ Q := by
  obtain ⟨hP, hp, hW, hr, hb, hG, hc⟩ := h0
  have hG1 := hG.2.1
  have hGt := hG.2.2.2.2 t t0 t1
  have hK := hW.2.2.2.2.2.2.2.2.2.2.2.2 (b.1 1 t) hGt.2.1.1 hGt.2.1.2
  refine e_X6_dueOf (d := d + 1) (fun _ => ⟨fun z => absurd z (by omega), fun _ => ⟨hP.i6, ?_⟩⟩)
  rw [hb.1, hP.sn, hp, hb.at (f := 1) (g := a + 11) (by omega) (by decide) (by decide) t0 t1]
  refine ⟨fun z => absurd z (by omega), fun z => ⟨by omega, hP.i5, c_T_du hP.i5 hW hr hGt.2.1.1 hGt.2.1.2 (jq_I ?_)⟩⟩
  rw [jm_wr_id (by omega) (by omega)]
  exact h
theorem c_T_promisee {t : Int} (h0 : tA μ ρ a p c b) (t0 : 0 ≤ t) (t1 : t < b.2.1) (h : Q (some (jm_I (if sDo ρ (b.1 1 t) = 2 then b.1 0 (b.1 2 t) else -1))) μ) : jc E m_X6_promisee (d + 2) [jm_R a, jm_I t] μ Q := by
  obtain ⟨hP, hp, hW, hr, hb, hG, hc⟩ := h0
  have hG1 := hG.2.1
  have hs := hG.st t0 t1
  refine e_X6_promisee (d := d + 1) (fun _ => ⟨hP.i6, c_T_has hP.i6 hb (fun _ _ => jq_Z (jb_f (by decide) ?_)) (fun z => absurd ⟨t0, t1⟩ z)⟩)
  rw [hP.sn, hb.at (f := 5) (g := a + 15) (by omega) (by decide) (by decide) t0 t1, hb.at (f := 2) (g := a + 12) (by omega) (by decide) (by decide) t0 t1]
  refine ⟨by omega, fun z => ?_, fun z => ?_⟩
  · rw [if_pos (hs.1.mpr z)] at h
    have h2 := hs.2 z
    intro x hx
    subst hx
    refine c_T_has hP.i6 hb (fun _ _ => jq_Z (jb_f (by decide) ?_)) (fun y => absurd ⟨h2.1, by omega⟩ y)
    rw [hb.at (f := 0) (g := a + 10) (by omega) (by decide) (by decide) h2.1 (by omega)]
    exact ⟨by omega, h⟩
  · rw [if_neg (fun y => z (hs.1.mp y))] at h
    exact h
theorem c_T_stateOf {t : Int} (h0 : tA μ ρ a p c b) (h : Q (some (jm_I (if 0 ≤ t ∧ t < b.2.1 then sSt ρ b t else 0))) μ) : jc E m_X6_stateOf (d + 3) [jm_R a, jm_I t] μ Q := by
  have h00 := h0
  obtain ⟨hP, hp, hW, hr, hb, hG, hc⟩ := h0
  have hG1 := hG.2.1
  refine e_X6_stateOf (d := d + 2) (fun _ => ⟨hP.i6, c_T_has hP.i6 hb (fun t0 t1 => jq_Z (jb_t (by decide) ?_)) (fun z => jq_Z (jb_f (by decide) ?_))⟩)
  · rw [if_pos ⟨t0, t1⟩] at h
    rw [hP.sn, hb.at (f := 5) (g := a + 15) (by omega) (by decide) (by decide) t0 t1, hb.1, jm_wr_id (by omega) (by omega)]
    unfold sSt at h
    refine ⟨by omega, fun z => ?_, fun z => c_T_dueOf h00 t0 t1 (jq_I ⟨fun y => ?_, fun y => ?_⟩)⟩
    · rw [if_neg (fun q => z q.1)] at h; exact h
    · rw [if_neg (fun q => by have := q.2; omega)] at h
      rw [hb.at (f := 5) (g := a + 15) (by omega) (by decide) (by decide) t0 t1]
      exact h
    · rw [if_pos ⟨by omega, by omega⟩] at h; exact h
  · rw [if_neg z] at h; exact h
theorem r_T_flaw139 {who k t dd : Int} (h0 : tA μ ρ a p c b) (k0 : 0 ≤ k) (k1 : k < ρ 1) (t0 : 0 ≤ t) (t1 : t < b.2.1) (ed : dd = sDo ρ k) (h : Q (some (jm_I (sW4 ρ b who k t))) μ) :
    jg E m_X6_flaw (d + 2) 139 [some (jm_R a), some (jm_I who), none, some (jm_I t), some (jm_I dd), none] [] μ Q := by
  have h00 := h0
  obtain ⟨hP, hp, hW, hr, hb, hG, hc⟩ := h0
  have hG1 := hG.2.1
  have hs := hG.st t0 t1
  have hK := (hW.2.2.2.2.2.2.2.2.2.2.2.2 k k0 k1).2.1
  subst ed
  unfold sW4 at h
  refine r_X6_flaw_139 (d := d + 2) ?_
  rw [hP.sn, hb.at (f := 5) (g := a + 15) (by omega) (by decide) (by decide) t0 t1, hb.1]
  have e5 : (b.1 5 t ≠ 1 → Q (some (jm_I 5)) μ) ∧ (¬ (b.1 5 t ≠ 1) → Q (some (jm_I 0)) μ) ∨ ¬ (2 ≤ sDo ρ k ∧ sDo ρ k < 4) := by
    by_cases q : 2 ≤ sDo ρ k ∧ sDo ρ k < 4
    · rw [if_neg (by omega), if_pos q.2] at h
      exact Or.inl ⟨fun z => by rw [if_neg z] at h; exact h, fun z => by rw [if_pos (by omega)] at h; exact h⟩
    · exact Or.inr q
  refine ⟨fun z => ⟨hP.i6, by omega, ?_⟩, fun z => ⟨fun z1 => ⟨fun z2 => ⟨hP.i6, by omega, ?_⟩, fun z2 => ?_⟩, fun z1 => ⟨hP.i6, by omega, ?_⟩⟩⟩
  · rcases e5 with e5 | e5
    · exact e5
    · omega
  · rw [if_neg (by omega), if_neg (by omega)] at h
    refine ⟨fun z3 => ?_, fun z3 => c_T_dueOf h00 t0 t1 (jq_I ⟨fun z4 => ?_, fun z4 => ?_⟩)⟩
    · rw [if_pos (Or.inl z3)] at h; exact h
    · rw [if_neg (fun q => by rcases q with q | q <;> omega)] at h
      refine ⟨fun z5 => ?_, fun z5 => c_T_promisee h00 t0 t1 (jq_I ?_)⟩
      · rw [if_neg z5] at h
        intro x hx
        rw [hb.at (f := 0) (g := a + 10) (by omega) (by decide) (by decide) t0 t1] at hx
        subst hx
        exact ⟨fun z6 => by rw [if_neg z6] at h; exact h, fun z6 => by rw [if_pos (by omega)] at h; exact h⟩
      · rw [if_pos (show sDo ρ k = 6 by omega)] at h
        rw [if_pos (hs.1.mpr (by omega))]
        exact ⟨fun z6 => by rw [if_neg z6] at h; exact h, fun z6 => by rw [if_pos (by omega)] at h; exact h⟩
    · rw [if_pos (Or.inr (by omega))] at h; exact h
  · rw [if_pos (by omega)] at h; exact h
  · rcases e5 with e5 | e5
    · exact e5
    · omega
theorem c_T_flaw {who k : Int} (h0 : tA μ ρ a p c b) (h : Q (some (jm_I (sFw ρ b c who k))) μ) : jc E m_X6_flaw (d + 4) [jm_R a, jm_I who, jm_I k] μ Q := by
  have h00 := h0
  obtain ⟨hP, hp, hW, hr, hb, hG, hc⟩ := h0
  have hG0 := hG.1
  have hG1 := hG.2.1
  unfold sFw at h
  refine e_X6_flaw (d := d + 3) (fun _ => ⟨hP.i6, ?_⟩)
  rw [hp]
  refine ⟨hP.i5, c_T_hasWho hP.i5 hW hr (fun w0 w1 => jq_Z (jb_f (by decide) ?_)) (fun z => jq_Z (jb_t rfl (by rw [if_neg (fun q => z q.1)] at h; exact h)))⟩
  rw [hp]
  refine ⟨hP.i5, c_T_hasKind hP.i5 hW hr (fun k0 k1 => jq_Z (jb_f (by decide) ?_)) (fun z => jq_Z (jb_t rfl (by rw [if_neg (fun q => z q.2.1)] at h; exact h)))⟩
  rw [hb.1, hP.sn]
  refine ⟨fun zc => ?_, fun zc => by rw [if_neg (fun q => zc q.2.2)] at h; exact h⟩
  rw [if_pos ⟨⟨w0, w1⟩, ⟨k0, k1⟩, zc⟩] at h
  refine c_T_repeats h00 (fun z => jq_Z (jb_f (by decide) ?_)) (fun z => jq_Z (jb_t rfl ?_))
  · unfold sRep at z
    rw [sWr, if_pos z] at h; exact h
  unfold sRep at z
  rw [sWr, if_neg z] at h
  refine c_T_heardBy h00 w0 w1 k0 k1 (jq_I ?_)
  have ha := h00.ans (k := k) w0 w1
  generalize sAns ρ b.2.1 who k = t at ha h ⊢
  rw [hp]
  refine ⟨hP.i5, c_T_do hP.i5 hW hr k0 k1 (jq_I (c_T_has hP.i6 hb (fun t0 t1 => jq_Z (jb_t (by decide) ?_)) (fun z2 => jq_Z (jb_f (by decide) ?_))))⟩
  · rw [if_neg (by omega)] at h
    have hGt := hG.2.2.2.2 t t0 t1
    rw [hp, hb.at (f := 1) (g := a + 11) (by omega) (by decide) (by decide) t0 t1]
    refine ⟨by omega, hP.i5, c_T_mayAnswer hP.i5 hW hr k0 k1 hGt.2.1.1 hGt.2.1.2 (fun y => jq_Z (jb_t (by decide) ?_)) (fun y => jq_Z (jb_f (by decide) ?_))⟩
    · rw [sW2, if_neg (by rw [y]; decide), sW3] at h
      rw [hb.at (f := 0) (g := a + 10) (by omega) (by decide) (by decide) t0 t1]
      have go : ¬ (b.1 0 t = who ∧ sDo ρ k ≠ 4 ∧ sDo ρ k ≠ 5) → jg E m_X6_flaw (d + 3) 139 [some (jm_R a), some (jm_I who), none, some (jm_I t), some (jm_I (sDo ρ k)), none] [] μ Q := fun q => by
        rw [if_neg q] at h
        exact r_T_flaw139 (d := d + 1) h00 k0 k1 t0 t1 rfl h
      exact ⟨fun q => go (fun x => q x.1), fun q => ⟨fun q1 => go (fun x => x.2.1 q1), fun q1 => ⟨fun q2 => go (fun x => x.2.2 q2), fun q2 => by rw [if_pos ⟨by omega, q1, q2⟩] at h; exact h⟩⟩⟩
    · rw [sW2, if_pos y] at h; exact h
  · rw [if_pos (by omega)] at h
    rw [hp]
    refine ⟨hP.i5, c_T_op hP.i5 hW hr k0 k1 (jq_I ⟨fun y => ?_, fun y => ?_⟩)⟩
    · rw [if_neg y, sWN] at h
      exact ⟨fun y2 => by rw [if_pos y2] at h; exact h, fun y2 => by rw [if_neg y2] at h; exact h⟩
    · rw [if_pos (by omega)] at h; exact h
end TC
