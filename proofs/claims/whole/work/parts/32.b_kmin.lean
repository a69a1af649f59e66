/-! torn minutes, in the class: a word -/
section KM
variable {E : jm_E} {d : Nat} {μ : jm_M} {Q : Option jm_V → jm_M → Prop} {τ : Int → Int} {n lim p : Int} {T : zTs} {M : zMs}
abbrev kX : Int → Prop := fun x => 72 ≤ x ∧ x ≤ 74
theorem c_K_tears {ν : jm_M} {tn : Int} (e1 : ν 72 1 = tn) (t0 : 0 ≤ tn) (t8 : tn ≤ 8) (ht : tn ≠ 8 → Q (some (jm_I 1)) (jm_up ν 72 1 (tn + 1))) (hf : tn = 8 → Q (some (jm_I 0)) (jm_up ν 72 1 (tn + 1))) : jc E m_X1_tears (d + 1) [jm_R 72] ν Q := by
  refine e_X1_tears (fun _ => ⟨is_72, ?_⟩)
  rw [e1, jm_wr_id (by omega) (by omega)]
  exact ⟨fun z => hf (by omega), fun z => ht (by omega)⟩
/-- the words so far; half a word -/
def kMh (ν : jm_M) (M : zMs) (tn : Int) : Prop := ν 72 0 = M.2.1 ∧ ν 72 1 = tn ∧ ∀ t : Int, 0 ≤ t → t < M.2.1 → ν 73 t = M.1 (2 * t) ∧ ν 74 t = M.1 (2 * t + 1)
theorem kMh.kf {ν ξ : jm_M} {tn : Int} (h : kMh ν M tn) (hf : ∀ x, x ≠ 1 → ξ x = ν x) : kMh ξ M tn := by unfold kMh; rw [hf 72 (by decide), hf 73 (by decide), hf 74 (by decide)]; exact h
theorem kMh.tr {ν : jm_M} {tn w : Int} (h : kMh ν M tn) : kMh (jm_up ν 72 1 w) M w := ⟨by rw [jm_up_i (by decide)]; exact h.1, jm_up_at, fun t t0 t1 => by rw [jm_up_lj (by decide), jm_up_lj (by decide)]; exact h.2.2 t t0 t1⟩
theorem g_K_146 {ν : jm_M} {a b tn : Int} (h0 : kAt ν τ n lim p) (hs : 2 ≤ (sTok τ n lim p).1) (hm : M.2.1 < 24) (hM : kMh ν M tn) (ea : ν 73 M.2.1 = a) (h : ∀ ξ, kFo kX ν ξ → kAt ξ τ n lim (sNx1 τ n lim p) → kMn ξ (sUp (sUp M.1 (2 * M.2.1) a) (2 * M.2.1 + 1) b, M.2.1 + 1, tn) → Q (some (jm_I 1)) ξ) : jg E m_X1_readWord (d + 3) 146 [some (jm_R 72), some (jm_R 1), none, none, none, none, none, some (jm_I b)] [] ν Q := by
  refine r_X1_readWord_146 (d := d + 3) ⟨is_72, ?_⟩
  rw [hM.1]
  refine ⟨⟨by omega, by omega⟩, fun m3 h3 => ?_⟩
  have e3 : m3 72 0 = M.2.1 := by rw [h3, jm_up_lj (by decide)]; exact hM.1
  rw [e3, jm_wr_id (by omega) (by omega)]
  have f3 : kFo kX ν (jm_up m3 72 0 (M.2.1 + 1)) := by rw [h3]; exact (kFo.up (by decide) (by decide)).trans (kFo.up (by decide) (by decide))
  have a3 : kAt (jm_up m3 72 0 (M.2.1 + 1)) τ n lim p := h0.kf (by rw [jm_up_ne (by decide), h3, jm_up_ne (by decide)]) (by rw [jm_up_ne (by decide), h3, jm_up_ne (by decide)])
  have k3 : kMn (jm_up m3 72 0 (M.2.1 + 1)) (sUp (sUp M.1 (2 * M.2.1) a) (2 * M.2.1 + 1) b, M.2.1 + 1, tn) := by
    refine ⟨by rw [jm_up_at]; rfl, by rw [jm_up_i (by decide), h3, jm_up_lj (by decide)]; exact hM.2.1, fun t t0 t1 => ?_⟩
    have t1' : t < (M.2.1 : Int) + 1 := t1
    rw [jm_up_lj (by decide), jm_up_lj (by decide), h3, jm_up_lj (show (73 : Int) ≠ 72 + 2 by decide)]
    dsimp only
    by_cases q : t = M.2.1
    · rw [q, ea, sUp_ne (show (2 * (M.2.1 : Int)) ≠ 2 * M.2.1 + 1 by omega), sUp_at, sUp_at]
      exact ⟨rfl, jm_up_at⟩
    · rw [sUp_ne (show 2 * t ≠ 2 * (M.2.1 : Int) + 1 by omega), sUp_ne (show 2 * t ≠ 2 * (M.2.1 : Int) by omega), sUp_ne (show 2 * t + 1 ≠ 2 * (M.2.1 : Int) + 1 by omega), sUp_ne (show 2 * t + 1 ≠ 2 * (M.2.1 : Int) by omega)]
      exact ⟨(hM.2.2 t t0 (by omega)).1, (jm_up_i q).trans (hM.2.2 t t0 (by omega)).2⟩
  generalize jm_up m3 72 0 (M.2.1 + 1) = m at f3 a3 k3 ⊢
  exact c_K_adv a3 hs (fun ξ b1 b2 _ => h ξ (f3.trans (kFo.of b1)) b2 (by
    unfold kMn
    rw [b1.1 72 (by decide), b1.1 73 (by decide), b1.1 74 (by decide)]
    exact k3))
theorem g_K_71 {ν : jm_M} {a tn : Int} (h0 : kAt ν τ n lim p) (hs : 2 ≤ (sTok τ n lim p).1) (hm : M.2.1 < 24) (t0 : 0 ≤ tn) (t8 : tn ≤ 8) (hW : sWR T.1) (hT : tTb ν 3 T.1 T.2.1 T.2.2) (hM : kMh ν M tn) (h1 : ∀ e, zTn (sTok τ n lim) T.2.2 (T.1 1) tn (zNx (sTok τ n lim) p) = .error e → ∀ ξ, kFe kX ν ξ e → Q (some (jm_I 0)) ξ) (h2 : ∀ y, zTn (sTok τ n lim) T.2.2 (T.1 1) tn (zNx (sTok τ n lim) p) = .ok y → p + 2 ≤ sNx1 τ n lim (sNx1 τ n lim p) → ∀ ξ, kFo kX ν ξ → kAt ξ τ n lim (sNx1 τ n lim (sNx1 τ n lim p)) → kMn ξ (sUp (sUp M.1 (2 * M.2.1) a) (2 * M.2.1 + 1) y.1, M.2.1 + 1, y.2) → Q (some (jm_I 1)) ξ) : jg E m_X1_readWord (d + 3) 71 [some (jm_R 72), some (jm_R 1), some (jm_R 3), none, none, some (jm_I a), none, none] [] ν Q := by
  refine r_X1_readWord_71 (d := d + 3) ⟨is_72, ?_⟩
  rw [hM.1]
  refine ⟨⟨by omega, by omega⟩, fun m3 h3 => ?_⟩
  have f3 : kFo kX ν m3 := by rw [h3]; exact kFo.up (by decide) (by decide)
  have a3 : kAt m3 τ n lim p := h0.kf (by rw [h3, jm_up_ne (by decide)]) (by rw [h3, jm_up_ne (by decide)])
  have M3 : kMh m3 M tn := ⟨by rw [h3, jm_up_lj (by decide)]; exact hM.1, by rw [h3, jm_up_lj (by decide)]; exact hM.2.1, fun t t0 t1 => by rw [h3]; exact ⟨(jm_up_i (by omega)).trans (hM.2.2 t t0 t1).1, (jm_up_lj (by decide)).trans (hM.2.2 t t0 t1).2⟩⟩
  have e3 : m3 73 M.2.1 = a := by rw [h3]; exact jm_up_at
  have T3 : tTb m3 3 T.1 T.2.1 T.2.2 := tTb_of (fun q q0 q1 => by rw [h3, jm_up_ne (by omega)]) hT
  have z1 := h0.nx hs
  refine c_K_adv a3 hs (fun m4 b1 b2 _ => ?_)
  have M4 := M3.kf b1.1
  have e4 : m4 73 M.2.1 = a := by rw [b1.1 73 (by decide)]; exact e3
  have T4 : tTb m4 3 T.1 T.2.1 T.2.2 := tTb_of (fun q q0 q1 => b1.1 q (by omega)) T3
  have F : kFo kX ν m4 := f3.trans (kFo.of b1)
  refine c_K_isTerm (t := 15) b2 (by decide) (by decide) (fun s t => jq_Z (jb_f (by decide) (jb_t (by decide) ?_))) (fun z => jq_Z (jb_t rfl ?_)) rfl
  · have z2 := b2.nx (by omega)
    refine c_K_tears M4.2.1 t0 t8 (fun q => jq_Z (jb_t (by decide) ?_)) (fun q => jq_Z (jb_f (by decide) ?_))
    · have a5 : kAt (jm_up m4 72 1 (tn + 1)) τ n lim (sNx1 τ n lim p) := b2.kf (jm_up_ne (by decide)) (jm_up_ne (by decide))
      exact g_K_146 a5 (by omega) hm M4.tr (by rw [jm_up_lj (by decide)]; exact e4) (fun ξ fo xa xm => h2 (-1, tn + 1) (by unfold zTn; rw [if_pos ⟨s, t⟩, if_neg q]) (by omega) ξ (F.trans ((kFo.up (by decide) (by decide)).trans fo)) xa xm)
    · rw [jm_up_lj (by decide), b2.val.1]
      exact c_K_fails (fun ξ er => jq_Z (h1 (4, _) (by unfold zTn; rw [if_pos ⟨s, t⟩, if_pos q]; rfl) ξ ((F.trans (kFo.up (by decide) (by decide))).er er)))
  · refine c_K_kindHere b2 is_3 hW T4.1.2.1 T4.2.2.1 (fun e he ξ er => jq_I (jb_f (by decide) (jb_f (by decide) (h1 e (by unfold zTn; rw [if_neg z]; exact zBi_e he) ξ (F.er er))))) (fun b hb => jq_I (jb_f (by decide) ?_))
    obtain ⟨x0, x1, s4⟩ := zNH_in hW.2.2.1 hb
    have z2 := b2.nx (by omega)
    exact jb_t (by omega) (g_K_146 b2 (by omega) hm M4 e4 (fun ξ fo xa xm => h2 (b, tn) (by unfold zTn; rw [if_neg z, zBi_o hb]) (by omega) ξ (F.trans fo) xa xm))
end KM
