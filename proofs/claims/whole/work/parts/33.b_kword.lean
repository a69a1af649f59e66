/-! a talk, in the class: a word -/
section KW
variable {E : jm_E} {d : Nat} {μ : jm_M} {Q : Option jm_V → jm_M → Prop} {τ : Int → Int} {n lim p : Int} {T : zTs} {W : zTk}
abbrev kT : Int → Prop := fun x => x = 37 ∨ (47 ≤ x ∧ x ≤ 52)
def kTk (ν : jm_M) (T : zTs) (W : zTk) : Prop := tTb ν 3 T.1 T.2.1 T.2.2 ∧ tA ν T.1 37 3 400 (sLay T.1 W.1 W.2) ∧ sVW T.1 W.1 W.2 ∧ ν 37 3 = 0
theorem kTk.le {ν : jm_M} (h : kTk ν T W) : W.2 ≤ 400 := by
  have h1 := h.2.1.2.2.2.2.2.2
  rw [sLay_n] at h1
  omega
theorem kTk.of {ν ξ : jm_M} (h : kTk ν T W) (hf : ∀ q, 3 ≤ q → q ≤ 52 → ξ q = ν q) : kTk ξ T W := ⟨tTb_of (fun q a b => hf q a (by omega)) h.1, h.2.1.of (fun q hq => hf q (by omega) (by omega)), h.2.2.1, by rw [hf 37 (by decide) (by decide)]; exact h.2.2.2⟩
theorem kFo_tFr {ν ξ : jm_M} (h : tFr 37 ν ξ) : kFo kT ν ξ := ⟨fun x x1 hw => h.1 x (fun z => hw (Or.inl z)) (by have : ¬ (47 ≤ x ∧ x ≤ 52) := fun z => hw (Or.inr z); omega), fun j _ => by rw [h.1 1 (by decide) (by decide)]⟩
theorem c_K_readTw {ν : jm_M} (h0 : kAt ν τ n lim p) (hT : kTk ν T W) (h1 : ∀ e, zWw (sTok τ n lim) T W p = .error e → ∀ ξ, kFe kT ν ξ (e.1, e.2.1) → ξ 37 3 = e.2.2 → Q (some (jm_I 0)) ξ) (h2 : ∀ x, zWw (sTok τ n lim) T W p = .ok x → p + 2 ≤ x.2 → ∀ ξ, kFo kT ν ξ → kAt ξ τ n lim x.2 → kTk ξ T x.1 → Q (some (jm_I 1)) ξ) : jc E m_X6_readWord (d + 5) [jm_R 37, jm_R 1] ν Q := by
  have hW := hT.2.1.2.2.1
  have hn := hT.le
  have e0 : ν 37 0 = 3 := hT.2.1.2.1
  have e1 : ν 37 1 = W.2 := by
    have h1 := hT.2.1.2.2.2.2.1.1
    rw [sLay_n] at h1
    exact h1
  refine e_X6_readWord (d := d + 4) (fun _ => ⟨is_37, ?_⟩)
  rw [e0, h0.val.1]
  refine c_K_whoHere h0 is_3 hW hT.1.1.1 hT.1.2.1 (fun e he ξ er => jq_I (jb_f (by decide) (h1 (e.1, e.2, 0) (by unfold zWw; exact zB3_e he) ξ (kFo.rfl.er er) (by rw [er.1 37 (by decide)]; exact hT.2.2.2)))) (fun a ha => jq_I ?_)
  obtain ⟨a0, a1, s⟩ := zNH_in hW.1 ha
  refine jb_t (by omega) ?_
  rw [e1, pl_37.sn]
  have x1 := h0.nx (by omega)
  refine ⟨fun z => ?_, fun z => c_K_fails (fun ξ er => jq_Z (h1 (4, _, 0) (by unfold zWw; rw [zB3_o ha, if_pos (show W.2 = 400 by omega)]) ξ (kFo.rfl.er er) (by rw [er.1 37 (by decide)]; exact hT.2.2.2)))⟩
  have n4 : ¬ W.2 = 400 := by omega
  refine c_K_adv h0 (by omega) (fun m6 b1 b2 _ => ?_)
  have T6 : kTk m6 T W := hT.of (fun q q0 q1 => b1.1 q (by omega))
  have e6 : m6 37 0 = 3 := T6.2.1.2.1
  rw [e6]
  refine c_K_kindHere b2 is_3 hW T6.1.1.2.1 T6.1.2.2.1 (fun e he ξ er => jq_I (jb_f (by decide) (h1 (e.1, e.2, 0) (by unfold zWw; rw [zB3_o ha, if_neg n4]; exact zB3_e he) ξ ((kFo.of b1).er er) (by rw [er.1 37 (by decide)]; exact T6.2.2.2)))) (fun k hk => jq_I ?_)
  obtain ⟨k0, k1, s2⟩ := zNH_in hW.2.2.1 hk
  have x2 := b2.nx (by omega)
  refine jb_t (by omega) (c_T_flaw T6.2.1 (jq_I ?_))
  have ef : sFw T.1 (sLay T.1 W.1 W.2) 400 a k = sWr T.1 (sLay T.1 W.1 W.2) a k := sFw_0 a0 a1 k0 k1 (by rw [sLay_n]; omega)
  rw [ef]
  refine ⟨fun z5 => ?_, fun z5 => ?_⟩
  · rw [z5, jm_up_id T6.2.2.2]
    refine c_T_add T6.2.1 (by rw [sLay_n]; omega) a0 a1 k0 k1 z5 (fun m13 A13 f13 _ => ?_)
    have a13 : kAt m13 τ n lim (sNx1 τ n lim p) := b2.kf (f13.1 1 (by decide) (by decide)) (f13.1 2 (by decide) (by decide))
    refine c_K_adv a13 (by omega) (fun m14 c1 c2 _ => ?_)
    have T13 : kTk m13 T (sSay W.1 W.2 a k, W.2 + 1) := ⟨tTb_of (fun q q0 q1 => f13.1 q (by omega) (by omega)) T6.1, by dsimp only; rw [sLay_say]; exact A13, sVW_say T6.2.2.1 a0 a1 k0 k1 z5, by rw [f13.2 3 (by decide) (by decide)]; exact T6.2.2.2⟩
    refine h2 (_, _) (by unfold zWw; rw [zB3_o ha, if_neg n4, zB3_o hk, if_neg (fun q => q z5)]) ?_ m14 (((kFo.of b1).trans (kFo_tFr f13)).trans (kFo.of c1)) c2 (T13.of (fun q q0 q1 => c1.1 q (by omega)))
    show p + 2 ≤ sNx1 τ n lim (sNx1 τ n lim p)
    omega
  · refine c_K_fails (fun ξ er => jq_Z (h1 (5, _, _) (by unfold zWw; rw [zB3_o ha, if_neg n4, zB3_o hk, if_pos z5]) ξ (((kFo.of b1).trans (kFo.up (Or.inl rfl) (by decide))).er er) (by rw [er.1 37 (by decide), jm_up_at])))
end KW
