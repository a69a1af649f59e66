/-! a talk, in the reference: a word -/
section MK
variable {E : jm_E} {d : Nat} {μ : jm_M} {Q : Option jm_V → jm_M → Prop} {τ : Int → Int} {n lim p : Int} {T : zTs} {W : zTk}
def mFk (μ ν : jm_M) : Prop := (∀ x, x ≠ 133 → x < 144 ∨ 151 < x → ν x = μ x) ∧ ∀ j, j < 5 ∨ 9 < j → j ≠ 12 → ν 133 j = μ 133 j
def mFl (μ ν : jm_M) (e : Int × Int × Int) : Prop := (∀ x, x ≠ 133 → x < 144 ∨ 151 < x → ν x = μ x) ∧ (∀ j, j < 5 ∨ 12 < j → j ≠ 31 → ν 133 j = μ 133 j) ∧ ν 133 10 = e.1 ∧ ν 133 11 = e.2.1 ∧ ν 133 31 = e.2.2
theorem mFk.rfl : mFk μ μ := ⟨fun _ _ _ => Eq.refl _, fun _ _ _ => Eq.refl _⟩
theorem mFk.trans {a b c : jm_M} (h1 : mFk a b) (h2 : mFk b c) : mFk a c := ⟨fun x x1 x2 => (h2.1 x x1 x2).trans (h1.1 x x1 x2), fun j a1 a2 => (h2.2 j a1 a2).trans (h1.2 j a1 a2)⟩
theorem mFk.of {a b : jm_M} (h : mKf a b) : mFk a b := ⟨fun x x1 _ => h.1 x x1, h.2⟩
theorem mFk.er {a b c : jm_M} {f pl : Int} (h1 : mFk a b) (h2 : mEr b c f pl) (h3 : b 133 31 = 0) : mFl a c (f, pl, 0) := ⟨fun x x1 x2 => (h2.1 x x1).trans (h1.1 x x1 x2), fun j a1 a2 => (h2.2.1 j (by omega) (by omega)).trans (h1.2 j (by omega) (by omega)), h2.2.2.1, h2.2.2.2, by rw [h2.2.1 31 (by decide) (by decide)]; exact h3⟩
theorem mFk.fe {a b c : jm_M} {e : Int × Int × Int} (h1 : mFk a b) (h2 : mFl b c e) : mFl a c e := ⟨fun x x1 x2 => (h2.1 x x1 x2).trans (h1.1 x x1 x2), fun j a1 a2 => (h2.2.1 j a1 a2).trans (h1.2 j (by omega) (by omega)), h2.2.2⟩
def mTk (ν : jm_M) (T : zTs) (W : zTk) : Prop := mTt ν T ∧ mRu ν 0 T.1 ∧ mBd ν 0 (sLay T.1 W.1 W.2) ∧ sVW T.1 W.1 W.2 ∧ W.2 ≤ 400 ∧ ν 133 31 = 0
theorem mBd_of {a b : jm_M} {e : Int} {B : sB} (hf : ∀ q, 144 ≤ q → q ≤ 151 → b q = a q) (h : mBd a e B) : mBd b e B := ⟨by rw [hf 150 (by decide) (by decide)]; exact h.1, by rw [hf 151 (by decide) (by decide)]; exact h.2.1, fun f t f0 f1 t0 t1 => by rw [hf (144 + f) (by omega) (by omega)]; exact h.2.2 f t f0 f1 t0 t1⟩
theorem mTk.kf {ν ξ : jm_M} (h : mTk ν T W) (hk : mKf ν ξ) : mTk ξ T W := ⟨h.1.of (hk.1 135 (by decide)) (hk.1 139 (by decide)), fun i i0 i1 => by rw [hk.1 143 (by decide)]; exact h.2.1 i i0 i1, mBd_of (fun q q0 q1 => hk.1 q (by omega)) h.2.2.1, h.2.2.2.1, h.2.2.2.2.1, by rw [hk.2 31 (by decide) (by decide)]; exact h.2.2.2.2.2⟩
theorem c_M_readTw (h0 : mAt μ τ n lim p) (hT : mTk μ T W) (h1 : ∀ e, zWl (sTok τ n lim) T W p = .error e → ∀ ξ, mFl μ ξ e → Q (some (jm_I 0)) ξ) (h2 : ∀ x, zWl (sTok τ n lim) T W p = .ok x → p + 3 ≤ x.2 → ∀ ξ, mFk μ ξ → mAt ξ τ n lim x.2 → mTk ξ T x.1 → Q (some (jm_I 1)) ξ) : jc E m_X11_readWordSaid (d + 4) [jm_R 133] μ Q := by
  have hW := hT.1.2.2.2
  have w0 := hW.1
  have w1 := hW.2.1
  have w2 := hW.2.2.1
  have w3 := hW.2.2.2.1
  have hn := hT.2.2.2.2.1
  have e0 : μ 135 0 = T.1 0 := hT.1.1 0 (by decide) (by decide)
  have ec : μ 150 0 = W.2 := by
    have h1 := hT.2.2.1.1
    rw [sLay_n] at h1
    exact h1
  have z3 := hT.2.2.2.2.2
  have hG : sGB T.1 (sLay T.1 W.1 W.2) := sLay_good hW W.2 hn hT.2.2.2.1
  refine e_X11_readWordSaid (d := d + 3) (fun _ => c_M_isName h0 (fun s t => jq_Z (jb_t (by decide) ?_)) (fun z => jq_Z (jb_f (by decide) (c_M_bad1 h0 (fun ξ er => jq_Z (h1 (1, _, 0) (zC3_e (zB3_e (e := (1, (sTok τ n lim p).2.1)) (by unfold zNH; rw [if_pos z]; rfl))) ξ (mFk.rfl.er er z3)))))))
  have nm : ¬ ¬ zIs (sTok τ n lim) p 0 := Decidable.not_not.mpr ⟨s, t⟩
  rw [e0]
  refine c_M_findIn (by decide) w0 (by omega) (fun j j0 j1 => ixl_139 j0 j1) (sTok_nv s) hT.1.2.1 (h0.val.2.2 s) (jq_I ⟨fun y => ?_, fun y => c_M_bad2 h0 (by omega) (fun ξ er => jq_Z (h1 (3, _, 0) (zC3_e (zB3_e (e := (3, (sTok τ n lim p).2.1)) (by unfold zNH; rw [if_neg nm, if_pos (Decidable.not_not.mp y)]; rfl))) ξ (mFk.rfl.er er z3)))⟩)
  have ha : zNH (sTok τ n lim) T.2.1 (T.1 0) p = .ok (zFd T.2.1 (sTok τ n lim p).2.2.2 (T.1 0).toNat 0) := by unfold zNH; rw [if_neg nm, if_neg y]
  obtain ⟨a0, a1, -⟩ := zNH_in w0 ha
  generalize zFd T.2.1 (sTok τ n lim p).2.2.2 (T.1 0).toNat 0 = a at ha a0 a1 ⊢
  rw [ec, h0.val.2.1]
  refine ⟨fun z => ?_, fun z => c_M_bad2 h0 (by omega) (fun ξ er => jq_Z (h1 (4, _, 0) (zC3_e (by unfold zWw; rw [zB3_o ha, if_pos (show W.2 = 400 by omega)])) ξ (mFk.rfl.er er z3)))⟩
  have n4 : ¬ W.2 = 400 := by omega
  refine c_M_adv h0 (by omega) (fun m9 b1 b2 _ => ?_)
  have x1 := h0.nx (by omega)
  have T9 : mTk m9 T W := hT.kf b1
  have e1 : m9 135 1 = T.1 1 := T9.1.1 1 (by decide) (by decide)
  have z9 := T9.2.2.2.2.2
  refine c_M_isName b2 (fun s2 t2 => jq_Z (jb_t (by decide) ?_)) (fun z5 => jq_Z (jb_f (by decide) (c_M_bad1 b2 (fun ξ er => jq_Z (h1 (1, _, 0) (zC3_e (by unfold zWw; rw [zB3_o ha, if_neg n4]; exact zB3_e (e := (1, (sTok τ n lim (sNx1 τ n lim p)).2.1)) (by unfold zNH; rw [if_pos z5]; rfl))) ξ ((mFk.of b1).er er z9))))))
  have nm2 : ¬ ¬ zIs (sTok τ n lim) (sNx1 τ n lim p) 0 := Decidable.not_not.mpr ⟨s2, t2⟩
  rw [e1]
  refine c_M_findIn (by decide) w2 (by omega) (fun j j0 j1 => ixl_139 j0 j1) (sTok_nv s2) T9.1.2.2.1 (b2.val.2.2 s2) (jq_I ⟨fun y2 => ?_, fun y2 => c_M_bad2 b2 (by omega) (fun ξ er => jq_Z (h1 (3, _, 0) (zC3_e (by unfold zWw; rw [zB3_o ha, if_neg n4]; exact zB3_e (e := (3, (sTok τ n lim (sNx1 τ n lim p)).2.1)) (by unfold zNH; rw [if_neg nm2, if_pos (Decidable.not_not.mp y2)]; rfl))) ξ ((mFk.of b1).er er z9)))⟩)
  have hk : zNH (sTok τ n lim) T.2.2 (T.1 1) (sNx1 τ n lim p) = .ok (zFd T.2.2 (sTok τ n lim (sNx1 τ n lim p)).2.2.2 (T.1 1).toNat 0) := by unfold zNH; rw [if_neg nm2, if_neg y2]
  obtain ⟨k0, k1, -⟩ := zNH_in w2 hk
  generalize zFd T.2.2 (sTok τ n lim (sNx1 τ n lim p)).2.2.2 (T.1 1).toNat 0 = k at hk k0 k1 ⊢
  refine c_M_wrongOf (by decide) hW T9.2.1 T9.2.2.1 hG a0 a1 k0 k1 (jq_I ⟨fun z5 => ?_, fun z5 => ?_⟩)
  · refine c_M_push (by decide) hW T9.2.1 T9.2.2.1 hG.1 (by rw [sLay_n]; omega) (fun t t0 t1 => ?_) ⟨hG.2.2.1, ?_⟩ a0 a1 k0 k1 (fun m20 B20 f20 _ => ?_)
    · have := (hG.2.2.2.2 t t0 t1).2.2.2.2.1
      rw [sLay_n] at t1
      omega
    · have := hG.2.2.2.1
      rw [sLay_n] at this
      omega
    have a20 : mAt m20 τ n lim (sNx1 τ n lim p) := b2.kf (f20.1 133 (by decide)) (f20.1 134 (by decide))
    have T20 : mTk m20 T (sSay W.1 W.2 a k, W.2 + 1) := ⟨T9.1.of (f20.1 135 (by decide)) (f20.1 139 (by decide)), mRu_of f20 T9.2.1, by dsimp only; rw [sLay_say]; exact B20, sVW_say T9.2.2.2.1 a0 a1 k0 k1 z5, by show W.2 + 1 ≤ 400; omega, by rw [f20.1 133 (by decide)]; exact z9⟩
    have F20 : mFk m9 m20 := ⟨fun x _ x2 => f20.1 x x2, fun j _ _ => by rw [f20.1 133 (by decide)]⟩
    have x2 := b2.nx (by omega)
    refine c_M_adv a20 (by omega) (fun m21 c1 c2 _ => ?_)
    have T21 := T20.kf c1
    have ew : zWw (sTok τ n lim) T W p = .ok ((sSay W.1 W.2 a k, W.2 + 1), sNx1 τ n lim (sNx1 τ n lim p)) := by unfold zWw; rw [zB3_o ha, if_neg n4, zB3_o hk, if_neg (fun q => q z5)]
    have F := (((mFk.of b1).trans F20).trans (mFk.of c1))
    have x3 := fun q => c2.nx q
    refine c_M_readEnd c2 (fun s4 v4 ξ k' kA => jq_Z (h2 (_, sNx1 τ n lim (sNx1 τ n lim (sNx1 τ n lim p))) (by unfold zWl; rw [zC3_o ew, if_pos ⟨s4, v4⟩]) ?_ ξ (F.trans (mFk.of k')) kA (T21.kf k'))) (fun q ξ er => jq_Z (h1 (1, _, 0) (by unfold zWl; rw [zC3_o ew, if_neg q]) ξ (F.er er T21.2.2.2.2.2)))
    have := x3 (by omega)
    show p + 3 ≤ sNx1 τ n lim (sNx1 τ n lim (sNx1 τ n lim p))
    omega
  · refine h1 (5, _, _) (zC3_e (by unfold zWw; rw [zB3_o ha, if_neg n4, zB3_o hk, if_pos z5])) _ ⟨fun x hx hq => by rw [jm_up_ne hx, jm_up_ne hx, jm_up_ne hx, b1.1 x hx], fun j hj h31 => by rw [jm_up_i (by omega), jm_up_i (by omega), jm_up_i h31, b1.2 j (by omega) (by omega)], by rw [jm_up_i (by decide), jm_up_at], jm_up_at, by rw [jm_up_i (by decide), jm_up_i (by decide), jm_up_at]⟩
end MK
