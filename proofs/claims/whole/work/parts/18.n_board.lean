section MB2
variable {E : jm_E} {d : Nat} {μ : jm_M} {Q : Option jm_V → jm_M → Prop} {ρ : sR} {e : Int} {b : sB}
theorem r_M_wr114 {who k a : Int} (he : 0 ≤ e ∧ e < 2) (hW : sWR ρ) (hr : mRu μ e ρ) (hb : mBd μ e b) (hG : sGB ρ b) (k0 : 0 ≤ k) (k1 : k < ρ 1) (ha : a = -1 ∨ (0 ≤ a ∧ a < b.2.1)) {n bb dd : Int} (en : n = b.2.1) (eb : bb = 400 * e) (ed : dd = sDo ρ k) (h : Q (some (jm_I (if a = -1 then sWN ρ k else sW3 ρ b who k a))) μ) :
    jg E m_X11_wrongOf (d + 1) 114 [some (jm_R 133), some (jm_I e), some (jm_I who), none, some (jm_I n), some (jm_I bb), some (jm_I a), some (jm_I dd), none] [] μ Q := by
  have hn := hG.2.1
  refine r_X11_wrongOf_114 (d := d + 1) ⟨fun q => ?_, fun q => ?_⟩
  · refine r_M_wr148 he hW hr hb hG hn k0 k1 ha en eb ed ?_
    rw [if_pos (by omega)] at h ⊢
    exact h
  · have ha2 : 0 ≤ a ∧ a < b.2.1 := by omega
    have s0 : μ 144 (400 * e + a) = b.1 0 a := hb.at (f := 0) rfl (by decide) (by decide) ha2.1 ha2.2
    have e1 : jm_wr (bb + a) = 400 * e + a := by rw [eb]; exact jm_wr_id (by omega) (by omega)
    rw [if_neg (by omega)] at h
    rw [e1, s0]
    refine ⟨by omega, ?_⟩
    have go : ¬ (b.1 0 a = who ∧ sDo ρ k ≠ 4 ∧ sDo ρ k ≠ 5) → jg E m_X11_wrongOf (d + 1) 148 [some (jm_R 133), some (jm_I e), some (jm_I who), none, some (jm_I n), some (jm_I bb), some (jm_I a), some (jm_I dd), none] [] μ Q := fun z => by
      refine r_M_wr148 he hW hr hb hG hn k0 k1 ha en eb ed ?_
      rw [sW3, if_neg z] at h
      rw [if_neg (by omega)]
      exact h
    refine ⟨fun z => go (fun w => z w.1), fun z => ⟨fun z2 => go (fun w => w.2.1 (by omega)), fun z2 => ⟨fun z3 => go (fun w => w.2.2 (by omega)), fun z3 => ?_⟩⟩⟩
    rw [sW3, if_pos ⟨by omega, by omega, by omega⟩] at h
    exact h
theorem r_M_wr83 {who k a v3 : Int} (he : 0 ≤ e ∧ e < 2) (hW : sWR ρ) (hr : mRu μ e ρ) (hb : mBd μ e b) (hG : sGB ρ b) (k0 : 0 ≤ k) (k1 : k < ρ 1) (ek : v3 = k) (ha : a = -1 ∨ (0 ≤ a ∧ a < b.2.1)) {n bb dd : Int} (en : n = b.2.1) (eb : bb = 400 * e) (ed : dd = sDo ρ k) (h : Q (some (jm_I (if a = -1 then sWN ρ k else sW2 ρ b who k a))) μ) :
    jg E m_X11_wrongOf (d + 1) 83 [some (jm_R 133), some (jm_I e), some (jm_I who), some (jm_I v3), some (jm_I n), some (jm_I bb), some (jm_I a), some (jm_I dd), none] [] μ Q := by
  subst ek
  have hn := hG.2.1
  have hK := hW.2.2.2.2.2.2.2.2.2.2.2.2 v3 k0 k1
  have hK1 := hW.2.2.2.1
  refine r_X11_wrongOf_83 (d := d + 1) ⟨fun q => ?_, fun q => ?_⟩
  · refine r_M_wr114 he hW hr hb hG k0 k1 ha en eb ed ?_
    rw [if_pos (by omega)] at h ⊢
    exact h
  · have ha2 : 0 ≤ a ∧ a < b.2.1 := by omega
    have hGa := hG.2.2.2.2 a ha2.1 ha2.2
    have s1 : μ 145 (400 * e + a) = b.1 1 a := hb.at (f := 1) rfl (by decide) (by decide) ha2.1 ha2.2
    have e1 : jm_wr (bb + a) = 400 * e + a := by rw [eb]; exact jm_wr_id (by omega) (by omega)
    rw [if_neg (by omega)] at h
    refine c_M_ma he (by omega) hr (jq_I ?_)
    rw [e1, s1]
    refine ⟨by omega, c_M_has (by omega) (by omega) (by omega) (by omega) (fun z => jq_Z (jb_t (by decide) ?_)) (fun z => jq_Z (jb_f (by decide) ?_))⟩
    · refine r_M_wr114 he hW hr hb hG k0 k1 ha en eb ed ?_
      rw [sW2, if_neg (by rw [z]; decide)] at h
      rw [if_neg (by omega)]
      exact h
    · rw [sW2, if_pos z] at h
      exact h
theorem c_M_wrongOf {who k : Int} (he : 0 ≤ e ∧ e < 2) (hW : sWR ρ) (hr : mRu μ e ρ) (hb : mBd μ e b) (hG : sGB ρ b) (w0 : 0 ≤ who) (w1 : who < ρ 0) (k0 : 0 ≤ k) (k1 : k < ρ 1) (h : Q (some (jm_I (sWr ρ b who k))) μ) : jc E m_X11_wrongOf (d + 3) [jm_R 133, jm_I e, jm_I who, jm_I k] μ Q := by
  have hn := hG.2.1
  have hn0 := hG.1
  have en : μ 150 e = b.2.1 := hb.1
  have hK1 := hW.2.2.2.1
  have e0 : jm_wr (400 * e) = 400 * e := jm_wr_id (by omega) (by omega)
  have ha : sAns ρ (μ 150 e) who k = -1 ∨ (0 ≤ sAns ρ (μ 150 e) who k ∧ sAns ρ (μ 150 e) who k < b.2.1) := by
    have := sAns_in (n := μ 150 e) (k := k) hW (by omega) w0 w1
    rw [en] at this ⊢
    omega
  refine e_X11_wrongOf (d := d + 2) (fun _ => ⟨he, fun x2 hx2 x3 hx3 => c_M_answers he hW hr (by omega) w0 w1 k0 k1 (jq_I (c_M_do he (by omega) hr (jq_I (c_M_rule he (by omega) hr (jq_I ?_)))))⟩)
  have go : ¬ (ρ 5 = 0 ∧ 0 < b.2.1 ∧ b.1 0 (b.2.1 - 1) = who) → (sAns ρ (μ 150 e) who k ≠ -1 ∨ sOp ρ k ≠ 0) → jg E m_X11_wrongOf (d + 2) 83 [some (jm_R 133), some (jm_I e), some (jm_I who), some (jm_I k), some (jm_I x2), some (jm_I x3), some (jm_I (sAns ρ (μ 150 e) who k)), some (jm_I (sDo ρ k)), none] [] μ Q := by
    intro z z2
    refine r_M_wr83 (d := d + 1) he hW hr hb hG k0 k1 rfl ha (by omega) (by omega) rfl ?_
    rw [sWr, if_neg z] at h
    rw [en] at z2 ⊢
    by_cases y : sAns ρ b.2.1 who k = -1
    · rw [if_pos y, if_neg (by omega)] at h
      rw [if_pos y]
      exact h
    · rw [if_neg y] at h
      rw [if_neg y]
      exact h
  have two : ¬ (ρ 5 = 0 ∧ 0 < b.2.1 ∧ b.1 0 (b.2.1 - 1) = who) → ¬ (sAns ρ (μ 150 e) who k ≠ -1) → sOp ρ k = 0 → Q (some (jm_I 2)) μ := by
    intro z z2 z3
    rw [sWr, if_neg z, ← en, if_pos (by omega), if_pos z3] at h
    exact h
  have alt : ¬ (ρ 5 = 0 ∧ 0 < b.2.1 ∧ b.1 0 (b.2.1 - 1) = who) → (sAns ρ (μ 150 e) who k ≠ -1 →
      jg E m_X11_wrongOf (d + 2) 83 [some (jm_R 133), some (jm_I e), some (jm_I who), some (jm_I k), some (jm_I x2), some (jm_I x3), some (jm_I (sAns ρ (μ 150 e) who k)), some (jm_I (sDo ρ k)), none] [] μ Q) ∧ (¬ (sAns ρ (μ 150 e) who k ≠ -1) → jc E m_X11_ofKind (d + 2) [jm_R 133, jm_I e, jm_I k, jm_I 0] μ (fun o m12 => ∀ r13 : Int, o = some (jm_I r13) → ((r13 ≠ 0 → jg E m_X11_wrongOf (d + 2) 83 [some (jm_R 133), some (jm_I e), some (jm_I who), some (jm_I k), some (jm_I x2), some (jm_I x3), some (jm_I (sAns ρ (μ 150 e) who k)), some (jm_I (sDo ρ k)), none] [] m12 Q) ∧ (¬ (r13 ≠ 0) → Q (some (jm_I 2)) m12)))) := by
    intro z
    exact ⟨fun y => go z (Or.inl y), fun y => c_M_op he (by omega) hr (jq_I ⟨fun y2 => go z (Or.inr y2), fun y2 => two z y (by omega)⟩)⟩
  refine ⟨fun q => alt (fun w => q w.1), fun q => ⟨fun q2 => alt (fun w => by omega), fun q2 => ?_⟩⟩
  have e4 : jm_wr (jm_wr (x3 + x2) - 1) = 400 * e + (b.2.1 - 1) := by
    rw [hx3, hx2, en, e0, jm_wr_id (a := 400 * e + b.2.1) (by omega) (by omega), jm_wr_id (by omega) (by omega)]
    omega
  have s0 : μ 144 (400 * e + (b.2.1 - 1)) = b.1 0 (b.2.1 - 1) := hb.at (f := 0) rfl (by decide) (by decide) (by omega) (by omega)
  rw [e4, s0]
  refine ⟨by omega, fun q3 => alt (fun w => q3 w.2.2), fun q3 => ?_⟩
  rw [sWr, if_pos ⟨by omega, by omega, by omega⟩] at h
  exact h
theorem c_M_stateOf {t : Int} (he : 0 ≤ e ∧ e < 2) (hW : sWR ρ) (hr : mRu μ e ρ) (hb : mBd μ e b) (hG : sGB ρ b) (t0 : 0 ≤ t) (t1 : t < b.2.1) (h : Q (some (jm_I (sSt ρ b t))) μ) : jc E m_X11_stateOf (d + 2) [jm_R 133, jm_I e, jm_I t] μ Q := by
  have hn := hG.2.1
  have hn0 := hG.1
  have hGt := hG.2.2.2.2 t t0 t1
  have hK1 := hW.2.2.2.1
  have hKt := hW.2.2.2.2.2.2.2.2.2.2.2.2 (b.1 1 t) hGt.2.1.1 hGt.2.1.2
  have e1 : jm_wr (jm_wr (400 * e) + t) = 400 * e + t := by rw [jm_wr_id (a := 400 * e) (by omega) (by omega), jm_wr_id (by omega) (by omega)]
  have s5 : μ 149 (400 * e + t) = b.1 5 t := hb.at (f := 5) rfl (by decide) (by decide) t0 t1
  have s1 : μ 145 (400 * e + t) = b.1 1 t := hb.at (f := 1) rfl (by decide) (by decide) t0 t1
  refine e_X11_stateOf (d := d + 1) (fun _ => ?_)
  rw [e1, s5, s1, hb.1]
  refine ⟨by omega, fun x hx => ?_⟩
  subst hx
  unfold sSt at h
  refine ⟨fun q => ?_, fun q => ⟨he, c_M_du he (by omega) hr (jq_I ?_)⟩⟩
  · rw [if_neg (fun w => q w.1)] at h
    exact h
  · rw [jm_wr_id (a := b.2.1 - 1) (by omega) (by omega), jm_wr_id (a := t + sDu ρ (b.1 1 t)) (by omega) (by omega)]
    refine ⟨fun q2 => ?_, fun q2 => ?_⟩
    · rw [if_neg (fun w => by omega)] at h
      exact h
    · rw [if_pos ⟨by omega, by omega⟩] at h
      exact h
theorem c_M_isPromise {t : Int} (hW : sWR ρ) (hr : mRu μ 0 ρ) (hb : mBd μ 0 b) (hG : sGB ρ b) (t0 : 0 ≤ t) (t1 : t < b.2.1) (ht : sDo ρ (b.1 1 t) = 2 → Q (some (jm_I 1)) μ) (hf : sDo ρ (b.1 1 t) ≠ 2 → Q (some (jm_I 0)) μ) : jc E m_X11_isPromise (d + 2) [jm_R 133, jm_I t] μ Q := by
  have hn := hG.2.1
  have hGt := hG.2.2.2.2 t t0 t1
  have hK1 := hW.2.2.2.1
  have s1 : μ 145 t = b.1 1 t := by
    have := hb.at (f := 1) (g := 145) rfl (by decide) (by decide) t0 t1
    rwa [show 400 * 0 + t = t by omega] at this
  refine e_X11_isPromise (d := d + 1) (fun _ => ⟨by omega, ?_⟩)
  rw [s1]
  exact c_M_do (by decide) (by omega) hr (jq_I ⟨fun q => hf q, fun q => ht (by omega)⟩)
end MB2
