/-! the reference's board -/
def mRu (μ : jm_M) (e : Int) (ρ : sR) : Prop := ∀ i, 0 ≤ i → i < 60 → μ 143 (60 * e + i) = ρ i
def mBd (μ : jm_M) (e : Int) (b : sB) : Prop := μ 150 e = b.2.1 ∧ μ 151 e = b.2.2 ∧ ∀ f t, 0 ≤ f → f ≤ 5 → 0 ≤ t → t < b.2.1 → μ (144 + f) (400 * e + t) = b.1 f t
/-- nothing but boards has changed; nor the other board -/
def mFr (e : Int) (μ ν : jm_M) : Prop := (∀ p, p < 144 ∨ 151 < p → ν p = μ p) ∧ (∀ e' b, 0 ≤ e' → e' < 2 → e' ≠ e → b.2.1 ≤ 400 → mBd μ e' b → mBd ν e' b)
theorem mFr.rfl {e : Int} {μ : jm_M} : mFr e μ μ := ⟨fun _ _ => Eq.refl _, fun _ _ _ _ _ _ h => h⟩
theorem mFr.trans {e : Int} {a b c : jm_M} (h1 : mFr e a b) (h2 : mFr e b c) : mFr e a c := ⟨fun p hp => (h2.1 p hp).trans (h1.1 p hp), fun e' x a1 a2 a3 a4 h => h2.2 e' x a1 a2 a3 a4 (h1.2 e' x a1 a2 a3 a4 h)⟩
section MB
variable {E : jm_E} {d : Nat} {μ : jm_M} {Q : Option jm_V → jm_M → Prop} {ρ : sR} {e : Int} {b : sB}
theorem c_M_has {m k : Int} (h0 : 0 ≤ m) (h1 : m < 2147483648) (k0 : 0 ≤ k) (k1 : k < 31) (ht : sbt m k = true → Q (some (jm_I 1)) μ) (hf : sbt m k = false → Q (some (jm_I 0)) μ) : jc E m_X11_has (d + 1) [jm_I m, jm_I k] μ Q := by
  refine e_X11_has (fun _ => ?_)
  rw [jm_bit h0 h1 k0 k1]
  cases hb : sbt m k
  · exact jb_t (by simp) (hf hb)
  · exact jb_f (by simp) (ht hb)
theorem c_M_isIn {v a c : Int} (ht : a ≤ v → v ≤ c → Q (some (jm_I 1)) μ) (hf : ¬ (a ≤ v ∧ v ≤ c) → Q (some (jm_I 0)) μ) : jc E m_X11_isIn (d + 1) [jm_I v, jm_I a, jm_I c] μ Q := by
  refine e_X11_isIn (fun _ => ⟨fun h1 => hf (by omega), fun h1 => ⟨fun h2 => hf (by omega), fun h2 => ht (by omega) (by omega)⟩⟩)
theorem c_M_isWho {v : Int} (ht : 0 ≤ v → v < μ 135 0 → Q (some (jm_I 1)) μ) (hf : ¬ (0 ≤ v ∧ v < μ 135 0) → Q (some (jm_I 0)) μ) : jc E m_X11_isWho (d + 1) [jm_R 133, jm_I v] μ Q := by
  refine e_X11_isWho (fun _ => ⟨fun h1 => hf (by omega), fun h1 => ⟨fun h2 => hf (by omega), fun h2 => ht (by omega) (by omega)⟩⟩)
theorem c_M_isKind {v : Int} (ht : 0 ≤ v → v < μ 135 1 → Q (some (jm_I 1)) μ) (hf : ¬ (0 ≤ v ∧ v < μ 135 1) → Q (some (jm_I 0)) μ) : jc E m_X11_isKind (d + 1) [jm_R 133, jm_I v] μ Q := by
  refine e_X11_isKind (fun _ => ⟨fun h1 => hf (by omega), fun h1 => ⟨fun h2 => hf (by omega), fun h2 => ht (by omega) (by omega)⟩⟩)
theorem c_M_rule {i : Int} (he : 0 ≤ e ∧ e < 2) (hi : 0 ≤ i ∧ i < 60) (hr : mRu μ e ρ) (h : Q (some (jm_I (ρ i))) μ) : jc E m_X11_rule (d + 1) [jm_R 133, jm_I e, jm_I i] μ Q := by
  refine e_X11_rule (fun _ => ?_)
  have e1 : jm_wr (jm_wr (60 * e) + i) = 60 * e + i := by simp (disch := omega) only [jm_wr_id]
  rw [e1, hr i hi.1 hi.2]
  exact ⟨by omega, h⟩
theorem c_M_ofKind {k i : Int} (he : 0 ≤ e ∧ e < 2) (hk : 0 ≤ k ∧ k < 10) (hi : 0 ≤ i ∧ i < 4) (hr : mRu μ e ρ) {v : Int} (hv : ρ (20 + 4 * k + i) = v) (h : Q (some (jm_I v)) μ) : jc E m_X11_ofKind (d + 1) [jm_R 133, jm_I e, jm_I k, jm_I i] μ Q := by
  refine e_X11_ofKind (fun _ => ?_)
  have e1 : jm_wr (jm_wr (jm_wr (jm_wr (60 * e) + 20) + jm_wr (4 * k)) + i) = 60 * e + (20 + 4 * k + i) := by
    simp (disch := omega) only [jm_wr_id]
    omega
  rw [e1, hr _ (by omega) (by omega), hv]
  exact ⟨by omega, h⟩
theorem c_M_op {k : Int} (he : 0 ≤ e ∧ e < 2) (hk : 0 ≤ k ∧ k < 10) (hr : mRu μ e ρ) (h : Q (some (jm_I (sOp ρ k))) μ) : jc E m_X11_ofKind (d + 1) [jm_R 133, jm_I e, jm_I k, jm_I 0] μ Q :=
  c_M_ofKind he hk ⟨by decide, by decide⟩ hr (by unfold sOp; congr 1; omega) h
theorem c_M_do {k : Int} (he : 0 ≤ e ∧ e < 2) (hk : 0 ≤ k ∧ k < 10) (hr : mRu μ e ρ) (h : Q (some (jm_I (sDo ρ k))) μ) : jc E m_X11_ofKind (d + 1) [jm_R 133, jm_I e, jm_I k, jm_I 1] μ Q :=
  c_M_ofKind he hk ⟨by decide, by decide⟩ hr (by unfold sDo; congr 1; omega) h
theorem c_M_du {k : Int} (he : 0 ≤ e ∧ e < 2) (hk : 0 ≤ k ∧ k < 10) (hr : mRu μ e ρ) (h : Q (some (jm_I (sDu ρ k))) μ) : jc E m_X11_ofKind (d + 1) [jm_R 133, jm_I e, jm_I k, jm_I 2] μ Q :=
  c_M_ofKind he hk ⟨by decide, by decide⟩ hr (by unfold sDu; congr 1; omega) h
theorem c_M_ma {k : Int} (he : 0 ≤ e ∧ e < 2) (hk : 0 ≤ k ∧ k < 10) (hr : mRu μ e ρ) (h : Q (some (jm_I (sMa ρ k))) μ) : jc E m_X11_ofKind (d + 1) [jm_R 133, jm_I e, jm_I k, jm_I 3] μ Q :=
  c_M_ofKind he hk ⟨by decide, by decide⟩ hr (by unfold sMa; congr 1; omega) h
theorem c_M_answers {who k : Int} (he : 0 ≤ e ∧ e < 2) (hW : sWR ρ) (hr : mRu μ e ρ) (hn : 0 ≤ μ 150 e ∧ μ 150 e ≤ 400) (w0 : 0 ≤ who) (w1 : who < ρ 0) (k0 : 0 ≤ k) (k1 : k < ρ 1) (h : Q (some (jm_I (sAns ρ (μ 150 e) who k))) μ) : jc E m_X11_answers (d + 2) [jm_R 133, jm_I e, jm_I who, jm_I k] μ Q := by
  have hB := sBack_in (n := μ 150 e) hW hn.1 w0 w1
  obtain ⟨h0, h1, h2, h3, h4, h5, h6, h7, h8, h9, h10, h11, h12⟩ := hW
  have hop := h12 k k0 k1
  refine e_X11_answers (d := d + 1) (fun _ => c_M_op he (by omega) hr (jq_I ?_))
  unfold sAns at h
  refine ⟨fun q => ?_, fun q => ?_⟩
  · rw [if_neg q] at h
    refine ⟨he, fun n en => ?_⟩
    subst en
    have fin : ∀ v : Int, v = sBack ρ (μ 150 e) who → ((v ≤ μ 150 e → Q (some (jm_I (jm_wr (μ 150 e - v)))) μ) ∧ (¬ (v ≤ μ 150 e) → Q (some (jm_I (-1))) μ)) := by
      intro v hv
      subst hv
      refine ⟨fun z => ?_, fun z => ?_⟩
      · rw [if_pos z] at h
        rw [jm_wr_id (by omega) (by omega)]
        exact h
      · rw [if_neg z] at h
        exact h
    refine c_M_rule he (by omega) hr (jq_I ⟨fun z => ?_, fun z => ?_⟩)
    · refine c_M_rule he (by omega) hr (jq_I ⟨fun z3 => ?_, fun z3 => ?_⟩)
      · refine c_M_rule he (by omega) hr (jq_I ⟨z3, ?_⟩)
        have e2 : jm_wr (6 + jm_rem (μ 150 e) (ρ 3)) = 6 + μ 150 e % ρ 3 := by
          have a1 := Int.emod_nonneg (μ 150 e) z3
          have a2 := Int.emod_lt_of_pos (μ 150 e) (show 0 < ρ 3 by omega)
          rw [jm_rem_n (by omega) (by omega) (by omega) (by omega), jm_wr_id (by omega) (by omega)]
        rw [e2]
        have a1 := Int.emod_nonneg (μ 150 e) z3
        have a2 := Int.emod_lt_of_pos (μ 150 e) (show 0 < ρ 3 by omega)
        exact c_M_rule he (by omega) hr (jq_I (fin _ (by unfold sBack; rw [if_neg (by omega), if_neg z3])))
      · exact fin 2 (by unfold sBack; rw [if_neg (by omega), if_pos (by omega)])
    · rw [jm_wr_id (by omega) (by omega)]
      exact c_M_rule he (by omega) hr (jq_I (fin _ (by unfold sBack; rw [if_pos (by omega)])))
  · rw [if_pos (by omega)] at h
    exact h
theorem mBd.at {f t g : Int} (h : mBd μ e b) (hg : 144 + f = g) (h0 : 0 ≤ f) (h1 : f ≤ 5) (t0 : 0 ≤ t) (t1 : t < b.2.1) : μ g (400 * e + t) = b.1 f t := by
  subst hg
  exact h.2.2 f t h0 h1 t0 t1
theorem r_M_wr148 {who k a : Int} (he : 0 ≤ e ∧ e < 2) (hW : sWR ρ) (hr : mRu μ e ρ) (hb : mBd μ e b) (hG : sGB ρ b) (hn : b.2.1 ≤ 400) (k0 : 0 ≤ k) (k1 : k < ρ 1) (ha : a = -1 ∨ (0 ≤ a ∧ a < b.2.1)) {n bb dd : Int} (en : n = b.2.1) (eb : bb = 400 * e) (ed : dd = sDo ρ k) (h : Q (some (jm_I (if a = -1 then sWN ρ k else sW4 ρ b who k a))) μ) :
    jg E m_X11_wrongOf (d + 1) 148 [some (jm_R 133), some (jm_I e), some (jm_I who), none, some (jm_I n), some (jm_I bb), some (jm_I a), some (jm_I dd), none] [] μ Q := by
  subst en eb ed
  have hK := hW.2.2.2.2.2.2.2.2.2.2.2.2
  have hn0 := hG.1
  refine r_X11_wrongOf_148 (d := d + 1) ⟨fun q => ⟨fun z => ?_, fun z => ?_⟩, fun q => ?_⟩
  · have ha2 : 0 ≤ a ∧ a < b.2.1 := by omega
    have hGa := hG.2.2.2.2 a ha2.1 ha2.2
    rw [if_neg z, sW4, if_neg (by omega)] at h
    have e1 : jm_wr (400 * e + a) = 400 * e + a := jm_wr_id (by omega) (by omega)
    have s5 : μ 149 (400 * e + a) = b.1 5 a := hb.at (f := 5) rfl (by decide) (by decide) ha2.1 ha2.2
    have s1 : μ 145 (400 * e + a) = b.1 1 a := hb.at (f := 1) rfl (by decide) (by decide) ha2.1 ha2.2
    have s2 : μ 146 (400 * e + a) = b.1 2 a := hb.at (f := 2) rfl (by decide) (by decide) ha2.1 ha2.2
    have s0 : μ 144 (400 * e + a) = b.1 0 a := hb.at (f := 0) rfl (by decide) (by decide) ha2.1 ha2.2
    have e2 : jm_wr (b.2.1 - a) = b.2.1 - a := jm_wr_id (by omega) (by omega)
    have hK1 := hW.2.2.2.1
    rw [e1]
    refine ⟨fun z4 => ⟨by omega, ?_⟩, fun z4 => ⟨by omega, ?_⟩⟩
    · rw [if_neg (by omega)] at h
      rw [s5, s1, e2]
      refine ⟨fun z5 => ?_, fun z5 => ?_⟩
      · rw [if_pos (Or.inl z5)] at h
        exact h
      · refine c_M_du he (by omega) hr (jq_I ?_)
        rw [s2, s0]
        refine ⟨fun z6 => ?_, fun z6 => ?_⟩
        · rw [if_neg (fun w => by rcases w with w | w <;> omega)] at h
          refine ⟨fun z7 => ?_, fun z7 => ⟨?_, ?_⟩⟩
          · rw [if_neg z7] at h
            intro x hx
            rw [hx]
            exact ⟨fun z8 => by rw [if_neg z8] at h; exact h, fun z8 => by rw [if_pos (by omega)] at h; exact h⟩
          · have hst := hGa.2.2.2.2.2
            have h2 : 0 ≤ b.1 2 a := by
              by_cases d2 : sDo ρ (b.1 1 a) = 2
              · exact (hst.2.1 d2).2.2
              · by_cases d1 : sDo ρ (b.1 1 a) = 1
                · have := hst.1 d1; omega
                · have := hst.2.2 d1 d2; omega
            rw [jm_wr_id (by omega) (by omega)]
            omega
          · have hst := hGa.2.2.2.2.2
            have h2 : 0 ≤ b.1 2 a := by
              by_cases d2 : sDo ρ (b.1 1 a) = 2
              · exact (hst.2.1 d2).2.2
              · by_cases d1 : sDo ρ (b.1 1 a) = 1
                · have := hst.1 d1; omega
                · have := hst.2.2 d1 d2; omega
            rw [jm_wr_id (a := 400 * e + b.1 2 a) (by omega) (by omega)]
            have s02 : μ 144 (400 * e + b.1 2 a) = b.1 0 (b.1 2 a) := hb.at (f := 0) rfl (by decide) (by decide) h2 (by omega)
            rw [s02]
            rw [if_pos (show sDo ρ k = 6 by omega)] at h
            intro x hx
            rw [hx]
            exact ⟨fun z8 => by rw [if_neg z8] at h; exact h, fun z8 => by rw [if_pos (by omega)] at h; exact h⟩
        · rw [if_pos (Or.inr (by omega))] at h
          exact h
    · rw [if_pos (by omega)] at h
      rw [s5]
      exact ⟨fun z8 => by rw [if_neg z8] at h; exact h, fun z8 => by rw [if_pos (by omega)] at h; exact h⟩
  · rw [if_pos (by omega), sWN, if_neg (by omega)] at h
    exact h
  · have e3 : (if a = -1 then sWN ρ k else sW4 ρ b who k a) = 0 := by
      unfold sWN sW4
      rw [if_pos (show sDo ρ k < 2 by omega), if_pos (show sDo ρ k < 2 by omega)]
      split <;> rfl
    rw [e3] at h
    exact h
end MB
