section MT
variable {E : jm_E} {d : Nat} {μ : jm_M} {Q : Option jm_V → jm_M → Prop} {ρ : sR} {w : Int → Int} {n : Nat}
/-- the reference holds rules and words that are not wrong -/
def mOK (μ : jm_M) (ρ : sR) (w : Int → Int) (n : Nat) : Prop := sWR ρ ∧ mTl μ ρ w n ∧ n ≤ 400 ∧ sVW ρ w n
theorem mOK_of {ν : jm_M} (hq : mQ μ ν) (h : mOK μ ρ w n) : mOK ν ρ w n := ⟨h.1, mTl_of hq h.2.1, h.2.2.1, h.2.2.2⟩
theorem mOK.good (h : mOK μ ρ w n) : sGB ρ (sLay ρ w n) := sLay_good h.1 n h.2.2.1 h.2.2.2
theorem mOK.lay (h : mOK μ ρ w n) (hQ : ∀ ν, mRu ν 0 ρ → mBd ν 0 (sLay ρ w n) → mQ μ ν → ν 133 = μ 133 → Q none ν) : jc E m_X11_lay (d + 4) [jm_R 133] μ Q := c_M_lay h.1 h.2.1 h.2.2.1 h.2.2.2 hQ
theorem mOK.p0 (h : mOK μ ρ w n) : μ 135 0 = ρ 0 := h.2.1.1 0 (by decide) (by decide)
theorem mOK.p1 (h : mOK μ ρ w n) : μ 135 1 = ρ 1 := h.2.1.1 1 (by decide) (by decide)
theorem mOK.n60 (h : mOK μ ρ w n) : μ 135 60 = n := h.2.1.2.1
/-- is it a word, and is there room; why it is wrong -/
def sTry (ρ : sR) (w : Int → Int) (n : Nat) (who k : Int) : Int := if (0 ≤ who ∧ who < ρ 0) ∧ (0 ≤ k ∧ k < ρ 1) ∧ n < 400 then sWr ρ (sLay ρ w n) who k else -1
theorem c_M_tries {who k : Int} (h0 : mOK μ ρ w n) (h : ∀ ν, mQ μ ν → ν 133 0 = 0 → Q (some (jm_I (sTry ρ w n who k))) ν) : jc E m_X11_tries (d + 5) [jm_R 133, jm_I who, jm_I k] μ Q := by
  have hn := h0.2.2.1
  have no : ¬ ((0 ≤ who ∧ who < ρ 0) ∧ (0 ≤ k ∧ k < ρ 1) ∧ n < 400) → Q (some (jm_I (-1))) (jm_up μ 133 0 0) := fun z => by
    have := h _ mQ_0 jm_up_at
    rw [sTry, if_neg z] at this
    exact this
  have h1 := mOK_of (mQ_0 (v := 0)) h0
  refine e_X11_tries (d := d + 4) (fun _ => c_M_isWho (fun a0 a1 => jq_Z (jb_f (by decide) ?_)) (fun a => jq_Z (jb_t (by decide) (no (fun z => a (by rw [h1.p0]; exact z.1))))))
  rw [h1.p0] at a1
  refine c_M_isKind (fun b0 b1 => jq_Z (jb_f (by decide) ?_)) (fun a => jq_Z (jb_t (by decide) (no (fun z => a (by rw [h1.p1]; exact z.2.1)))))
  rw [h1.p1] at b1
  rw [h1.n60]
  refine ⟨fun z => h1.lay (fun ν hr hb hq h3 _ => c_M_wrongOf (by decide) h0.1 hr hb h0.good a0 a1 b0 b1 (jq_I ?_)), fun z => no (fun y => by omega)⟩
  have := h ν (mQ_0.trans hq) (by rw [h3]; exact jm_up_at)
  rw [sTry, if_pos ⟨⟨a0, a1⟩, ⟨b0, b1⟩, by omega⟩] at this
  exact this
theorem c_M_wrong {who k : Int} (h0 : mOK μ ρ w n) (h : ∀ ν, mQ μ ν → Q (some (jm_I (sTry ρ w n who k))) ν) : jc E m_X11_wrong (d + 6) [jm_R 133, jm_I who, jm_I k] μ Q :=
  e_X11_wrong (d := d + 5) (fun _ => c_M_tries h0 (fun ν hq _ => jq_I (h ν hq)))
def mSaid (μ ν : jm_M) (n : Nat) (who k : Int) : Prop := (∀ p, p ≠ 133 → p ≠ 135 → p < 143 ∨ 151 < p → ν p = μ p) ∧ (∀ i, i ≠ 0 → ν 133 i = μ 133 i) ∧ (∀ i : Int, i ≠ 60 → i ≠ 61 + 2 * n → i ≠ 62 + 2 * n → ν 135 i = μ 135 i) ∧ ν 135 60 = n + 1 ∧ ν 135 (61 + 2 * n) = who ∧ ν 135 (62 + 2 * n) = k
theorem c_M_keepWord {who k : Int} (hn : μ 135 60 = n) (hn4 : n < 400) (h : ∀ ν : jm_M, (∀ p, p ≠ 135 → ν p = μ p) → (∀ i : Int, i ≠ 60 → i ≠ 61 + 2 * n → i ≠ 62 + 2 * n → ν 135 i = μ 135 i) → ν 135 60 = n + 1 → ν 135 (61 + 2 * n) = who → ν 135 (62 + 2 * n) = k → Q none ν) : jc E m_X11_keepWord (d + 1) [jm_R 133, jm_I who, jm_I k] μ Q := by
  refine e_X11_keepWord (fun _ => ?_)
  have e1 : jm_wr (61 + jm_wr (2 * (n : Int))) = 61 + 2 * n := by rw [jm_wr_id (a := 2 * (n : Int)) (by omega) (by omega), jm_wr_id (by omega) (by omega)]
  rw [hn, e1]
  refine ⟨by omega, fun m2 hm2 => ?_⟩
  have t1 : m2 135 60 = n := by rw [hm2, jm_up_i (by omega)]; exact hn
  have e2 : jm_wr (61 + 2 * (n : Int) + 1) = 62 + 2 * n := by rw [jm_wr_id (by omega) (by omega)]; omega
  rw [t1, e1, e2]
  refine ⟨by omega, fun m4 hm4 m5 hm5 => ?_⟩
  have t2 : m4 135 60 = n := by rw [hm4, jm_up_i (by omega)]; exact t1
  rw [t2, jm_wr_id (by omega) (by omega)] at hm5
  subst hm5 hm4 hm2
  refine h _ (fun p hp => ?_) (fun i i1 i2 i3 => ?_) jm_up_at ?_ ?_
  · rw [jm_up_ne hp, jm_up_ne hp, jm_up_ne hp]
  · rw [jm_up_i i1, jm_up_i i3, jm_up_i i2]
  · rw [jm_up_i (by omega), jm_up_i (by omega)]; exact jm_up_at
  · rw [jm_up_i (by omega)]; exact jm_up_at
theorem c_M_say {who k : Int} (h0 : mOK μ ρ w n) (h1 : sTry ρ w n who k = 0 → ∀ ν, mSaid μ ν n who k → Q (some (jm_I 0)) ν) (h2 : sTry ρ w n who k ≠ 0 → ∀ ν, mQ μ ν → Q (some (jm_I (sTry ρ w n who k))) ν) : jc E m_X11_say (d + 6) [jm_R 133, jm_I who, jm_I k] μ Q := by
  refine e_X11_say (d := d + 5) (fun _ => c_M_tries h0 (fun ν hq _ => jq_I ⟨fun z => ?_, fun z => h2 z ν hq⟩))
  have hn4 : n < 400 := by
    unfold sTry at z
    split at z
    · rename_i y; exact y.2.2
    · omega
  refine c_M_keepWord (mOK_of hq h0).n60 hn4 (fun ξ g1 g2 g3 g4 g5 _ => h1 z ξ ⟨fun p p1 p2 p3 => ?_, fun i i1 => ?_, fun i i1 i2 i3 => ?_, g3, g4, g5⟩)
  · rw [g1 p p2, hq.1 p p1 p3]
  · rw [g1 133 (by decide), hq.2 i i1]
  · rw [g2 i i1 i2 i3, hq.1 135 (by decide) (by decide)]
theorem c_M_may {who : Int} (h0 : mOK μ ρ w n) (h1 : ¬ (0 ≤ who ∧ who < ρ 0) → ∀ ν, mQ μ ν → Q (some (jm_I (-1))) ν) (h2 : 0 ≤ who → who < ρ 0 → ∀ ν, mQ μ ν → Q (some (jm_I (if n < 400 then sMsk (fun k => decide (sWr ρ (sLay ρ w n) who k = 0)) (ρ 1).toNat 0 0 else 0))) ν) : jc E m_X11_may (d + 5) [jm_R 133, jm_I who] μ Q := by
  have hm := mOK_of (mQ_0 (v := 0)) h0
  have hW := h0.1
  have hK := hW.2.2.1
  have hK1 := hW.2.2.2.1
  refine e_X11_may (d := d + 4) (fun _ => c_M_isWho (fun a0 a1 => jq_Z (jb_t (by decide) (hm.lay (fun ν hr hb hq h3 _ => ?_)))) (fun a => jq_Z (jb_f (by decide) (h1 (by rw [hm.p0] at a; exact a) _ mQ_0))))
  rw [hm.p0] at a1
  have h4 := h2 a0 a1 ν (mQ_0.trans hq)
  have hν := mOK_of hq hm
  have key : ∀ (m : Nat) (k acc : Int), ρ 1 - k = m → 0 ≤ k → 0 ≤ acc → acc < 1024 → (if n < 400 then sMsk (fun k => decide (sWr ρ (sLay ρ w n) who k = 0)) m k acc else acc) = (if n < 400 then sMsk (fun k => decide (sWr ρ (sLay ρ w n) who k = 0)) (ρ 1).toNat 0 0 else 0) → jg E m_X11_may (d + 4) 23 [some (jm_R 133), some (jm_I who), some (jm_I acc), some (jm_I k)] [] ν Q := by
    intro m
    induction m with
    | zero =>
      intro k acc g1 g2 g3 g4 g5
      refine r_X11_may_23 (d := d + 4) ⟨fun z => ?_, fun z => absurd (show ν 135 1 ≤ k by rw [hν.p1]; omega) z⟩
      rw [← g5] at h4
      have : (if n < 400 then sMsk (fun k => decide (sWr ρ (sLay ρ w n) who k = 0)) 0 k acc else acc) = acc := by split <;> rfl
      rw [this] at h4
      exact h4
    | succ m ih =>
      intro k acc g1 g2 g3 g4 g5
      refine r_X11_may_23 (d := d + 4) ⟨fun z => absurd (show ν 135 1 ≤ k from z) (by rw [hν.p1]; omega), fun z => ⟨fun z2 => ?_, fun z2 => ?_⟩⟩
      · rw [hν.n60] at z2
        rw [if_neg (by omega)] at h4 g5
        rw [if_neg (by omega)] at g5
        rw [g5]
        exact h4
      · rw [hν.n60] at z2
        have hn4 : n < 400 := by omega
        rw [if_pos hn4, if_pos hn4, sMsk] at g5
        rw [if_pos hn4] at h4
        have hs := sor_lt (m := acc) (k := k) (n := 10) g3 (by omega) g2 (by omega)
        refine c_M_wrongOf (by decide) hW hr hb h0.good a0 a1 g2 (by omega) (jq_I ⟨fun y => ?_, fun y => ?_⟩)
        · rw [jm_wr_id (by omega) (by omega)]
          refine ih (k + 1) acc (by omega) (by omega) g3 g4 ?_
          rw [if_pos hn4, if_pos hn4]
          rw [if_neg (by simpa using y)] at g5
          exact g5
        · intro x hx
          rw [jm_or_bit g3 (by omega) g2 (by omega)] at hx
          subst hx
          rw [jm_wr_id (by omega) (by omega)]
          refine ih (k + 1) _ (by omega) (by omega) hs.1 (by omega) ?_
          rw [if_pos hn4, if_pos hn4]
          rw [if_pos (by simpa using y)] at g5
          exact g5
  exact key (ρ 1).toNat 0 0 (by omega) (by decide) (by decide) (by decide) rfl
end MT
