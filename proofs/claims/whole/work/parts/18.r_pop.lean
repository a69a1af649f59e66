section MB5
variable {E : jm_E} {d : Nat} {μ : jm_M} {Q : Option jm_V → jm_M → Prop} {ρ : sR} {e : Int} {b : sB}
theorem mFr_up {p i v : Int} (hp : 144 ≤ p ∧ p ≤ 149) (hi : 400 * e ≤ i ∧ i < 400 * e + 400) : mFr e μ (jm_up μ p i v) := by
  refine ⟨fun q hq => jm_up_ne (by omega), fun e' b' a1 a2 a3 a4 hb' => ⟨?_, ?_, fun f t f0 f1 t0 t1 => ?_⟩⟩
  · rw [jm_up_lj (by omega)]; exact hb'.1
  · rw [jm_up_lj (by omega)]; exact hb'.2.1
  · rw [jm_up_i (by omega)]; exact hb'.2.2 f t f0 f1 t0 t1
theorem mFr_up2 {p v : Int} (hp : 150 ≤ p ∧ p ≤ 151) : mFr e μ (jm_up μ p e v) := by
  refine ⟨fun q hq => jm_up_ne (by omega), fun e' b' a1 a2 a3 a4 hb' => ⟨?_, ?_, fun f t f0 f1 t0 t1 => ?_⟩⟩
  · rw [jm_up_i a3]; exact hb'.1
  · rw [jm_up_i a3]; exact hb'.2.1
  · rw [jm_up_lj (by omega)]; exact hb'.2.2 f t f0 f1 t0 t1
theorem c_M_pop {who k : Int} (he : 0 ≤ e ∧ e < 2) (hW : sWR ρ) (hr : mRu μ e ρ) (hb : mBd μ e (sPush ρ b who k)) (hG : sGB ρ b) (n1 : b.2.1 < 400) (w0 : 0 ≤ who) (w1 : who < ρ 0) (k0 : 0 ≤ k) (k1 : k < ρ 1) (hw : sWr ρ b who k = 0) (h : ∀ ν, mBd ν e b → mFr e μ ν → Q none ν) : jc E m_X11_pop (d + 2) [jm_R 133, jm_I e] μ Q := by
  have hG' := sGB_push hW hG n1 w0 w1 k0 k1 hw
  obtain ⟨g0, g1, g2, g3, g4⟩ := hG
  have hK1 := hW.2.2.2.1
  have hin := sAns_in (n := b.2.1) (k := k) hW g0 w0 w1
  generalize ha : sAns ρ b.2.1 who k = a at hin
  have h0 := sWr0 ha hw
  have hc := sPush_c ha
  have hn := sPush_n ha
  have al : a < b.2.1 := by omega
  have en : μ 150 e = b.2.1 + 1 := hb.1.trans hc.1
  have eh : μ 151 e = if a = -1 then b.2.2 + 1 else b.2.2 := hb.2.1.trans hc.2
  have s2 : μ 146 (400 * e + b.2.1) = a := (hb.at (f := 2) rfl (by decide) (by decide) g0 (by omega)).trans hn.2.2.1
  have s1 : μ 145 (400 * e + b.2.1) = k := (hb.at (f := 1) rfl (by decide) (by decide) g0 (by omega)).trans hn.2.1
  have old : ∀ f t, 0 ≤ f → f ≤ 5 → 0 ≤ t → t < b.2.1 → (f ≠ 5 ∨ ¬ (t = a ∧ a ≠ -1 ∧ 1 < sDo ρ k)) → μ (144 + f) (400 * e + t) = b.1 f t := by
    intro f t f0 f1 t0 t1 hx
    rw [hb.2.2 f t f0 f1 t0 (by omega)]
    by_cases h5 : f = 5
    · subst h5
      rw [sPush_5 ha al, if_neg (by omega), if_neg (by omega)]
    · exact sPush_f ha h5 (by omega)
  refine e_X11_pop (d := d + 1) (fun _ => ⟨he, fun m2 hm2 x hx => ?_⟩)
  have e1 : jm_wr (μ 150 e - 1) = b.2.1 := by rw [en, jm_wr_id (by omega) (by omega)]; omega
  rw [e1] at hm2
  have t1 : m2 150 e = b.2.1 := by rw [hm2]; exact jm_up_at
  rw [t1, jm_wr_id (a := 400 * e) (by omega) (by omega), jm_wr_id (by omega) (by omega)] at hx
  have up0 : ∀ p, p ≠ 150 → m2 p = μ p := fun p hp => by rw [hm2]; exact jm_up_ne hp
  have f2 : mFr e μ m2 := by rw [hm2]; exact mFr_up2 (by decide)
  have hr2 : mRu m2 e ρ := by intro i i0 i1; rw [up0 143 (by decide)]; exact hr i i0 i1
  subst hx
  rw [up0 146 (by decide), s2, up0 145 (by decide), s1]
  refine ⟨by omega, fun z => ?_, fun z => ?_⟩
  · have hh : μ 151 e = b.2.2 := by rw [eh, if_neg z]
    refine c_M_do he (by omega) hr2 (jq_I ?_)
    rw [up0 146 (by decide), s2, jm_wr_id (a := 400 * e) (by omega) (by omega), jm_wr_id (a := 400 * e + a) (by omega) (by omega)]
    have fin : ∀ v, 1 < sDo ρ k → v = b.1 5 a → ∀ m11, m11 = jm_up m2 149 (400 * e + a) v → Q none m11 := by
      intro v hd hv m11 hm
      subst hm
      have f3 : mFr e m2 (jm_up m2 149 (400 * e + a) v) := mFr_up (by decide) (by omega)
      refine h _ ⟨?_, ?_, fun f t f0 f1 t0 t1 => ?_⟩ (f2.trans f3)
      · rw [jm_up_lj (by decide)]; exact t1
      · rw [jm_up_lj (by decide), up0 151 (by decide)]; exact hh
      · by_cases hft : f = 5 ∧ t = a
        · obtain ⟨rfl, rfl⟩ := hft
          have : (144 + 5 : Int) = 149 := by decide
          rw [this, jm_up_at, hv]
        · have hne : ¬ (144 + f = 149 ∧ 400 * e + t = 400 * e + a) := by omega
          have : jm_up m2 149 (400 * e + a) v (144 + f) (400 * e + t) = m2 (144 + f) (400 * e + t) := by
            unfold jm_up
            by_cases q1 : 400 * e + t = 400 * e + a
            · rw [if_pos q1, if_neg (fun q2 => hne ⟨q2, q1⟩)]
            · rw [if_neg q1]
          rw [this, up0 _ (by omega)]
          exact old f t f0 f1 t0 t1 (by omega)
    refine ⟨fun z2 => ?_, fun z2 => ⟨fun z3 => ⟨by omega, fun m11 hm => fin 4 (by omega) (by omega) m11 hm⟩, fun z3 => ⟨by omega, fun m11 hm => fin 1 (by omega) (by omega) m11 hm⟩⟩⟩
    refine h m2 ⟨t1, by rw [up0 151 (by decide)]; exact hh, fun f t f0 f1 t0 t1 => ?_⟩ f2
    rw [up0 _ (by omega)]
    exact old f t f0 f1 t0 t1 (by omega)
  · intro m14 hm
    have hh : μ 151 e = b.2.2 + 1 := by rw [eh, if_pos (by omega)]
    rw [up0 151 (by decide), hh, jm_wr_id (by omega) (by omega)] at hm
    have f3 : mFr e m2 m14 := by rw [hm]; exact mFr_up2 (by decide)
    refine h _ ⟨?_, ?_, fun f t f0 f1 t0 t1 => ?_⟩ (f2.trans f3)
    · rw [hm, jm_up_lj (by decide)]; exact t1
    · rw [hm, jm_up_at]; omega
    · rw [hm, jm_up_lj (by omega), up0 _ (by omega)]
      exact old f t f0 f1 t0 t1 (by omega)
theorem mRu_of {ν : jm_M} {e' : Int} (hf : mFr e μ ν) (h : mRu μ e' ρ) : mRu ν e' ρ := fun i i0 i1 => by rw [hf.1 143 (by decide)]; exact h i i0 i1
/-- the rules are laid on a board that is empty then -/
theorem c_M_layRules {p o : Int} (he : 0 ≤ e ∧ e < 2) (hp : ∀ i, 0 ≤ i → i < 60 → jm_ix jm_N p 2 (o + i) ∧ μ p (o + i) = ρ i) (hp1 : p ≠ 143) (ho : 0 ≤ o ∧ o < 100000)
    (h : ∀ ν, mRu ν e ρ → mBd ν e sEmpty → (∀ q, q ≠ 143 → q ≠ 150 → q ≠ 151 → ν q = μ q) → (∀ e' ρ', 0 ≤ e' → e' < 2 → e' ≠ e → mRu μ e' ρ' → mRu ν e' ρ') → (∀ e' b', 0 ≤ e' → e' < 2 → e' ≠ e → mBd μ e' b' → mBd ν e' b') → Q none ν) : jc E m_X11_layRules (d + 1) [jm_R 133, jm_I e, jm_R p, jm_I o] μ Q := by
  refine e_X11_layRules (fun _ => ?_)
  have key : ∀ (n : Nat) (i : Int) (ν : jm_M), 60 - i ≤ n → 0 ≤ i → i ≤ 60 → (∀ j, 0 ≤ j → j < i → ν 143 (60 * e + j) = ρ j) → (∀ q, q ≠ 143 → ν q = μ q) → (∀ j, (j < 60 * e ∨ 60 * e + 60 ≤ j) → ν 143 j = μ 143 j) →
      jg E m_X11_layRules d 3 [some (jm_R 133), some (jm_I e), some (jm_R p), some (jm_I o), some (jm_I i)] [] ν Q := by
    intro n
    induction n with
    | zero =>
      intro i ν h1 h2 h3 h4 h5 h6
      refine r_X11_layRules_3 ⟨fun z => ⟨he, fun m3 hm3 m4 hm4 => ?_⟩, fun z => absurd z (by omega)⟩
      subst hm3 hm4
      refine h _ ?_ ⟨?_, ?_, fun f t f0 f1 t0 t1 => absurd t1 (by simp [sEmpty]; omega)⟩ ?_ ?_ ?_
      · intro j j0 j1
        rw [jm_up_lj (by decide), jm_up_lj (by decide)]
        exact h4 j j0 (by omega)
      · rw [jm_up_lj (by decide), jm_up_at]; rfl
      · rw [jm_up_at]; rfl
      · intro q q1 q2 q3
        rw [jm_up_ne q3, jm_up_ne q2]
        exact h5 q q1
      · intro e' ρ' a1 a2 a3 hr j j0 j1
        rw [jm_up_lj (by decide), jm_up_lj (by decide), h6 _ (by omega)]
        exact hr j j0 j1
      · intro e' b' a1 a2 a3 hb
        refine ⟨?_, ?_, fun f t f0 f1 t0 t1 => ?_⟩
        · rw [jm_up_lj (by decide), jm_up_i a3, h5 _ (by decide)]; exact hb.1
        · rw [jm_up_i a3, jm_up_lj (by decide), h5 _ (by decide)]; exact hb.2.1
        · rw [jm_up_lj (by omega), jm_up_lj (by omega), h5 _ (by omega)]; exact hb.2.2 f t f0 f1 t0 t1
    | succ n ih =>
      intro i ν h1 h2 h3 h4 h5 h6
      by_cases hi : 60 ≤ i
      · exact ih i ν (by omega) h2 h3 h4 h5 h6
      · refine r_X11_layRules_3 ⟨fun z => absurd z hi, fun z => ?_⟩
        have hpi := hp i h2 (by omega)
        have e1 : jm_wr (o + i) = o + i := jm_wr_id (by omega) (by omega)
        have e2 : jm_wr (jm_wr (60 * e) + i) = 60 * e + i := by rw [jm_wr_id (a := 60 * e) (by omega) (by omega), jm_wr_id (by omega) (by omega)]
        rw [e1, e2, jm_wr_id (a := i + 1) (by omega) (by omega), h5 p hp1, hpi.2]
        refine ⟨hpi.1, by omega, fun m7 hm => ?_⟩
        subst hm
        refine ih (i + 1) _ (by omega) (by omega) (by omega) (fun j j0 j1 => ?_) (fun q hq => ?_) (fun j hj => ?_)
        · by_cases hj : j = i
          · rw [hj]; exact jm_up_at
          · rw [jm_up_i (by omega)]
            exact h4 j j0 (by omega)
        · rw [jm_up_ne hq]; exact h5 q hq
        · rw [jm_up_i (by omega)]; exact h6 j hj
  exact key 60 0 μ (by decide) (by decide) (by decide) (fun j j0 j1 => by omega) (fun _ _ => rfl) (fun _ _ => rfl)
end MB5
