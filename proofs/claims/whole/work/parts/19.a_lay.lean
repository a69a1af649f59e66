/-! the reference's questions about the talk -/
def sSel (p : Int → Bool) (k : Int) : Nat → Int → Int → Int
  | 0, _, c => if k = -1 then c else -1
  | m + 1, t, c => if p t then (if c = k then t else sSel p k m (t + 1) (c + 1)) else sSel p k m (t + 1) c
def sMsk (p : Int → Bool) : Nat → Int → Int → Int
  | 0, _, acc => acc
  | m + 1, k, acc => sMsk p m (k + 1) (if p k then sor acc k else acc)
def sCnt (p : Int → Bool) : Nat → Int → Int → Int
  | 0, _, c => c
  | m + 1, t, c => sCnt p m (t + 1) (if p t then c + 1 else c)
theorem sCnt_le (p : Int → Bool) : ∀ (m : Nat) (t c : Int), c ≤ sCnt p m t c ∧ sCnt p m t c ≤ c + m
  | 0, t, c => ⟨Int.le_refl _, by simp [sCnt]⟩
  | m + 1, t, c => by
    have h := sCnt_le p m (t + 1) (if p t then c + 1 else c)
    unfold sCnt
    by_cases hp : p t = true
    · rw [if_pos hp] at h ⊢; omega
    · rw [if_neg hp] at h ⊢; omega
theorem sMsk_lt (p : Int → Bool) : ∀ (m : Nat) (k acc : Int), 0 ≤ k → k + m ≤ 10 → 0 ≤ acc → acc < 1024 → 0 ≤ sMsk p m k acc ∧ sMsk p m k acc < 1024
  | 0, k, acc, _, _, h0, h1 => ⟨h0, h1⟩
  | m + 1, k, acc, k0, k1, h0, h1 => by
    have h := sor_lt (m := acc) (k := k) (n := 10) h0 (by omega) k0 (by omega)
    unfold sMsk
    split
    · exact sMsk_lt p m (k + 1) _ (by omega) (by omega) h.1 (by omega)
    · exact sMsk_lt p m (k + 1) _ (by omega) (by omega) h0 h1
/-- the table and the talk as they lie in the reference -/
def mTl (μ : jm_M) (ρ : sR) (w : Int → Int) (n : Nat) : Prop := (∀ i, 0 ≤ i → i < 60 → μ 135 i = ρ i) ∧ μ 135 60 = n ∧ ∀ i : Int, 0 ≤ i → i < 2 * n → μ 135 (61 + i) = w i
/-- boards and what was thrown alone have changed -/
def mQ (μ ν : jm_M) : Prop := (∀ p, p ≠ 133 → p < 143 ∨ 151 < p → ν p = μ p) ∧ ∀ i, i ≠ 0 → ν 133 i = μ 133 i
theorem mQ.rfl {μ : jm_M} : mQ μ μ := ⟨fun _ _ _ => Eq.refl _, fun _ _ => Eq.refl _⟩
theorem mQ.trans {a b c : jm_M} (h1 : mQ a b) (h2 : mQ b c) : mQ a c := ⟨fun p hp hq => (h2.1 p hp hq).trans (h1.1 p hp hq), fun i hi => (h2.2 i hi).trans (h1.2 i hi)⟩
theorem mQ_0 {μ : jm_M} {v : Int} : mQ μ (jm_up μ 133 0 v) := ⟨fun p hp _ => jm_up_ne hp, fun i hi => jm_up_i hi⟩
theorem mQ_of {μ ν : jm_M} {e : Int} (h : mFr e μ ν) : mQ μ ν := ⟨fun p _ hq => h.1 p (by omega), fun i _ => by rw [h.1 133 (by decide)]⟩
theorem mTl_of {μ ν : jm_M} {ρ : sR} {w : Int → Int} {n : Nat} (hq : mQ μ ν) (h : mTl μ ρ w n) : mTl ν ρ w n := by
  have e := hq.1 135 (by decide) (by decide)
  exact ⟨fun i i0 i1 => by rw [e]; exact h.1 i i0 i1, by rw [e]; exact h.2.1, fun i i0 i1 => by rw [e]; exact h.2.2 i i0 i1⟩
section ML
variable {E : jm_E} {d : Nat} {μ : jm_M} {Q : Option jm_V → jm_M → Prop} {ρ : sR} {w : Int → Int} {n : Nat}
theorem c_M_lay (hW : sWR ρ) (hT : mTl μ ρ w n) (hn : n ≤ 400) (hV : sVW ρ w n) (h : ∀ ν, mRu ν 0 ρ → mBd ν 0 (sLay ρ w n) → mQ μ ν → ν 133 = μ 133 → Q none ν) : jc E m_X11_lay (d + 4) [jm_R 133] μ Q := by
  refine e_X11_lay (d := d + 3) (fun _ => ?_)
  refine c_M_layRules (ρ := ρ) (by decide) (fun i i0 i1 => ⟨?_, ?_⟩) (by decide) (by decide) (fun ν hr hb hf _ _ => ?_)
  · rw [Int.zero_add]
    exact ixl_135 i0 (by omega)
  · rw [Int.zero_add]
    exact hT.1 i i0 i1
  · intro _
    have hq0 : mQ μ ν := ⟨fun p hp hq => hf p (by omega) (by omega) (by omega), fun i _ => by rw [hf 133 (by decide) (by decide) (by decide)]⟩
    have h133 : ν 133 = μ 133 := hf 133 (by decide) (by decide) (by decide)
    have key : ∀ (m t : Nat) (ξ : jm_M), n - t ≤ m → t ≤ n → mRu ξ 0 ρ → mBd ξ 0 (sLay ρ w t) → mQ μ ξ → ξ 133 = μ 133 → jg E m_X11_lay (d + 3) 12 [some (jm_R 133), some (jm_I t)] [] ξ Q := by
      intro m
      induction m with
      | zero =>
        intro t ξ h1 h2 hr hb hq h3
        have e60 : ξ 135 60 = n := (mTl_of hq hT).2.1
        refine r_X11_lay_12 (d := d + 3) ⟨fun z => ?_, fun z => absurd z (by omega)⟩
        have : t = n := by omega
        subst this
        exact h ξ hr hb hq h3
      | succ m ih =>
        intro t ξ h1 h2 hr hb hq h3
        have hT' := mTl_of hq hT
        have e60 : ξ 135 60 = n := hT'.2.1
        refine r_X11_lay_12 (d := d + 3) ⟨fun z => ?_, fun z => ?_⟩
        · have : t = n := by omega
          subst this
          exact h ξ hr hb hq h3
        · have ht : t < n := by omega
          have hv := hV t ht
          have hG := sLay_good hW t (by omega) (fun s hs => hV s (by omega))
          have ht0 := sLay_n (ρ := ρ) (w := w) t
          have e1 : jm_wr (61 + jm_wr (2 * (t : Int))) = 61 + 2 * t := by rw [jm_wr_id (a := 2 * (t : Int)) (by omega) (by omega), jm_wr_id (by omega) (by omega)]
          have e2 : jm_wr (61 + 2 * (t : Int) + 1) = 61 + (2 * t + 1) := by rw [jm_wr_id (by omega) (by omega)]; omega
          rw [e1, e2, hT'.2.2 (2 * t) (by omega) (by omega), hT'.2.2 (2 * t + 1) (by omega) (by omega)]
          refine ⟨by omega, by omega, c_M_push (by decide) hW hr hb (by omega) (by omega) (fun a a0 a1 => ?_) ⟨hG.2.2.1, by have := hG.2.2.2.1; omega⟩ hv.1.1 hv.1.2 hv.2.1.1 hv.2.1.2 (fun ξ' hb' hf' _ => ?_)⟩
          · have := (hG.2.2.2.2 a a0 a1).2.2.2.2.1
            omega
          · rw [jm_wr_id (by omega) (by omega)]
            exact ih (t + 1) ξ' (by omega) (by omega) (mRu_of hf' hr) hb' (hq.trans (mQ_of hf')) ((hf'.1 133 (by decide)).trans h3)
    exact key n 0 ν (by omega) (by omega) hr hb hq0 h133
end ML
