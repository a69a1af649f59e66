section MB3
variable {E : jm_E} {d : Nat} {μ : jm_M} {Q : Option jm_V → jm_M → Prop} {ρ : sR} {e : Int} {b : sB}
theorem s_six {P : Int → Prop} {f : Int} (h0 : 0 ≤ f) (h1 : f ≤ 5) (p0 : P 0) (p1 : P 1) (p2 : P 2) (p3 : P 3) (p4 : P 4) (p5 : P 5) : P f := by
  rcases (show f = 0 ∨ f = 1 ∨ f = 2 ∨ f = 3 ∨ f = 4 ∨ f = 5 by omega) with rfl | rfl | rfl | rfl | rfl | rfl <;> assumption
/-- the memory behind a push, by its four ways -/
theorem m_pushB {who k s0 n h x : Int} (hb : mBd μ e b) (he : 0 ≤ e ∧ e < 2) (hn : n = b.2.1) (hh : h = b.2.2) (n0 : 0 ≤ n) (n1 : n < 400) (hx : x = 400 * e + n) (ha : sAns ρ n who k = -1) (hs : s0 = sS0 (sDo ρ k)) :
    mBd (jm_up (jm_up (jm_up (jm_up (jm_up (jm_up (jm_up (jm_up μ 144 x who) 145 x k) 146 x (-1)) 149 x s0) 147 x h) 151 e (h + 1)) 148 x 0) 150 e (n + 1)) e (sPush ρ b who k) ∧ mFr e μ (jm_up (jm_up (jm_up (jm_up (jm_up (jm_up (jm_up (jm_up μ 144 x who) 145 x k) 146 x (-1)) 149 x s0) 147 x h) 151 e (h + 1)) 148 x 0) 150 e (n + 1)) := by
  subst hn hh hx hs
  refine ⟨⟨?_, ?_, ?_⟩, fun p hp => ?_, fun e' b' a1 a2 a3 a4 hb' => ⟨?_, ?_, ?_⟩⟩
  · simp [jm_up, sPush]
  · simp [jm_up, sPush, ha]
  · intro f t f0 f1 t0 t1
    have t2 : t < b.2.1 + 1 := t1
    by_cases ht : t = b.2.1
    · subst ht
      rcases (show f = 0 ∨ f = 1 ∨ f = 2 ∨ f = 3 ∨ f = 4 ∨ f = 5 by omega) with rfl | rfl | rfl | rfl | rfl | rfl <;> simp [jm_up, sPush, sUp2, ha]
    · have h3 := hb.2.2 f t f0 f1 t0 (by omega)
      have hz : ¬ (400 * e + t = 400 * e + b.2.1) := by omega
      rcases (show f = 0 ∨ f = 1 ∨ f = 2 ∨ f = 3 ∨ f = 4 ∨ f = 5 by omega) with rfl | rfl | rfl | rfl | rfl | rfl <;> simp [jm_up, sPush, sUp2, ha, ht, hz] at h3 ⊢ <;> exact h3
  · funext j
    have q0 : p ≠ 144 ∧ p ≠ 145 ∧ p ≠ 146 ∧ p ≠ 147 ∧ p ≠ 148 ∧ p ≠ 149 ∧ p ≠ 150 ∧ p ≠ 151 := by omega
    simp [jm_up, q0]
  · have := hb'.1
    simp [jm_up, a3]
    exact this
  · have := hb'.2.1
    simp [jm_up, a3]
    exact this
  · intro f t f0 f1 t0 t1
    have h3 := hb'.2.2 f t f0 f1 t0 t1
    have hz : ¬ (400 * e' + t = 400 * e + b.2.1) := by omega
    rcases (show f = 0 ∨ f = 1 ∨ f = 2 ∨ f = 3 ∨ f = 4 ∨ f = 5 by omega) with rfl | rfl | rfl | rfl | rfl | rfl <;> simp [jm_up, hz] at h3 ⊢ <;> exact h3
theorem m_pushA {who k s0 n x a thr dep : Int} (hb : mBd μ e b) (he : 0 ≤ e ∧ e < 2) (hn : n = b.2.1) (n0 : 0 ≤ n) (n1 : n < 400) (hx : x = 400 * e + n) (ha : sAns ρ n who k = a) (a0 : 0 ≤ a) (hd : sDo ρ k ≤ 1) (hs : s0 = sS0 (sDo ρ k)) (ht : thr = b.1 3 a) (hdp : dep = b.1 4 a + 1) :
    mBd (jm_up (jm_up (jm_up (jm_up (jm_up (jm_up (jm_up μ 144 x who) 145 x k) 146 x a) 149 x s0) 147 x thr) 148 x dep) 150 e (n + 1)) e (sPush ρ b who k) ∧ mFr e μ (jm_up (jm_up (jm_up (jm_up (jm_up (jm_up (jm_up μ 144 x who) 145 x k) 146 x a) 149 x s0) 147 x thr) 148 x dep) 150 e (n + 1)) := by
  subst hn hx hs ht hdp
  have hd2 : ¬ (1 < sDo ρ k) := by omega
  have ha1 : ¬ (a = -1) := by omega
  refine ⟨⟨?_, ?_, ?_⟩, fun p hp => ?_, fun e' b' a1 a2 a3 a4 hb' => ⟨?_, ?_, ?_⟩⟩
  · simp [jm_up, sPush]
  · have := hb.2.1
    simp [jm_up, sPush, ha, ha1]
    exact this
  · intro f t f0 f1 t0 t1
    have t2 : t < b.2.1 + 1 := t1
    by_cases ht : t = b.2.1
    · subst ht
      rcases (show f = 0 ∨ f = 1 ∨ f = 2 ∨ f = 3 ∨ f = 4 ∨ f = 5 by omega) with rfl | rfl | rfl | rfl | rfl | rfl <;> simp [jm_up, sPush, sUp2, ha, ha1, hd2]
    · have h3 := hb.2.2 f t f0 f1 t0 (by omega)
      have hz : ¬ (400 * e + t = 400 * e + b.2.1) := by omega
      rcases (show f = 0 ∨ f = 1 ∨ f = 2 ∨ f = 3 ∨ f = 4 ∨ f = 5 by omega) with rfl | rfl | rfl | rfl | rfl | rfl <;> simp [jm_up, sPush, sUp2, ha, ha1, hd2, ht, hz] at h3 ⊢ <;> exact h3
  · funext j
    have q0 : p ≠ 144 ∧ p ≠ 145 ∧ p ≠ 146 ∧ p ≠ 147 ∧ p ≠ 148 ∧ p ≠ 149 ∧ p ≠ 150 ∧ p ≠ 151 := by omega
    simp [jm_up, q0]
  · have := hb'.1
    simp [jm_up, a3]
    exact this
  · have := hb'.2.1
    simp [jm_up]
    exact this
  · intro f t f0 f1 t0 t1
    have h3 := hb'.2.2 f t f0 f1 t0 t1
    have hz : ¬ (400 * e' + t = 400 * e + b.2.1) := by omega
    rcases (show f = 0 ∨ f = 1 ∨ f = 2 ∨ f = 3 ∨ f = 4 ∨ f = 5 by omega) with rfl | rfl | rfl | rfl | rfl | rfl <;> simp [jm_up, hz] at h3 ⊢ <;> exact h3
theorem m_pushS {who k s0 s1 n x y a thr dep : Int} (hb : mBd μ e b) (he : 0 ≤ e ∧ e < 2) (hn : n = b.2.1) (n0 : 0 ≤ n) (n1 : n < 400) (hx : x = 400 * e + n) (ha : sAns ρ n who k = a) (a0 : 0 ≤ a) (al : a < n) (hd : 1 < sDo ρ k) (hs : s0 = sS0 (sDo ρ k)) (ht : thr = b.1 3 a) (hdp : dep = b.1 4 a + 1) (hy : y = 400 * e + a) (hs1 : s1 = sS1 (sDo ρ k)) :
    mBd (jm_up (jm_up (jm_up (jm_up (jm_up (jm_up (jm_up (jm_up μ 144 x who) 145 x k) 146 x a) 149 x s0) 147 x thr) 148 x dep) 149 y s1) 150 e (n + 1)) e (sPush ρ b who k) ∧ mFr e μ (jm_up (jm_up (jm_up (jm_up (jm_up (jm_up (jm_up (jm_up μ 144 x who) 145 x k) 146 x a) 149 x s0) 147 x thr) 148 x dep) 149 y s1) 150 e (n + 1)) := by
  subst hn hx hs ht hdp hy hs1
  have ha1 : ¬ (a = -1) := by omega
  refine ⟨⟨?_, ?_, ?_⟩, fun p hp => ?_, fun e' b' a1 a2 a3 a4 hb' => ⟨?_, ?_, ?_⟩⟩
  · simp [jm_up, sPush]
  · have := hb.2.1
    simp [jm_up, sPush, ha, ha1]
    exact this
  · intro f t f0 f1 t0 t1
    have t2 : t < b.2.1 + 1 := t1
    by_cases ht : t = b.2.1
    · subst ht
      have hz2 : ¬ (400 * e + b.2.1 = 400 * e + a) := by omega
      have hz3 : ¬ (b.2.1 = a) := by omega
      rcases (show f = 0 ∨ f = 1 ∨ f = 2 ∨ f = 3 ∨ f = 4 ∨ f = 5 by omega) with rfl | rfl | rfl | rfl | rfl | rfl <;> simp [jm_up, sPush, sUp2, ha, ha1, hd, hz2, hz3]
    · have h3 := hb.2.2 f t f0 f1 t0 (by omega)
      have hz : ¬ (400 * e + t = 400 * e + b.2.1) := by omega
      by_cases hta : t = a
      · subst hta
        rcases (show f = 0 ∨ f = 1 ∨ f = 2 ∨ f = 3 ∨ f = 4 ∨ f = 5 by omega) with rfl | rfl | rfl | rfl | rfl | rfl <;> simp [jm_up, sPush, sUp2, ha, ha1, hd, ht, hz] at h3 ⊢ <;> exact h3
      · have hz2 : ¬ (400 * e + t = 400 * e + a) := by omega
        rcases (show f = 0 ∨ f = 1 ∨ f = 2 ∨ f = 3 ∨ f = 4 ∨ f = 5 by omega) with rfl | rfl | rfl | rfl | rfl | rfl <;> simp [jm_up, sPush, sUp2, ha, ha1, hd, ht, hz, hz2, hta] at h3 ⊢ <;> exact h3
  · funext j
    have q0 : p ≠ 144 ∧ p ≠ 145 ∧ p ≠ 146 ∧ p ≠ 147 ∧ p ≠ 148 ∧ p ≠ 149 ∧ p ≠ 150 ∧ p ≠ 151 := by omega
    simp [jm_up, q0]
  · have := hb'.1
    simp [jm_up, a3]
    exact this
  · have := hb'.2.1
    simp [jm_up]
    exact this
  · intro f t f0 f1 t0 t1
    have h3 := hb'.2.2 f t f0 f1 t0 t1
    have hz : ¬ (400 * e' + t = 400 * e + b.2.1) := by omega
    have hz2 : ¬ (400 * e' + t = 400 * e + a) := by omega
    rcases (show f = 0 ∨ f = 1 ∨ f = 2 ∨ f = 3 ∨ f = 4 ∨ f = 5 by omega) with rfl | rfl | rfl | rfl | rfl | rfl <;> simp [jm_up, hz, hz2] at h3 ⊢ <;> exact h3
end MB3
