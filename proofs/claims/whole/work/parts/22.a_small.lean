/-! small answers of the reference -/
section MS
variable {E : jm_E} {d : Nat} {μ : jm_M} {Q : Option jm_V → jm_M → Prop} {ρ : sR}
theorem c_M_rank {w : Int} (hW : sWR ρ) (hρ : ∀ i, 0 ≤ i → i < 60 → μ 135 i = ρ i) (h : Q (some (jm_I (if 0 ≤ w ∧ w < ρ 0 then ρ (12 + w) else -1))) (jm_up μ 133 0 0)) : jc E m_X11_rank (d + 2) [jm_R 133, jm_I w] μ Q := by
  have e0 : ∀ i, jm_up μ 133 0 0 135 i = μ 135 i := fun i => jm_up_lj (by decide)
  have hP := hW.2.1
  refine e_X11_rank (d := d + 1) (fun _ => c_M_isWho (fun a0 a1 => jq_Z (jb_f (by decide) ?_)) (fun a => jq_Z (jb_t rfl ?_)))
  · rw [e0, hρ 0 (by decide) (by decide)] at a1
    rw [jm_wr_id (by omega) (by omega), e0, hρ _ (by omega) (by omega)]
    rw [if_pos ⟨a0, a1⟩] at h
    exact ⟨⟨by omega, by omega⟩, h⟩
  · rw [e0, hρ 0 (by decide) (by decide)] at a
    rw [if_neg a] at h
    exact h
theorem c_M_kind {k x : Int} (hW : sWR ρ) (hρ : ∀ i, 0 ≤ i → i < 60 → μ 135 i = ρ i) (h1 : ¬ ((0 ≤ k ∧ k < ρ 1) ∧ 0 ≤ x ∧ x ≤ 3) → Q (some (jm_I 0)) (jm_up μ 133 0 1)) (h2 : 0 ≤ k → k < ρ 1 → 0 ≤ x → x ≤ 3 → Q (some (jm_I (ρ (20 + 4 * k + x)))) (jm_up μ 133 0 0)) : jc E m_X11_kind (d + 2) [jm_R 133, jm_I k, jm_I x] μ Q := by
  have hK := hW.2.2.2.1
  refine e_X11_kind (d := d + 1) (fun _ => c_M_isKind (fun a0 a1 => jq_Z (jb_f (by decide) (c_M_isIn (fun b0 b1 => jq_Z (jb_t (by decide) ?_)) (fun b => jq_Z (jb_f (by decide) (c_M_refuse (jq_I (h1 (fun q => b q.2))))))))) (fun a => jq_Z (jb_t rfl (c_M_refuse (jq_I (h1 (fun q => a ?_)))))))
  · rw [hρ 1 (by decide) (by decide)] at a1
    rw [jm_wr_id (a := 4 * k) (by omega) (by omega), jm_wr_id (a := 20 + 4 * k) (by omega) (by omega), jm_wr_id (by omega) (by omega), hρ _ (by omega) (by omega)]
    exact ⟨⟨by omega, by omega⟩, h2 a0 a1 b0 b1⟩
  · rw [hρ 1 (by decide) (by decide)]
    exact q.1
theorem c_M_fault (h : Q (some (jm_I (μ 133 10))) (jm_up μ 133 0 0)) : jc E m_X11_fault (d + 1) [jm_R 133] μ Q := e_X11_fault (fun _ => h)
theorem c_M_why (h : Q (some (jm_I (μ 133 31))) (jm_up μ 133 0 0)) : jc E m_X11_why (d + 1) [jm_R 133] μ Q := e_X11_why (fun _ => h)
theorem c_M_thrown (h : Q (some (jm_I (μ 133 0))) μ) : jc E m_X11_thrown (d + 1) [jm_R 133] μ Q := e_X11_thrown (fun _ => h)
/-- counts: of the table, of words, of minutes, of bytes -/
def sCo (ρ : sR) (n mn len x : Int) : Int :=
  if x = 0 then ρ 0 else if x = 1 then ρ 1 else if x = 2 then ρ 2 else if x = 3 then (if ρ 3 = 0 then 1 else ρ 3) else if x = 4 then ρ 4 else if x = 5 then ρ 5
  else if x = 6 then n else if x = 7 then mn else if x = 8 then len else -1
theorem c_M_count {x n mn len : Int} (hρ : ∀ i, 0 ≤ i → i < 60 → μ 135 i = ρ i) (e1 : μ 135 60 = n) (e2 : μ 135 861 = mn) (e3 : μ 133 2 = len) (h : Q (some (jm_I (sCo ρ n mn len x))) (jm_up μ 133 0 0)) : jc E m_X11_count (d + 1) [jm_R 133, jm_I x] μ Q := by
  unfold sCo at h
  refine e_X11_count (d := d) (fun _ => ?_)
  rw [hρ 0 (by decide) (by decide), hρ 1 (by decide) (by decide), hρ 2 (by decide) (by decide), hρ 3 (by decide) (by decide), hρ 4 (by decide) (by decide), hρ 5 (by decide) (by decide), e1, e2, e3]
  refine ⟨fun z => ?_, fun z0 => ⟨fun z => ?_, fun z1 => ⟨fun z => ?_, fun z2 => ⟨fun z => ⟨fun y => ?_, fun y => ?_⟩, fun z3 => ⟨fun z => ?_, fun z4 => ⟨fun z => ?_, fun z5 => ⟨fun z => ?_, fun z6 => ⟨fun z => ?_, fun z7 => ⟨fun z => ?_, fun z8 => ?_⟩⟩⟩⟩⟩⟩⟩⟩⟩
  · rw [if_pos z] at h; exact h
  · rw [if_neg z0, if_pos z] at h; exact h
  · rw [if_neg z0, if_neg z1, if_pos z] at h; exact h
  · rw [if_neg z0, if_neg z1, if_neg z2, if_pos z, if_neg y] at h; exact h
  · rw [if_neg z0, if_neg z1, if_neg z2, if_pos z, if_pos (Decidable.not_not.mp y)] at h; exact h
  · rw [if_neg z0, if_neg z1, if_neg z2, if_neg z3, if_pos z] at h; exact h
  · rw [if_neg z0, if_neg z1, if_neg z2, if_neg z3, if_neg z4, if_pos z] at h; exact h
  · rw [if_neg z0, if_neg z1, if_neg z2, if_neg z3, if_neg z4, if_neg z5, if_pos z] at h; exact h
  · rw [if_neg z0, if_neg z1, if_neg z2, if_neg z3, if_neg z4, if_neg z5, if_neg z6, if_pos z] at h; exact h
  · rw [if_neg z0, if_neg z1, if_neg z2, if_neg z3, if_neg z4, if_neg z5, if_neg z6, if_neg z7, if_pos z] at h; exact h
  · rw [if_neg z0, if_neg z1, if_neg z2, if_neg z3, if_neg z4, if_neg z5, if_neg z6, if_neg z7, if_neg z8] at h; exact h
/-- the tape: bytes and how many -/
def sBt (x k : Int) : Int := jm_and (jm_ushr x k) 255
/-- four bytes more -/
def sCm (τ : Int → Int) (n x : Int) : Int → Int := sUp (sUp (sUp (sUp τ n (sBt x 24)) (n + 1) (sBt x 16)) (n + 2) (sBt x 8)) (n + 3) (sBt x 0)
def mTp (μ : jm_M) (τ : Int → Int) (n : Int) : Prop := μ 133 2 = n ∧ ∀ i, 0 ≤ i → i < n → μ 134 i = τ i
theorem mTp_up {ξ : jm_M} {τ : Int → Int} {n v : Int} (h : mTp ξ τ n) : mTp (jm_up (jm_up ξ 134 n v) 133 2 (n + 1)) (sUp τ n v) (n + 1) := by
  refine ⟨jm_up_at, fun i i0 i1 => ?_⟩
  rw [jm_up_lj (by decide)]
  unfold sUp
  by_cases hi : i = n
  · rw [if_pos hi, hi, jm_up_at]
  · rw [if_neg hi, jm_up_i hi]
    exact h.2 i i0 (by omega)
theorem c_M_come {x n : Int} {τ : Int → Int} (hT : mTp μ τ n) (n0 : 0 ≤ n) (n1 : n ≤ 936) (h : ∀ ν, (∀ p, p ≠ 133 → p ≠ 134 → ν p = μ p) → (∀ i, i ≠ 2 → ν 133 i = μ 133 i) → mTp ν (sCm τ n x) (n + 4) → Q none ν) : jc E m_X11_come (d + 1) [jm_R 133, jm_I x] μ Q := by
  refine e_X11_come (d := d) (fun _ => ?_)
  have step : ∀ (k m : Int) (τ' : Int → Int) (ξ : jm_M), 0 ≤ k → k ≤ 24 → mTp ξ τ' m → 0 ≤ m → m < 940 → jg E m_X11_come d 3 [some (jm_R 133), some (jm_I x), some (jm_I (k - 8))] [] (jm_up (jm_up ξ 134 m (sBt x k)) 133 2 (m + 1)) Q → jg E m_X11_come d 3 [some (jm_R 133), some (jm_I x), some (jm_I k)] [] ξ Q := by
    intro k m τ' ξ g1 g2 g3 g4 g5 g6
    refine r_X11_come_3 (d := d) ⟨fun z => absurd z (by omega), fun _ => ?_⟩
    rw [g3.1]
    refine ⟨⟨g4, g5⟩, fun m3 h3 => ?_⟩
    have e2 : m3 133 2 = m := by rw [h3, jm_up_lj (by decide)]; exact g3.1
    rw [e2, jm_wr_id (a := m + 1) (by omega) (by omega), jm_wr_id (by omega) (by omega), h3]
    exact g6
  have t1 := mTp_up (v := sBt x 24) hT
  have t2 := mTp_up (v := sBt x 16) t1
  have t3 := mTp_up (v := sBt x 8) t2
  have t4 := mTp_up (v := sBt x 0) t3
  refine step 24 n τ μ (by decide) (by decide) hT n0 (by omega) (step 16 (n + 1) _ _ (by decide) (by decide) t1 (by omega) (by omega) (step 8 (n + 1 + 1) _ _ (by decide) (by decide) t2 (by omega) (by omega) (step 0 (n + 1 + 1 + 1) _ _ (by decide) (by decide) t3 (by omega) (by omega) ?_)))
  refine r_X11_come_3 (d := d) ⟨fun _ => h _ (fun p p1 p2 => ?_) (fun i hi => ?_) ?_, fun z => absurd (by decide) z⟩
  · simp only [jm_up_ne p1, jm_up_ne p2]
  · rw [jm_up_i hi, jm_up_lj (by decide), jm_up_i hi, jm_up_lj (by decide), jm_up_i hi, jm_up_lj (by decide), jm_up_i hi, jm_up_lj (by decide)]
  · rw [show n + 1 + 1 + 1 + 1 = n + 4 by omega] at t4
    have e : sCm τ n x = sUp (sUp (sUp (sUp τ n (sBt x 24)) (n + 1) (sBt x 16)) (n + 1 + 1) (sBt x 8)) (n + 1 + 1 + 1) (sBt x 0) := by
      unfold sCm
      rw [show n + 1 + 1 = n + 2 by omega, show n + 2 + 1 = n + 3 by omega]
    rw [e]
    rw [show n + 1 + 1 + 1 + 1 = n + 4 by omega]
    exact t4
def sFeed (τ : Int → Int) (n a b c f g : Int) : Int → Int := sCm (sCm (sCm (sCm (sCm τ n a) (n + 4) b) (n + 8) c) (n + 12) f) (n + 16) g
theorem c_M_feed {a b c f g n : Int} {τ : Int → Int} (hT : mTp μ τ n) (n0 : 0 ≤ n) (n1 : n ≤ 940) (h1 : 920 < n → ∀ ν, mQ μ ν → Q (some (jm_I (-1))) ν)
    (h2 : n ≤ 920 → ∀ ν : jm_M, (∀ p, p ≠ 133 → p ≠ 134 → ν p = μ p) → (∀ i, i ≠ 0 → i ≠ 2 → ν 133 i = μ 133 i) → mTp ν (sFeed τ n a b c f g) (n + 20) → Q (some (jm_I (n + 20))) ν) : jc E m_X11_feed (d + 2) [jm_R 133, jm_I a, jm_I b, jm_I c, jm_I f, jm_I g] μ Q := by
  refine e_X11_feed (d := d + 1) (fun _ => ?_)
  rw [hT.1, jm_wr_id (by omega) (by omega)]
  refine ⟨fun z => ?_, fun z => h1 (by omega) _ mQ_0⟩
  have h2' := h2 (by omega)
  have hT0 : mTp (jm_up μ 133 0 0) τ n := ⟨by rw [jm_up_i (by decide)]; exact hT.1, fun i i0 i1 => by rw [jm_up_ne (by decide)]; exact hT.2 i i0 i1⟩
  refine c_M_come hT0 n0 (by omega) (fun m2 a1 a2 a3 _ => c_M_come a3 (by omega) (by omega) (fun m3 b1 b2 b3 _ => c_M_come b3 (by omega) (by omega) (fun m4 c1 c2 c3 _ => c_M_come c3 (by omega) (by omega) (fun m5 d1 d2 d3 _ => c_M_come d3 (by omega) (by omega) (fun m6 e1 e2 e3 _ => ?_)))))
  rw [show n + 4 + 4 = n + 8 by omega, show n + 8 + 4 = n + 12 by omega, show n + 12 + 4 = n + 16 by omega, show n + 16 + 4 = n + 20 by omega] at e3
  rw [e3.1]
  refine h2' m6 (fun p p1 p2 => ?_) (fun i i0 i2 => ?_) e3
  · rw [e1 p p1 p2, d1 p p1 p2, c1 p p1 p2, b1 p p1 p2, a1 p p1 p2, jm_up_ne p1]
  · rw [e2 i i2, d2 i i2, c2 i i2, b2 i i2, a2 i i2, jm_up_i i0]
theorem c_M_end {k n : Int} {τ : Int → Int} (hT : mTp μ τ n) (h1 : ¬ (0 ≤ k ∧ k ≤ n) → ∀ ν, mQ μ ν → Q (some (jm_I 0)) ν)
    (h2 : 0 ≤ k → k ≤ n → ∀ ν : jm_M, (∀ p, p ≠ 133 → ν p = μ p) → (∀ i, i ≠ 0 → i ≠ 2 → ν 133 i = μ 133 i) → mTp ν τ k → Q (some (jm_I 1)) ν) : jc E m_X11_end (d + 1) [jm_R 133, jm_I k] μ Q := by
  refine e_X11_end (d := d) (fun _ => ⟨fun z => h1 (fun q => by omega) _ mQ_0, fun z => ?_⟩)
  rw [hT.1]
  refine ⟨fun z2 => h2 (by omega) z2 _ (fun p p1 => by rw [jm_up_ne p1, jm_up_ne p1]) (fun i i0 i2 => by rw [jm_up_i i2, jm_up_i i0]) ⟨jm_up_at, fun i i0 i1 => by rw [jm_up_ne (by decide), jm_up_ne (by decide)]; exact hT.2 i i0 (by omega)⟩, fun z2 => h1 (fun q => z2 q.2) _ mQ_0⟩
end MS
