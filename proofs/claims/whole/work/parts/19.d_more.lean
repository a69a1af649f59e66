def sProm (ρ : sR) (b : sB) (x y st t : Int) : Bool := decide (sDo ρ (b.1 1 t) = 2 ∧ b.1 0 t = x ∧ b.1 0 (b.1 2 t) = y ∧ (st = 0 ∨ sSt ρ b t = st))
def sSpk (b : sB) (who k t : Int) : Bool := decide ((who = -1 ∨ b.1 0 t = who) ∧ (k = -1 ∨ b.1 1 t = k))
section MP
variable {E : jm_E} {d : Nat} {μ : jm_M} {Q : Option jm_V → jm_M → Prop} {ρ : sR} {w : Int → Int} {n : Nat}
/-- a loop that counts -/
theorem m_cnt {m : jm_Y} {pc D : Nat} {F : Int → Int → List (Option jm_V)} {p : Int → Bool} {v : Int} {N : Nat}
    (hend : ∀ c : Int, 0 ≤ c → c ≤ N → c = v → jg E m D pc (F c N) [] μ Q)
    (hstep : ∀ t c : Int, 0 ≤ t → t < N → 0 ≤ c → c ≤ t → (p t = true → jg E m D pc (F (c + 1) (t + 1)) [] μ Q → jg E m D pc (F c t) [] μ Q) ∧ (p t = false → jg E m D pc (F c (t + 1)) [] μ Q → jg E m D pc (F c t) [] μ Q)) :
    ∀ (r : Nat) (t c : Int), N - t = r → 0 ≤ t → 0 ≤ c → c ≤ t → sCnt p r t c = v → jg E m D pc (F c t) [] μ Q
  | 0, t, c, h1, h2, h3, h4, h5 => by
    have : t = N := by omega
    subst this
    exact hend c h3 h4 h5
  | r + 1, t, c, h1, h2, h3, h4, h5 => by
    have hs := hstep t c h2 (by omega) h3 h4
    unfold sCnt at h5
    cases hp : p t
    · rw [hp] at h5
      exact hs.2 hp (m_cnt hend hstep r (t + 1) c (by omega) (by omega) h3 (by omega) h5)
    · rw [hp, if_pos rfl] at h5
      exact hs.1 hp (m_cnt hend hstep r (t + 1) (c + 1) (by omega) (by omega) (by omega) (by omega) h5)
theorem c_M_promised {x y st : Int} (h0 : mOK μ ρ w n) (h : ∀ ν, mQ μ ν → Q (some (jm_I (if (0 ≤ x ∧ x < ρ 0) ∧ (0 ≤ y ∧ y < ρ 0) ∧ (st = 0 ∨ 4 ≤ st ∧ st ≤ 8) then sCnt (sProm ρ (sLay ρ w n) x y st) n 0 0 else -1))) ν) : jc E m_X11_promised (d + 5) [jm_R 133, jm_I x, jm_I y, jm_I st] μ Q := by
  have hm := mOK_of (mQ_0 (v := 0)) h0
  have no : ¬ ((0 ≤ x ∧ x < ρ 0) ∧ (0 ≤ y ∧ y < ρ 0) ∧ (st = 0 ∨ 4 ≤ st ∧ st ≤ 8)) → Q (some (jm_I (-1))) (jm_up μ 133 0 0) := fun z => by
    have g := h _ (mQ_0 (v := 0))
    rw [if_neg z] at g
    exact g
  have hn := h0.2.2.1
  have hl := sLay_n (ρ := ρ) (w := w) n
  have go : (0 ≤ x ∧ x < ρ 0) → (0 ≤ y ∧ y < ρ 0) → (st = 0 ∨ 4 ≤ st ∧ st ≤ 8) → ∀ ν, mRu ν 0 ρ → mBd ν 0 (sLay ρ w n) → mQ (jm_up μ 133 0 0) ν → jg E m_X11_promised (d + 4) 47 [some (jm_R 133), some (jm_I x), some (jm_I y), some (jm_I st), some (jm_I 0), some (jm_I 0)] [] ν Q := by
    intro hx hy hst ν hr hb hq
    have g := h ν (mQ_0.trans hq)
    rw [if_pos ⟨hx, hy, hst⟩] at g
    refine m_cnt (F := fun c t => [some (jm_R 133), some (jm_I x), some (jm_I y), some (jm_I st), some (jm_I c), some (jm_I t)]) (p := sProm ρ (sLay ρ w n) x y st) (v := sCnt (sProm ρ (sLay ρ w n) x y st) n 0 0) (N := n) (fun c c0 c1 hv => ?_) (fun t c t0 t1 c0 c1 => ?_) n 0 0 (by omega) (by decide) (by decide) (by decide) rfl
    · refine r_X11_promised_47 (d := d + 4) ⟨fun _ => ?_, fun y => absurd (show ν 150 0 ≤ (n : Int) by rw [hb.1, hl]; omega) y⟩
      rw [← hv] at g; exact g
    · have hG := h0.good
      have t2 : t < (sLay ρ w n).2.1 := by omega
      have hGt := hG.2.2.2.2 t t0 t2
      have s : ∀ f t, 0 ≤ f → f ≤ 5 → 0 ≤ t → t < (sLay ρ w n).2.1 → ν (144 + f) t = (sLay ρ w n).1 f t := fun f t f0 f1 t0 t2 => by
        have := hb.2.2 f t f0 f1 t0 t2
        rwa [show 400 * 0 + t = t by omega] at this
      have s0 : ν 144 t = _ := s 0 t (by decide) (by decide) t0 t2
      have s2 : ν 146 t = _ := s 2 t (by decide) (by decide) t0 t2
      have mk : ∀ nx : sProm ρ (sLay ρ w n) x y st t = false → jg E m_X11_promised (d + 4) 47 [some (jm_R 133), some (jm_I x), some (jm_I y), some (jm_I st), some (jm_I c), some (jm_I (t + 1))] [] ν Q, ∀ ny : sProm ρ (sLay ρ w n) x y st t = true → jg E m_X11_promised (d + 4) 47 [some (jm_R 133), some (jm_I x), some (jm_I y), some (jm_I st), some (jm_I (c + 1)), some (jm_I (t + 1))] [] ν Q, jg E m_X11_promised (d + 4) 47 [some (jm_R 133), some (jm_I x), some (jm_I y), some (jm_I st), some (jm_I c), some (jm_I t)] [] ν Q := fun nx ny => by
        have nof : ¬ (sDo ρ ((sLay ρ w n).1 1 t) = 2 ∧ (sLay ρ w n).1 0 t = x ∧ (sLay ρ w n).1 0 ((sLay ρ w n).1 2 t) = y ∧ (st = 0 ∨ sSt ρ (sLay ρ w n) t = st)) → jg E m_X11_promised (d + 4) 47 [some (jm_R 133), some (jm_I x), some (jm_I y), some (jm_I st), some (jm_I c), some (jm_I (t + 1))] [] ν Q := fun z => nx (decide_eq_false z)
        refine r_X11_promised_47 (d := d + 4) ⟨fun q => absurd (show ν 150 0 ≤ t from q) (by rw [hb.1, hl]; omega), fun _ => c_M_isPromise h0.1 hr hb hG t0 t2 (fun q => jq_Z (jb_f (by decide) ⟨by omega, ?_⟩)) (fun q => jq_Z (jb_t (by decide) ?_))⟩
        · have a0 := (hGt.2.2.2.2.2.2.1 q).2.2
          have s02 : ν 144 ((sLay ρ w n).1 2 t) = _ := s 0 _ (by decide) (by decide) a0 (by omega)
          rw [s0, s2, jm_wr_id (a := t + 1) (by omega) (by omega), jm_wr_id (a := c + 1) (by omega) (by omega)]
          refine ⟨fun q2 => nof (fun z => q2 z.2.1), fun q2 => ⟨by omega, ?_⟩⟩
          rw [s02]
          refine ⟨fun q3 => nof (fun z => q3 z.2.2.1), fun q3 => ⟨fun q4 => ny (decide_eq_true ⟨q, by omega, by omega, Or.inl q4⟩), fun q4 => c_M_stateOf (by decide) h0.1 hr hb hG t0 t2 (jq_I ⟨fun q5 => nof (fun z => by rcases z.2.2.2 with z | z; exact q4 z; exact q5 z), fun q5 => ny (decide_eq_true ⟨q, by omega, by omega, Or.inr (by omega)⟩)⟩)⟩⟩
        · rw [jm_wr_id (a := t + 1) (by omega) (by omega)]
          exact nof (fun z => q z.1)
      exact ⟨fun p1 p2 => mk (fun q => by rw [p1] at q; cases q) (fun _ => p2), fun p1 p2 => mk (fun _ => p2) (fun q => by rw [p1] at q; cases q)⟩
  refine e_X11_promised (d := d + 4) (fun _ => c_M_isWho (fun a0 a1 => jq_Z (jb_f (by decide) ?_)) (fun a => jq_Z (jb_t (by decide) (no (fun z => a (by rw [hm.p0]; exact z.1))))))
  rw [hm.p0] at a1
  refine c_M_isWho (fun b0 b1 => jq_Z (jb_f (by decide) ?_)) (fun a => jq_Z (jb_t (by decide) (no (fun z => a (by rw [hm.p0]; exact z.2.1)))))
  rw [hm.p0] at b1
  refine ⟨fun z => hm.lay (fun ν hr hb hq _ _ => go ⟨a0, a1⟩ ⟨b0, b1⟩ (Or.inl z) ν hr hb hq), fun z => c_M_isIn (fun c0 c1 => jq_Z (jb_t (by decide) (hm.lay (fun ν hr hb hq _ _ => go ⟨a0, a1⟩ ⟨b0, b1⟩ (Or.inr ⟨c0, c1⟩) ν hr hb hq)))) (fun a => jq_Z (jb_f (by decide) (no (fun y => by rcases y.2.2 with y | y; exact z y; exact a y))))⟩
theorem c_M_spoke {who k : Int} (h0 : mOK μ ρ w n) (h : ∀ ν, mQ μ ν → Q (some (jm_I (if (who = -1 ∨ 0 ≤ who ∧ who < ρ 0) ∧ (k = -1 ∨ 0 ≤ k ∧ k < ρ 1) then sCnt (sSpk (sLay ρ w n) who k) n 0 0 else -1))) ν) : jc E m_X11_spoke (d + 5) [jm_R 133, jm_I who, jm_I k] μ Q := by
  have hm := mOK_of (mQ_0 (v := 0)) h0
  have hn := h0.2.2.1
  have g := h _ (mQ_0 (v := 0))
  have go : (who = -1 ∨ 0 ≤ who ∧ who < ρ 0) → (k = -1 ∨ 0 ≤ k ∧ k < ρ 1) → jg E m_X11_spoke (d + 4) 38 [some (jm_R 133), some (jm_I who), some (jm_I k), some (jm_I 0), some (jm_I 0)] [] (jm_up μ 133 0 0) Q := by
    intro hx hk
    rw [if_pos ⟨hx, hk⟩] at g
    refine m_cnt (F := fun c t => [some (jm_R 133), some (jm_I who), some (jm_I k), some (jm_I c), some (jm_I t)]) (p := sSpk (sLay ρ w n) who k) (v := sCnt (sSpk (sLay ρ w n) who k) n 0 0) (N := n) (fun c c0 c1 hv => ?_) (fun t c t0 t1 c0 c1 => ?_) n 0 0 (by omega) (by decide) (by decide) (by decide) rfl
    · refine r_X11_spoke_38 (d := d + 4) ⟨fun _ => ?_, fun y => absurd (show _ ≤ (n : Int) by rw [hm.n60]; omega) y⟩
      rw [← hv] at g; exact g
    · obtain ⟨i, rfl⟩ := jm_nat t0
      have hw := sLay_w h0.1 n hn h0.2.2.2 i (by omega)
      have e1 : jm_wr (61 + jm_wr (2 * (i : Int))) = 61 + 2 * i := by rw [jm_wr_id (a := 2 * (i : Int)) (by omega) (by omega), jm_wr_id (by omega) (by omega)]
      have e2 : jm_wr (61 + 2 * (i : Int) + 1) = 61 + (2 * i + 1) := by rw [jm_wr_id (by omega) (by omega)]; omega
      have w1 := hm.2.1.2.2 (2 * i) (by omega) (by omega)
      have w2 := hm.2.1.2.2 (2 * i + 1) (by omega) (by omega)
      have mk : ∀ nx : sSpk (sLay ρ w n) who k i = false → jg E m_X11_spoke (d + 4) 38 [some (jm_R 133), some (jm_I who), some (jm_I k), some (jm_I c), some (jm_I (i + 1))] [] (jm_up μ 133 0 0) Q, ∀ ny : sSpk (sLay ρ w n) who k i = true → jg E m_X11_spoke (d + 4) 38 [some (jm_R 133), some (jm_I who), some (jm_I k), some (jm_I (c + 1)), some (jm_I (i + 1))] [] (jm_up μ 133 0 0) Q, jg E m_X11_spoke (d + 4) 38 [some (jm_R 133), some (jm_I who), some (jm_I k), some (jm_I c), some (jm_I i)] [] (jm_up μ 133 0 0) Q := fun nx ny => by
        have c71 : (who = -1 ∨ (sLay ρ w n).1 0 i = who) → jg E m_X11_spoke (d + 4) 71 [some (jm_R 133), some (jm_I who), some (jm_I k), some (jm_I c), some (jm_I i)] [] (jm_up μ 133 0 0) Q := fun z => by
          refine r_X11_spoke_71 (d := d + 4) ?_
          rw [e1, e2, w2, ← hw.2, jm_wr_id (a := c + 1) (by omega) (by omega), jm_wr_id (a := (i : Int) + 1) (by omega) (by omega)]
          exact ⟨fun q => ny (decide_eq_true ⟨z, Or.inl q⟩), fun q => ⟨by omega, fun q2 => nx (decide_eq_false (fun y => by rcases y.2 with y | y; exact q y; exact q2 y)), fun q2 => ny (decide_eq_true ⟨z, Or.inr (by omega)⟩)⟩⟩
        refine r_X11_spoke_38 (d := d + 4) ⟨fun q => absurd q (by rw [hm.n60]; omega), fun _ => ⟨fun q => c71 (Or.inl q), fun q => ?_⟩⟩
        rw [e1, w1, ← hw.1, jm_wr_id (a := (i : Int) + 1) (by omega) (by omega)]
        exact ⟨by omega, fun q2 => nx (decide_eq_false (fun y => by rcases y.1 with y | y; exact q y; exact q2 y)), fun q2 => c71 (Or.inr (by omega))⟩
      exact ⟨fun p1 p2 => mk (fun q => by rw [p1] at q; cases q) (fun _ => p2), fun p1 p2 => mk (fun _ => p2) (fun q => by rw [p1] at q; cases q)⟩
  have no : ¬ ((who = -1 ∨ 0 ≤ who ∧ who < ρ 0) ∧ (k = -1 ∨ 0 ≤ k ∧ k < ρ 1)) → Q (some (jm_I (-1))) (jm_up μ 133 0 0) := fun z => by
    rw [if_neg z] at g
    exact g
  refine e_X11_spoke (d := d + 4) (fun _ => ⟨fun z => ⟨fun z2 => go (Or.inl z) (Or.inl z2), fun z2 => c_M_isKind (fun a0 a1 => jq_Z (jb_t (by decide) (go (Or.inl z) (Or.inr ⟨a0, by rwa [hm.p1] at a1⟩)))) (fun a => jq_Z (jb_f (by decide) (no (fun y => by rcases y.2 with y | y; exact z2 y; exact a (by rw [hm.p1]; exact y)))))⟩, fun z => c_M_isWho (fun a0 a1 => jq_Z (jb_f (by decide) ?_)) (fun a => jq_Z (jb_t (by decide) (no (fun y => by rcases y.1 with y | y; exact z y; exact a (by rw [hm.p0]; exact y)))))⟩)
  rw [hm.p0] at a1
  exact ⟨fun z2 => go (Or.inr ⟨a0, a1⟩) (Or.inl z2), fun z2 => c_M_isKind (fun b0 b1 => jq_Z (jb_t (by decide) (go (Or.inr ⟨a0, a1⟩) (Or.inr ⟨b0, by rwa [hm.p1] at b1⟩)))) (fun a => jq_Z (jb_f (by decide) (no (fun y => by rcases y.2 with y | y; exact z2 y; exact a (by rw [hm.p1]; exact y)))))⟩
end MP
