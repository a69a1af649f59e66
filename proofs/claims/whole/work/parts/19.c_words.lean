def sWord (ρ : sR) (b : sB) (t what : Int) : Int :=
  if what = 0 then b.1 0 t else if what = 1 then b.1 1 t else if what = 2 then b.1 2 t else if what = 3 then b.1 3 t else if what = 4 then b.1 4 t else if what = 5 then sSt ρ b t
  else if what = 6 then (if sDo ρ (b.1 1 t) = 2 then b.1 0 (b.1 2 t) else -1) else (if sDo ρ (b.1 1 t) = 2 then t + sDu ρ (b.1 1 t) else -1)
theorem sLay_w {ρ : sR} {w : Int → Int} (hW : sWR ρ) : ∀ n : Nat, n ≤ 400 → sVW ρ w n → ∀ t : Nat, t < n → (sLay ρ w n).1 0 t = w (2 * t) ∧ (sLay ρ w n).1 1 t = w (2 * t + 1)
  | 0, _, _, t, ht => absurd ht (by omega)
  | n + 1, hn, hv, t, ht => by
    have h3 := sLay_n (ρ := ρ) (w := w) n
    have hp := sPush_n (ρ := ρ) (b := sLay ρ w n) (who := w (2 * n)) (k := w (2 * n + 1)) rfl
    by_cases h : t = n
    · subst h
      rw [h3] at hp
      exact ⟨hp.1, hp.2.1⟩
    · have h1 := sLay_w hW n (by omega) (fun s hs => hv s (by omega)) t (by omega)
      have hne : (t : Int) ≠ (sLay ρ w n).2.1 := by rw [h3]; omega
      exact ⟨(sPush_f rfl (by decide) hne).trans h1.1, (sPush_f rfl (by decide) hne).trans h1.2⟩
section MW
variable {E : jm_E} {d : Nat} {μ : jm_M} {Q : Option jm_V → jm_M → Prop} {ρ : sR} {w : Int → Int} {n : Nat}
theorem c_M_refuse (h : Q (some (jm_I 0)) (jm_up μ 133 0 1)) : jc E m_X11_refuse (d + 1) [jm_R 133] μ Q := e_X11_refuse (fun _ => h)
theorem c_M_undo (h0 : μ 135 60 = n) (hn : n ≤ 400) (h1 : n = 0 → ∀ ν, mQ μ ν → Q (some (jm_I (-1))) ν) (h2 : n ≠ 0 → ∀ ν : jm_M, (∀ p, p ≠ 133 → p ≠ 135 → ν p = μ p) → (∀ i, i ≠ 0 → ν 133 i = μ 133 i) → (∀ i, i ≠ 60 → ν 135 i = μ 135 i) → ν 135 60 = n - 1 → Q (some (jm_I (n - 1))) ν) : jc E m_X11_undo (d + 1) [jm_R 133] μ Q := by
  refine e_X11_undo (fun _ => ⟨fun z m hm => ?_, fun z => h1 (by omega) _ mQ_0⟩)
  rw [h0, jm_wr_id (by omega) (by omega)] at hm
  have e1 : m 135 60 = (n : Int) - 1 := by rw [hm]; exact jm_up_at
  rw [e1]
  exact h2 (by omega) m (fun p p1 p2 => by rw [hm, jm_up_ne p2, jm_up_ne p1]) (fun i i0 => by rw [hm, jm_up_lj (by decide), jm_up_i i0]) (fun i i0 => by rw [hm, jm_up_i i0, jm_up_lj (by decide)]) e1
theorem c_M_word {t what : Int} (h0 : mOK μ ρ w n) (h1 : ¬ ((0 ≤ t ∧ t < n) ∧ 0 ≤ what ∧ what ≤ 7) → ∀ ν, mQ μ ν → ν 133 0 = 1 → Q (some (jm_I 0)) ν) (h2 : 0 ≤ t → t < n → 0 ≤ what → what ≤ 7 → ∀ ν, mQ μ ν → ν 133 0 = 0 → Q (some (jm_I (sWord ρ (sLay ρ w n) t what))) ν) : jc E m_X11_word (d + 5) [jm_R 133, jm_I t, jm_I what] μ Q := by
  have no : ¬ ((0 ≤ t ∧ t < n) ∧ 0 ≤ what ∧ what ≤ 7) → jc E m_X11_refuse (d + 4) [jm_R 133] μ (fun o m2 => ∀ r : Int, o = some (jm_I r) → Q (some (jm_I r)) m2) := fun z => c_M_refuse (jq_I (h1 z _ mQ_0 jm_up_at))
  have hn := h0.2.2.1
  have hl := sLay_n (ρ := ρ) (w := w) n
  refine e_X11_word (d := d + 4) (fun _ => ⟨fun z => no (fun y => by omega), fun z => ⟨fun z2 => no (fun y => by rw [h0.n60] at z2; omega), fun z2 => c_M_isIn (fun a0 a1 => jq_Z (jb_t (by decide) ?_)) (fun a => jq_Z (jb_f (by decide) (no (fun y => a y.2))))⟩⟩)
  rw [h0.n60] at z2
  have t0 : 0 ≤ t := by omega
  have t1 : t < n := by omega
  refine (mOK_of mQ_0 h0).lay (fun ν hr hb hq h3 _ => ?_)
  have g := h2 t0 t1 a0 a1 ν (mQ_0.trans hq) (by rw [h3]; exact jm_up_at)
  have hG := h0.good
  have t2 : t < (sLay ρ w n).2.1 := by rw [hl]; exact t1
  have s : ∀ f, 0 ≤ f → f ≤ 5 → ν (144 + f) t = (sLay ρ w n).1 f t := fun f f0 f1 => by
    have := hb.2.2 f t f0 f1 t0 t2
    rwa [show 400 * 0 + t = t by omega] at this
  have s0 : ν 144 t = _ := s 0 (by decide) (by decide)
  have s1 : ν 145 t = _ := s 1 (by decide) (by decide)
  have s2 : ν 146 t = _ := s 2 (by decide) (by decide)
  have s3 : ν 147 t = _ := s 3 (by decide) (by decide)
  have s4 : ν 148 t = _ := s 4 (by decide) (by decide)
  unfold sWord at g
  have hGt := hG.2.2.2.2 t t0 t2
  refine ⟨fun y => ⟨by omega, ?_⟩, fun y0 => ⟨fun y => ⟨by omega, ?_⟩, fun y1 => ⟨fun y => ⟨by omega, ?_⟩, fun y2 => ⟨fun y => ⟨by omega, ?_⟩, fun y3 => ⟨fun y => ⟨by omega, ?_⟩, fun y4 => ⟨fun y => ?_, fun y5 => ⟨fun y => ?_, fun y6 => ?_⟩⟩⟩⟩⟩⟩⟩
  · rw [if_pos y] at g; rw [s0]; exact g
  · rw [if_neg y0, if_pos y] at g; rw [s1]; exact g
  · rw [if_neg y0, if_neg y1, if_pos y] at g; rw [s2]; exact g
  · rw [if_neg y0, if_neg y1, if_neg y2, if_pos y] at g; rw [s3]; exact g
  · rw [if_neg y0, if_neg y1, if_neg y2, if_neg y3, if_pos y] at g; rw [s4]; exact g
  · rw [if_neg y0, if_neg y1, if_neg y2, if_neg y3, if_neg y4, if_pos y] at g
    exact c_M_stateOf (by decide) h0.1 hr hb hG t0 t2 (jq_I g)
  · rw [if_neg y0, if_neg y1, if_neg y2, if_neg y3, if_neg y4, if_neg y5, if_pos y] at g
    refine c_M_isPromise h0.1 hr hb hG t0 t2 (fun x => jq_Z (jb_f (by decide) ⟨by omega, ?_⟩)) (fun x => jq_Z (jb_t (by decide) ?_))
    · have a0 := (hGt.2.2.2.2.2.2.1 x).2.2
      rw [s2]
      have s02 : ν 144 ((sLay ρ w n).1 2 t) = (sLay ρ w n).1 0 ((sLay ρ w n).1 2 t) := by
        have := hb.2.2 0 ((sLay ρ w n).1 2 t) (by decide) (by decide) a0 (by omega)
        rwa [show 400 * 0 + (sLay ρ w n).1 2 t = (sLay ρ w n).1 2 t by omega] at this
      rw [s02]
      rw [if_pos x] at g
      exact ⟨by omega, g⟩
    · rw [if_neg x] at g; exact g
  · rw [if_neg y0, if_neg y1, if_neg y2, if_neg y3, if_neg y4, if_neg y5, if_neg y6] at g
    refine c_M_isPromise h0.1 hr hb hG t0 t2 (fun x => jq_Z (jb_f (by decide) ⟨by omega, ?_⟩)) (fun x => jq_Z (jb_t (by decide) ?_))
    · rw [s1]
      have hK := h0.1.2.2.2.2.2.2.2.2.2.2.2.2 _ hGt.2.1.1 hGt.2.1.2
      have hK1 := h0.1.2.2.2.1
      refine c_M_du (by decide) (by omega) hr (jq_I ?_)
      rw [jm_wr_id (by omega) (by omega)]
      rw [if_pos x] at g
      exact g
    · rw [if_neg x] at g; exact g
theorem c_M_threads (h0 : mOK μ ρ w n) (h : ∀ ν, mQ μ ν → Q (some (jm_I (sLay ρ w n).2.2)) ν) : jc E m_X11_threads (d + 5) [jm_R 133] μ Q := by
  refine e_X11_threads (d := d + 4) (fun _ => (mOK_of mQ_0 h0).lay (fun ν hr hb hq h3 _ => ?_))
  rw [hb.2.1]
  exact h ν (mQ_0.trans hq)
/-- a loop that counts or picks -/
theorem m_sel {m : jm_Y} {pc : Nat} {D : Nat} {F : Int → Int → List (Option jm_V)} {p : Int → Bool} {k v : Int} {N : Nat} (hN : N ≤ 100000) (hk : -1 ≤ k ∨ True)
    (hend : ∀ c : Int, 0 ≤ c → c ≤ N → (if k = -1 then c else -1) = v → jg E m D pc (F c N) [] μ Q)
    (hstep : ∀ t c : Int, 0 ≤ t → t < N → 0 ≤ c → c ≤ t → (p t = true → c = k → t = v → jg E m D pc (F c t) [] μ Q) ∧ (p t = true → c ≠ k → jg E m D pc (F (c + 1) (t + 1)) [] μ Q → jg E m D pc (F c t) [] μ Q) ∧ (p t = false → jg E m D pc (F c (t + 1)) [] μ Q → jg E m D pc (F c t) [] μ Q)) :
    ∀ (r : Nat) (t c : Int), N - t = r → 0 ≤ t → 0 ≤ c → c ≤ t → sSel p k r t c = v → jg E m D pc (F c t) [] μ Q
  | 0, t, c, h1, h2, h3, h4, h5 => by
    have : t = N := by omega
    subst this
    exact hend c h3 h4 h5
  | r + 1, t, c, h1, h2, h3, h4, h5 => by
    have hs := hstep t c h2 (by omega) h3 h4
    unfold sSel at h5
    cases hp : p t
    · rw [hp] at h5
      exact hs.2.2 hp (m_sel hN hk hend hstep r (t + 1) c (by omega) (by omega) h3 (by omega) h5)
    · rw [hp, if_pos rfl] at h5
      by_cases hc : c = k
      · rw [if_pos hc] at h5
        exact hs.1 hp hc h5
      · rw [if_neg hc] at h5
        exact hs.2.1 hp hc (m_sel hN hk hend hstep r (t + 1) (c + 1) (by omega) (by omega) (by omega) (by omega) h5)
theorem c_M_thread {i k : Int} (h0 : mOK μ ρ w n) (h : ∀ ν, mQ μ ν → Q (some (jm_I (if 0 ≤ i ∧ i < (sLay ρ w n).2.2 then sSel (fun t => decide ((sLay ρ w n).1 3 t = i)) k n 0 0 else -1))) ν) : jc E m_X11_thread (d + 5) [jm_R 133, jm_I i, jm_I k] μ Q := by
  refine e_X11_thread (d := d + 4) (fun _ => (mOK_of mQ_0 h0).lay (fun ν hr hb hq h3 _ => ?_))
  have g := h ν (mQ_0.trans hq)
  have hn := h0.2.2.1
  have hl := sLay_n (ρ := ρ) (w := w) n
  rw [hb.2.1]
  refine ⟨fun z => ?_, fun z => ⟨fun z2 => ?_, fun z2 => ?_⟩⟩
  · rw [if_neg (fun y => by omega)] at g; exact g
  · rw [if_pos ⟨by omega, z2⟩] at g
    refine m_sel (F := fun c t => [some (jm_R 133), some (jm_I i), some (jm_I k), some (jm_I c), some (jm_I t)]) (p := fun t => decide ((sLay ρ w n).1 3 t = i)) (k := k) (v := sSel (fun t => decide ((sLay ρ w n).1 3 t = i)) k n 0 0) (N := n) (by omega) (Or.inr trivial) (fun c c0 c1 hv => ?_) (fun t c t0 t1 c0 c1 => ?_) n 0 0 (by omega) (by decide) (by decide) (by decide) rfl
    · refine r_X11_thread_30 (d := d + 4) ⟨fun _ => ⟨fun y => ?_, fun y => ?_⟩, fun y => absurd (show ν 150 0 ≤ (n : Int) by rw [hb.1, hl]; omega) y⟩
      · rw [if_neg y] at hv; rw [← hv] at g; exact g
      · rw [if_pos (by omega)] at hv; rw [← hv] at g; exact g
    · have s3 : ν 147 t = (sLay ρ w n).1 3 t := by
        have := hb.2.2 3 t (by decide) (by decide) t0 (by omega)
        rwa [show 400 * 0 + t = t by omega] at this
      have mk : ((ν 147 t = i → ((c ≠ k → jg E m_X11_thread (d + 4) 30 [some (jm_R 133), some (jm_I i), some (jm_I k), some (jm_I (c + 1)), some (jm_I (t + 1))] [] ν Q) ∧ (¬ (c ≠ k) → Q (some (jm_I t)) ν))) ∧ (¬ (ν 147 t = i) → jg E m_X11_thread (d + 4) 30 [some (jm_R 133), some (jm_I i), some (jm_I k), some (jm_I c), some (jm_I (t + 1))] [] ν Q)) → jg E m_X11_thread (d + 4) 30 [some (jm_R 133), some (jm_I i), some (jm_I k), some (jm_I c), some (jm_I t)] [] ν Q := fun y => by
        refine r_X11_thread_30 (d := d + 4) ⟨fun q => absurd (show ν 150 0 ≤ t from q) (by rw [hb.1, hl]; omega), fun _ => ⟨by omega, ?_⟩⟩
        rw [jm_wr_id (a := c + 1) (by omega) (by omega), jm_wr_id (a := t + 1) (by omega) (by omega)]
        exact y
      rw [s3] at mk
      refine ⟨fun p1 p2 p3 => ?_, fun p1 p2 p3 => ?_, fun p1 p2 => ?_⟩
      · refine mk ⟨fun _ => ⟨fun q => absurd p2 q, fun _ => ?_⟩, fun q => absurd (of_decide_eq_true p1) q⟩
        rw [← p3] at g; exact g
      · exact mk ⟨fun _ => ⟨fun _ => p3, fun q => absurd p2 q⟩, fun q => absurd (of_decide_eq_true p1) q⟩
      · exact mk ⟨fun q => absurd q (of_decide_eq_false p1), fun _ => p2⟩
  · rw [if_neg (fun y => by omega)] at g; exact g
theorem c_M_with {st k : Int} (h0 : mOK μ ρ w n) (h : ∀ ν, mQ μ ν → Q (some (jm_I (if 1 ≤ st ∧ st ≤ 8 then sSel (fun t => decide (sSt ρ (sLay ρ w n) t = st)) k n 0 0 else -1))) ν) : jc E m_X11_with (d + 5) [jm_R 133, jm_I st, jm_I k] μ Q := by
  have hm := mOK_of (mQ_0 (v := 0)) h0
  refine e_X11_with (d := d + 4) (fun _ => c_M_isIn (fun a0 a1 => jq_Z (jb_t (by decide) (hm.lay (fun ν hr hb hq h3 _ => ?_)))) (fun a => jq_Z (jb_f (by decide) ?_)))
  · have g := h ν (mQ_0.trans hq)
    have hn := h0.2.2.1
    have hl := sLay_n (ρ := ρ) (w := w) n
    rw [if_pos ⟨a0, a1⟩] at g
    refine m_sel (F := fun c t => [some (jm_R 133), some (jm_I st), some (jm_I k), some (jm_I c), some (jm_I t)]) (p := fun t => decide (sSt ρ (sLay ρ w n) t = st)) (k := k) (v := sSel (fun t => decide (sSt ρ (sLay ρ w n) t = st)) k n 0 0) (N := n) (by omega) (Or.inr trivial) (fun c c0 c1 hv => ?_) (fun t c t0 t1 c0 c1 => ?_) n 0 0 (by omega) (by decide) (by decide) (by decide) rfl
    · refine r_X11_with_26 (d := d + 4) ⟨fun _ => ⟨fun y => ?_, fun y => ?_⟩, fun y => absurd (show ν 150 0 ≤ (n : Int) by rw [hb.1, hl]; omega) y⟩
      · rw [if_neg y] at hv; rw [← hv] at g; exact g
      · rw [if_pos (by omega)] at hv; rw [← hv] at g; exact g
    · have mk : ((sSt ρ (sLay ρ w n) t = st → ((c ≠ k → jg E m_X11_with (d + 4) 26 [some (jm_R 133), some (jm_I st), some (jm_I k), some (jm_I (c + 1)), some (jm_I (t + 1))] [] ν Q) ∧ (¬ (c ≠ k) → Q (some (jm_I t)) ν))) ∧ (¬ (sSt ρ (sLay ρ w n) t = st) → jg E m_X11_with (d + 4) 26 [some (jm_R 133), some (jm_I st), some (jm_I k), some (jm_I c), some (jm_I (t + 1))] [] ν Q)) → jg E m_X11_with (d + 4) 26 [some (jm_R 133), some (jm_I st), some (jm_I k), some (jm_I c), some (jm_I t)] [] ν Q := fun y => by
        refine r_X11_with_26 (d := d + 4) ⟨fun q => absurd (show ν 150 0 ≤ t from q) (by rw [hb.1, hl]; omega), fun _ => c_M_stateOf (by decide) h0.1 hr hb h0.good t0 (by omega) (jq_I ?_)⟩
        rw [jm_wr_id (a := c + 1) (by omega) (by omega), jm_wr_id (a := t + 1) (by omega) (by omega)]
        exact y
      refine ⟨fun p1 p2 p3 => ?_, fun p1 p2 p3 => ?_, fun p1 p2 => ?_⟩
      · refine mk ⟨fun _ => ⟨fun q => absurd p2 q, fun _ => ?_⟩, fun q => absurd (of_decide_eq_true p1) q⟩
        rw [← p3] at g; exact g
      · exact mk ⟨fun _ => ⟨fun _ => p3, fun q => absurd p2 q⟩, fun q => absurd (of_decide_eq_true p1) q⟩
      · exact mk ⟨fun q => absurd q (of_decide_eq_false p1), fun _ => p2⟩
  · have g := h _ (mQ_0 (v := 0))
    rw [if_neg a] at g
    exact g
end MW
