/-! class and reference at each call: those that ask alone -/
abbrev jS (E : jm_E) (Y Y' : jm_Y) (av : List jm_V) (μ : jm_M) : Prop := jc E Y 60 (jm_R 0 :: av) μ (fun o m => ∀ r : Int, o = some (jm_I r) → jc E Y' 60 (jm_R 133 :: av) m (fun o' m' => o' = some (jm_I r) ∧ jI m'))
section JA
variable {E : jm_E} {μ : jm_M}
theorem jS_fault (h : jI μ) : jS E m_X10_fault m_X11_fault [] μ := c_C_fault (d := 59) (jq_I (c_M_fault (d := 59) ⟨by rw [show μ 1 9 = μ 133 10 from h.2.2.1], h.up⟩))
theorem jS_why (h : jI μ) : jS E m_X10_why m_X11_why [] μ := c_C_why (d := 59) (jq_I (c_M_why (d := 59) ⟨by rw [show μ 21 3 = μ 133 31 from h.2.2.2.1], h.up⟩))
theorem jS_mended (h : jI μ) : jS E m_X10_mended m_X11_mended [] μ := c_C_mended (d := 59) (jq_I (c_M_mended (d := 59) ⟨by rw [show μ 130 2 = μ 133 45 from h.2.2.2.2.1], h.up⟩))
theorem jS_rank {v : Int} (h : jI μ) : jS E m_X10_rank m_X11_rank [jm_I v] μ := by
  obtain ⟨⟨D, hD⟩, -⟩ := id h
  exact c_C_rank (d := 58) hD.t (jq_I (c_M_rank (d := 58) hD.1.1 hD.ok.2.1.1 ⟨rfl, h.up⟩))
theorem jS_wrong {who k : Int} (h : jI μ) : jS E m_X10_wrong m_X11_wrong [jm_I who, jm_I k] μ := by
  obtain ⟨⟨D, hD⟩, -⟩ := id h
  exact c_C_wrong (d := 55) hD.t (jq_I (c_M_wrong (d := 54) hD.ok (fun ν q => ⟨rfl, h.m q⟩)))
theorem jS_may {who : Int} (h : jI μ) : jS E m_X10_may m_X11_may [jm_I who] μ := by
  obtain ⟨⟨D, hD⟩, -⟩ := id h
  exact c_C_may (d := 54) hD.t (fun z => jq_I (c_M_may (d := 55) hD.ok (fun _ ν q => ⟨rfl, h.m q⟩) (fun a b => absurd ⟨a, b⟩ z))) (fun a b => jq_I (c_M_may (d := 55) hD.ok (fun z => absurd ⟨a, b⟩ z) (fun _ _ ν q => ⟨rfl, h.m q⟩)))
theorem jS_threads (h : jI μ) : jS E m_X10_threads m_X11_threads [] μ := by
  obtain ⟨⟨D, hD⟩, -⟩ := id h
  exact c_C_threads (d := 59) hD.t (jq_I (c_M_threads (d := 55) hD.ok (fun ν q => ⟨rfl, h.m q⟩)))
theorem jS_thread {i k : Int} (h : jI μ) : jS E m_X10_thread m_X11_thread [jm_I i, jm_I k] μ := by
  obtain ⟨⟨D, hD⟩, -⟩ := id h
  exact c_C_thread (d := 55) hD.t (jq_I (c_M_thread (d := 55) hD.ok (fun ν q => ⟨rfl, h.m q⟩)))
theorem jS_with {st k : Int} (h : jI μ) : jS E m_X10_with m_X11_with [jm_I st, jm_I k] μ := by
  obtain ⟨⟨D, hD⟩, -⟩ := id h
  exact c_C_with (d := 55) hD.t (jq_I (c_M_with (d := 55) hD.ok (fun ν q => ⟨rfl, h.m q⟩)))
theorem jS_promised {x y st : Int} (h : jI μ) : jS E m_X10_promised m_X11_promised [jm_I x, jm_I y, jm_I st] μ := by
  obtain ⟨⟨D, hD⟩, -⟩ := id h
  exact c_C_promised (d := 55) hD.t (jq_I (c_M_promised (d := 55) hD.ok (fun ν q => ⟨rfl, h.m q⟩)))
theorem jS_spoke {who k : Int} (h : jI μ) : jS E m_X10_spoke m_X11_spoke [jm_I who, jm_I k] μ := by
  obtain ⟨⟨D, hD⟩, -⟩ := id h
  exact c_C_spoke (d := 55) hD.t (jq_I (c_M_spoke (d := 55) hD.ok (fun ν q => ⟨rfl, h.m q⟩)))
theorem jS_sure {t x : Int} (h : jI μ) : jS E m_X10_sure m_X11_sure [jm_I t, jm_I x] μ := by
  obtain ⟨S, h1, h2, h3, h4⟩ := h.2.2.2.2.2.2.1
  refine c_C_sure (d := 58) h2 h1 (jq_I (c_M_sure (d := 58) (by rw [h3]; exact h1) ⟨?_, h.up⟩))
  rw [h3]
  by_cases c : (0 ≤ t ∧ t < S) ∧ 0 ≤ x ∧ x ≤ 2
  · rw [if_pos c, if_pos c, h4 x t c.2.1 c.2.2 c.1.1 c.1.2]
  · rw [if_neg c, if_neg c]
theorem jS_orderAt {i : Int} (h : jI μ) : jS E m_X10_orderAt m_X11_orderAt [jm_I i] μ := by
  obtain ⟨S, h1, h2, h3, h4⟩ := h.2.2.2.2.2.2.2.2.1
  refine c_C_orderAt (d := 58) h2 h1 (jq_I (c_M_orderAt (d := 59) (by rw [h3]; exact h1) ⟨?_, h.up⟩))
  rw [h3]
  by_cases c : 0 ≤ i ∧ i < S
  · rw [if_pos c, if_pos c, h4 i c.1 c.2]
  · rw [if_neg c, if_neg c]
theorem jS_found {i : Int} (h : jI μ) : jS E m_X10_found m_X11_found [jm_I i] μ := by
  obtain ⟨S, h1, h2, h3, h4⟩ := h.2.2.2.2.2.1
  refine c_C_found (d := 58) h2 h1 (jq_I (c_M_found (d := 59) (by rw [h3]; exact h1) ⟨?_, h.up⟩))
  rw [h3]
  by_cases c : 0 ≤ i ∧ i < S
  · rw [if_pos c, if_pos c, h4 i c.1 c.2]
  · rw [if_neg c, if_neg c]
theorem jS_said {k : Int} (h : jI μ) : jS E m_X10_said m_X11_said [jm_I k] μ := by
  obtain ⟨⟨D, hD⟩, -⟩ := id h
  have e := hD.2.2.2.2.2.2.2.2
  exact c_C_said (d := 52) hD.t hD.1.2.1 hD.2.2.1.2.2.2 hD.1.2.2.2.2.1 (jq_I (c_M_said (d := 15) hD.ok e.1 e.2.1 e.2.2.1 hD.1.2.2.2.2.1 (fun ν q => ⟨rfl, h.m q⟩)))
theorem jS_count {x : Int} (h : jI μ) : jS E m_X10_count m_X11_count [jm_I x] μ := by
  obtain ⟨⟨D, hD⟩, ⟨τ, n, h1, h2, h3⟩, -⟩ := id h
  exact c_C_count (d := 59) hD.2.2.1 hD.1 h2.1 (jq_I (c_M_count (d := 59) hD.ok.2.1.1 hD.ok.2.1.2.1 hD.mn.1 h3.1 ⟨rfl, h.up⟩))
/-- kind and word, that may throw: the law's own calls of them, and the reference -/
theorem jS_kind {k x : Int} (h : jI μ) : jm_Ch E m_L_kind [(0, 10, 13, 13)] 60 [jm_R 0, jm_I k, jm_I x, jm_R 164] μ (fun o m => ∀ r : Int, o = some (jm_I r) → jc E m_X11_kind 60 [jm_R 133, jm_I k, jm_I x] m (fun o' m' => ∀ b : Int, o' = some (jm_I b) → jc E m_X11_thrown 60 [jm_R 133] m' (fun o2 m2 => o2 = some (jm_I r) ∧ (r = 0 → m2 164 0 = b) ∧ jI m2))) := by
  obtain ⟨⟨D, hD⟩, -⟩ := id h
  have i4 : ∀ {v : Int}, jI (jm_up μ 164 0 v) := fun {v} => ⟨⟨D, hD.of (fun q i hq => by rw [jm_up_ne (by omega)])⟩, h.2.of (by rw [jm_up_ne (by decide)]) (by rw [jm_up_ne (by decide)]) (jm_up_ne (by decide)) (by rw [jm_up_ne (by decide)]) (fun q q0 q1 => jm_up_ne (by omega)) (by rw [jm_up_ne (by decide)]) (jm_up_ne (by decide)) (by rw [jm_up_ne (by decide)]) (fun q q0 q1 => jm_up_ne (by omega)) (by rw [jm_up_ne (by decide)]) (by rw [jm_up_ne (by decide)]) (jm_up_ne (by decide)) (fun i _ => by rw [jm_up_ne (by decide)]) (jm_up_ne (by decide)) (jm_up_ne (by decide)) (jm_up_ne (by decide)) (jm_up_ne (by decide)) (fun q q0 q1 => jm_up_ne (by omega)) (jm_up_ne (by decide)) (jm_up_ne (by decide))⟩
  refine x_L_kind (d := 53) hD.1.1 hD.t.1 (fun z => jq_I ?_) (fun k0 k1 x0 x1 => jq_I ?_)
  · refine c_M_kind (d := 58) hD.1.1 hD.ok.2.1.1 (fun _ => jq_I (c_M_thrown (d := 59) ⟨by rw [jm_up_at], fun z => absurd z (by decide), h.up⟩)) (fun a b c e => absurd ⟨⟨a, b⟩, c, e⟩ z)
  · refine c_M_kind (d := 58) hD.1.1 (fun i i0 i1 => by rw [jm_up_ne (by decide)]; exact hD.ok.2.1.1 i i0 i1) (fun z => absurd ⟨⟨k0, k1⟩, x0, x1⟩ z) (fun _ _ _ _ => jq_I (c_M_thrown (d := 59) ⟨by rw [jm_up_at], fun _ => ?_, i4.up⟩))
    rw [jm_up_ne (by decide), jm_up_at]
theorem jS_word {t x : Int} (h : jI μ) : jm_Ch E m_L_word [(0, 10, 13, 13)] 60 [jm_R 0, jm_I t, jm_I x, jm_R 164] μ (fun o m => ∀ r : Int, o = some (jm_I r) → jc E m_X11_word 60 [jm_R 133, jm_I t, jm_I x] m (fun o' m' => ∀ b : Int, o' = some (jm_I b) → jc E m_X11_thrown 60 [jm_R 133] m' (fun o2 m2 => o2 = some (jm_I r) ∧ (r = 0 → m2 164 0 = b) ∧ jI m2))) := by
  obtain ⟨⟨D, hD⟩, -⟩ := id h
  have i4 : ∀ {v : Int}, jD (jm_up μ 164 0 v) D ∧ jI (jm_up μ 164 0 v) := fun {v} => have g := hD.of (ν := jm_up μ 164 0 v) (fun q i hq => by rw [jm_up_ne (by omega)]); ⟨g, ⟨D, g⟩, h.2.of (by rw [jm_up_ne (by decide)]) (by rw [jm_up_ne (by decide)]) (jm_up_ne (by decide)) (by rw [jm_up_ne (by decide)]) (fun q q0 q1 => jm_up_ne (by omega)) (by rw [jm_up_ne (by decide)]) (jm_up_ne (by decide)) (by rw [jm_up_ne (by decide)]) (fun q q0 q1 => jm_up_ne (by omega)) (by rw [jm_up_ne (by decide)]) (by rw [jm_up_ne (by decide)]) (jm_up_ne (by decide)) (fun i _ => by rw [jm_up_ne (by decide)]) (jm_up_ne (by decide)) (jm_up_ne (by decide)) (jm_up_ne (by decide)) (jm_up_ne (by decide)) (fun q q0 q1 => jm_up_ne (by omega)) (jm_up_ne (by decide)) (jm_up_ne (by decide))⟩
  refine x_L_word (d := 53) hD.t (fun z => jq_I ?_) (fun k0 k1 x0 x1 => jq_I ?_)
  · refine c_M_word (d := 55) hD.ok (fun _ ν q e => jq_I (c_M_thrown (d := 59) ⟨by rw [e], fun z => absurd z (by decide), h.m q⟩)) (fun a b c e => absurd ⟨⟨a, b⟩, c, e⟩ z)
  · refine c_M_word (d := 55) i4.1.ok (fun z => absurd ⟨⟨k0, k1⟩, x0, x1⟩ z) (fun _ _ _ _ ν q e => jq_I (c_M_thrown (d := 59) ⟨by rw [e], fun _ => ?_, i4.2.m q⟩))
    rw [q.1 164 (by decide) (by decide), jm_up_at]
end JA
