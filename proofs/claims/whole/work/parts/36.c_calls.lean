/-! class and reference at each call: those that change something (gen_calls.py) -/
section JB
variable {E : jm_E} {μ ν : jm_M} {D : sDk}
theorem jO.of2 (h : jO μ) (f1 : jA1 ν ∨ (ν 1 1 = μ 1 1 ∧ ν 2 = μ 2 ∧ ν 133 2 = μ 133 2 ∧ ν 134 = μ 134)) (f2 : jA2 ν ∨ (ν 1 9 = μ 1 9 ∧ ν 133 10 = μ 133 10)) (f3 : jA3 ν ∨ (ν 21 3 = μ 21 3 ∧ ν 133 31 = μ 133 31)) (f4 : jA4 ν ∨ (ν 130 2 = μ 130 2 ∧ ν 133 45 = μ 133 45))
    (f5 : jA5 ν ∨ (ν 121 6 = μ 121 6 ∧ ν 123 = μ 123 ∧ ν 133 52 = μ 133 52 ∧ ν 162 = μ 162)) (f6 : jA6 ν ∨ (ν 124 6 = μ 124 6 ∧ (∀ q, 127 ≤ q → q ≤ 129 → ν q = μ q) ∧ ν 133 44 = μ 133 44 ∧ ∀ q, 156 ≤ q → q ≤ 158 → ν q = μ q)) (f7 : jA7 ν ∨ (∀ q, 127 ≤ q → q ≤ 129 → ν q = μ q))
    (f8 : jA8 ν ∨ (ν 130 6 = μ 130 6 ∧ ν 132 = μ 132 ∧ ν 133 49 = μ 133 49 ∧ ν 160 = μ 160)) (f9 : jA9 ν 0 ∨ ((∀ q, 83 ≤ q → q ≤ 101 → ν q = μ q) ∧ ν 137 = μ 137 ∧ ν 141 = μ 141 ∧ ν 142 = μ 142)) (f10 : jA9 ν 1 ∨ ((∀ q, 102 ≤ q → q ≤ 120 → ν q = μ q) ∧ ν 137 = μ 137 ∧ ν 141 = μ 141 ∧ ν 142 = μ 142)) : jO ν := by
  obtain ⟨h1, h2, h3, h4, h5, h6, h7, h8, h9, h10⟩ := h
  refine ⟨?_, ?_, ?_, ?_, ?_, ?_, ?_, ?_, ?_, ?_⟩
  · rcases f1 with f | ⟨a, b, c, d⟩
    · exact f
    · exact h1.of (fun q i hq => by rcases hq with ⟨rfl, rfl⟩ | rfl | ⟨rfl, rfl⟩ | rfl <;> simp only [a, b, c, d])
  · rcases f2 with f | ⟨a, b⟩
    · exact f
    · exact h2.of (fun q i hq => by rcases hq with ⟨rfl, rfl⟩ | ⟨rfl, rfl⟩ <;> simp only [a, b])
  · rcases f3 with f | ⟨a, b⟩
    · exact f
    · exact h3.of (fun q i hq => by rcases hq with ⟨rfl, rfl⟩ | ⟨rfl, rfl⟩ <;> simp only [a, b])
  · rcases f4 with f | ⟨a, b⟩
    · exact f
    · exact h4.of (fun q i hq => by rcases hq with ⟨rfl, rfl⟩ | ⟨rfl, rfl⟩ <;> simp only [a, b])
  · rcases f5 with f | ⟨a, b, c, d⟩
    · exact f
    · exact h5.of (fun q i hq => by rcases hq with ⟨rfl, rfl⟩ | rfl | ⟨rfl, rfl⟩ | rfl <;> simp only [a, b, c, d])
  · rcases f6 with f | ⟨a, b, c, d⟩
    · exact f
    · refine h6.of (fun q i hq => ?_)
      rcases hq with ⟨rfl, rfl⟩ | hq | ⟨rfl, rfl⟩ | hq
      · exact a
      · rw [b q hq.1 hq.2]
      · exact c
      · rw [d q hq.1 hq.2]
  · rcases f7 with f | b
    · exact f
    · exact h7.of (fun q i hq => by rw [b q hq.1 hq.2])
  · rcases f8 with f | ⟨a, b, c, d⟩
    · exact f
    · exact h8.of (fun q i hq => by rcases hq with ⟨rfl, rfl⟩ | rfl | ⟨rfl, rfl⟩ | rfl <;> simp only [a, b, c, d])
  · rcases f9 with f | ⟨a, b, c, d⟩
    · exact f
    · refine h9.of (fun q i hq => ?_)
      have s0 : sIm 0 = 83 := rfl
      rcases hq with hq | ⟨rfl, -, -⟩ | ⟨rfl, -, -⟩ | ⟨rfl, rfl⟩
      · rw [a q (by omega) (by omega)]
      · rw [b]
      · rw [c]
      · rw [d]
  · rcases f10 with f | ⟨a, b, c, d⟩
    · exact f
    · refine h10.of (fun q i hq => ?_)
      have s0 : sIm 1 = 102 := rfl
      rcases hq with hq | ⟨rfl, -, -⟩ | ⟨rfl, -, -⟩ | ⟨rfl, rfl⟩
      · rw [a q (by omega) (by omega)]
      · rw [b]
      · rw [c]
      · rw [d]
theorem mOK.p {ρ : sR} {w : Int → Int} {n : Nat} (h : mOK μ ρ w n) (e : ν 135 = μ 135) : mOK ν ρ w n := ⟨h.1, ⟨by rw [e]; exact h.2.1.1, by rw [e]; exact h.2.1.2.1, by rw [e]; exact h.2.1.2.2⟩, h.2.2⟩
theorem sPt_eq {g g' : Int → Int} {l : List Int} {S : Int} (h : sPt g 0 l) (h' : sPt g' 0 l) (hl : (l.length : Int) = S) : ∀ i, 0 ≤ i → i < S → g i = g' i := by
  intro i i0 i1
  have a := sPt_at l 0 h i.toNat (by omega)
  have b := sPt_at l 0 h' i.toNat (by omega)
  rw [show (0 : Int) + (i.toNat : Nat) = i by omega] at a b
  rw [a, b]
theorem jO.im {k : Int} (h : jO μ) (k0 : 0 ≤ k) (k1 : k ≤ 1) : jA9 μ k := by
  rcases (show k = 0 ∨ k = 1 by omega) with rfl | rfl
  · exact h.2.2.2.2.2.2.2.2.1
  · exact h.2.2.2.2.2.2.2.2.2
theorem jA9.iff {k : Int} (h : jA9 μ k) : μ (sIm k) 0 ≠ 0 ↔ μ 142 k ≠ 0 := by
  rcases h with ⟨a, b⟩ | ⟨a, b, -⟩
  · rw [a, b]
  · rw [a, b]
theorem jA9.d {k : Int} (h : jA9 μ k) (hz : μ (sIm k) 0 ≠ 0) : ∃ D : sDk, sVd D ∧ jW D ∧ cIm μ (sIm k) D ∧ mDk (fun i => μ 137 (1152 * k + i)) (fun i => μ 141 (18 * k + i)) D := by
  rcases h with ⟨a, b⟩ | ⟨a, b, h⟩
  · exact absurd a hz
  · exact h
theorem jS_without {who x st k : Int} (h : jI μ) : jS E m_X10_without m_X11_without [jm_I who, jm_I x, jm_I st, jm_I k] μ := by
  obtain ⟨⟨D, hD⟩, hO⟩ := id h
  exact c_C_without (d := 42) hD.t (fun ξ c t => jq_I (c_M_without (d := 45) (hD.cE c t).ok (fun ν q => ⟨rfl, jI.q ⟨⟨D, hD.cE c t⟩, hO.cE c⟩ q⟩)))
theorem jS_game {side x st k : Int} (h : jI μ) : jS E m_X10_game m_X11_game [jm_I side, jm_I x, jm_I st, jm_I k] μ := by
  obtain ⟨⟨D, hD⟩, hO⟩ := id h
  exact c_C_game (d := 43) hD.t (fun ξ c t => jq_I (c_M_game (d := 46) (hD.cE c t).ok (fun ν q => ⟨rfl, jI.m ⟨⟨D, hD.cE c t⟩, hO.cE c⟩ q⟩)))
theorem jS_road {x st k : Int} (h : jI μ) : jS E m_X10_road m_X11_road [jm_I x, jm_I st, jm_I k] μ := by
  obtain ⟨⟨D, hD⟩, hO⟩ := id h
  refine c_C_road (d := 42) hD.t (fun z ξ c t => jq_I ?_) (fun z z8 ξ c t s1 s2 => jq_I ?_)
  · exact c_M_road (d := 45) (hD.cE c t).ok (fun _ ν q => ⟨rfl, jI.q ⟨⟨D, hD.cE c t⟩, hO.cE c⟩ q⟩) (fun a => absurd a (by omega))
  · have hx : jD ξ D := hD.tl (fun q i hq => congrFun (c.1 q (by omega)) i) t
    refine c_M_road (d := 45) hx.ok (fun a => absurd a (by omega)) (fun _ _ ν g e1 e2 => ⟨rfl, ⟨D, hx.of (fun q i hq => congrFun (g.1 q (by omega) (by omega) (by omega) (by omega)) i)⟩, ?_⟩)
    exact hO.of2 (.inr ⟨(congrFun (g.1 1 (by decide) (by decide) (by decide) (by decide)) 1).trans (c.2.1), (g.1 2 (by decide) (by decide) (by decide) (by decide)).trans (c.1 2 (by decide)), (g.2 2 (by decide) (by decide)).trans (congrFun (c.1 133 (by decide)) 2), (g.1 134 (by decide) (by decide) (by decide) (by decide)).trans (c.1 134 (by decide))⟩) (.inr ⟨(congrFun (g.1 1 (by decide) (by decide) (by decide) (by decide)) 9).trans (c.2.2.2.1), (g.2 10 (by decide) (by decide)).trans (congrFun (c.1 133 (by decide)) 10)⟩) (.inr ⟨(congrFun (g.1 21 (by decide) (by decide) (by decide) (by decide)) 3).trans (c.2.2.2.2.2.1), (g.2 31 (by decide) (by decide)).trans (congrFun (c.1 133 (by decide)) 31)⟩) (.inr ⟨(congrFun (g.1 130 (by decide) (by decide) (by decide) (by decide)) 2).trans (c.2.2.2.2.2.2.2.1), (g.2 45 (by decide) (by decide)).trans (congrFun (c.1 133 (by decide)) 45)⟩) (.inl ⟨_, z8, (congrFun (g.1 121 (by decide) (by decide) (by decide) (by decide)) 6).trans s1, e1, fun i i0 i1 => (congrFun (g.1 123 (by decide) (by decide) (by decide) (by decide)) i).trans (sPt_eq s2 e2 (sRoad_len z) i i0 i1)⟩) (.inr ⟨(congrFun (g.1 124 (by decide) (by decide) (by decide) (by decide)) 6).trans (c.2.2.2.2.2.2.1), (fun q q0 q1 => (g.1 q (by omega) (by omega) (by omega) (by omega)).trans (c.1 q (by omega))), (g.2 44 (by decide) (by decide)).trans (congrFun (c.1 133 (by decide)) 44), (fun q q0 q1 => (g.1 q (by omega) (by omega) (by omega) (by omega)).trans (c.1 q (by omega)))⟩) (.inr (fun q q0 q1 => (g.1 q (by omega) (by omega) (by omega) (by omega)).trans (c.1 q (by omega)))) (.inr ⟨(congrFun (g.1 130 (by decide) (by decide) (by decide) (by decide)) 6).trans (c.2.2.2.2.2.2.2.2), (g.1 132 (by decide) (by decide) (by decide) (by decide)).trans (c.1 132 (by decide)), (g.2 49 (by decide) (by decide)).trans (congrFun (c.1 133 (by decide)) 49), (g.1 160 (by decide) (by decide) (by decide) (by decide)).trans (c.1 160 (by decide))⟩) (.inr ⟨fun q q0 q1 => (g.1 q (by omega) (by omega) (by omega) (by omega)).trans (c.1 q (by omega)), (g.1 137 (by decide) (by decide) (by decide) (by decide)).trans (c.1 137 (by decide)), (g.1 141 (by decide) (by decide) (by decide) (by decide)).trans (c.1 141 (by decide)), (g.1 142 (by decide) (by decide) (by decide) (by decide)).trans (c.1 142 (by decide))⟩) (.inr ⟨fun q q0 q1 => (g.1 q (by omega) (by omega) (by omega) (by omega)).trans (c.1 q (by omega)), (g.1 137 (by decide) (by decide) (by decide) (by decide)).trans (c.1 137 (by decide)), (g.1 141 (by decide) (by decide) (by decide) (by decide)).trans (c.1 141 (by decide)), (g.1 142 (by decide) (by decide) (by decide) (by decide)).trans (c.1 142 (by decide))⟩)
theorem jS_unlike {k x : Int} (h : jI μ) : jS E m_X10_unlike m_X11_unlike [jm_I k, jm_I x] μ := by
  obtain ⟨⟨D, hD⟩, hO⟩ := id h
  by_cases hk : 0 ≤ k ∧ k ≤ 1 ∧ μ (sIm k) 0 ≠ 0
  · obtain ⟨k0, k1, k2⟩ := hk
    have h9 := hO.im k0 k1
    obtain ⟨Dk, b1, b2, b3, b4⟩ := h9.d k2
    have h2 := h9.iff.mp k2
    refine c_C_unlike (d := 43) (σ := Dk.1) hD.t (fun _ _ _ => ⟨b1.1, b3.1.1⟩) (fun z => jq_I ?_) (fun _ _ _ x0 x1 z ξ c t => jq_I ?_) (fun _ _ _ x0 x1 z ξ c t s1 s2 => jq_I ?_)
    · exact c_M_unlike (d := 45) (σ := Dk.1) hD.1.1 hD.ok.2.1.1 (fun _ _ _ => ⟨b1.1, fun i i0 i1 => b4.1 i i0 i1⟩) (fun _ ν q => ⟨rfl, h.m q⟩) (fun _ _ _ x0 x1 => absurd ⟨⟨k0, k1, k2⟩, x0, x1⟩ z) (fun _ _ _ x0 x1 => absurd ⟨⟨k0, k1, k2⟩, x0, x1⟩ z)
    · have hx := hD.cE c t
      have e7 := c.1 137 (by decide)
      have e2 := c.1 142 (by decide)
      refine c_M_unlike (d := 45) (σ := Dk.1) hD.1.1 hx.ok.2.1.1 (fun _ _ _ => ⟨b1.1, fun i i0 i1 => by rw [e7]; exact b4.1 i i0 i1⟩) (fun y => absurd ⟨⟨k0, k1, by rw [e2]; exact h2⟩, x0, x1⟩ y) (fun _ _ _ _ _ _ ν q => ⟨rfl, jI.q ⟨⟨D, hx⟩, hO.cE c⟩ q⟩) (fun _ _ _ _ _ y => absurd y (by omega))
    · have hx : jD ξ D := hD.tl (fun q i hq => congrFun (c.1 q (by omega)) i) t
      have e7 := c.1 137 (by decide)
      have e2 := c.1 142 (by decide)
      refine c_M_unlike (d := 45) (σ := Dk.1) hD.1.1 hx.ok.2.1.1 (fun _ _ _ => ⟨b1.1, fun i i0 i1 => by rw [e7]; exact b4.1 i i0 i1⟩) (fun y => absurd ⟨⟨k0, k1, by rw [e2]; exact h2⟩, x0, x1⟩ y) (fun _ _ _ _ _ y => absurd y (by omega)) (fun _ _ _ _ _ _ z8 zl ν g e1 e2 => ⟨rfl, ⟨D, hx.of (fun q i hq => congrFun (g.1 q (by omega) (by omega) (by omega) (by omega)) i)⟩, ?_⟩)
      exact hO.of2 (.inr ⟨(congrFun (g.1 1 (by decide) (by decide) (by decide) (by decide)) 1).trans (c.2.1), (g.1 2 (by decide) (by decide) (by decide) (by decide)).trans (c.1 2 (by decide)), (g.2 2 (by decide) (by decide)).trans (congrFun (c.1 133 (by decide)) 2), (g.1 134 (by decide) (by decide) (by decide) (by decide)).trans (c.1 134 (by decide))⟩) (.inr ⟨(congrFun (g.1 1 (by decide) (by decide) (by decide) (by decide)) 9).trans (c.2.2.2.1), (g.2 10 (by decide) (by decide)).trans (congrFun (c.1 133 (by decide)) 10)⟩) (.inr ⟨(congrFun (g.1 21 (by decide) (by decide) (by decide) (by decide)) 3).trans (c.2.2.2.2.2.1), (g.2 31 (by decide) (by decide)).trans (congrFun (c.1 133 (by decide)) 31)⟩) (.inr ⟨(congrFun (g.1 130 (by decide) (by decide) (by decide) (by decide)) 2).trans (c.2.2.2.2.2.2.2.1), (g.2 45 (by decide) (by decide)).trans (congrFun (c.1 133 (by decide)) 45)⟩) (.inl ⟨_, z8, (congrFun (g.1 121 (by decide) (by decide) (by decide) (by decide)) 6).trans s1, e1, fun i i0 i1 => (congrFun (g.1 123 (by decide) (by decide) (by decide) (by decide)) i).trans (sPt_eq s2 e2 zl i i0 i1)⟩) (.inr ⟨(congrFun (g.1 124 (by decide) (by decide) (by decide) (by decide)) 6).trans (c.2.2.2.2.2.2.1), (fun q q0 q1 => (g.1 q (by omega) (by omega) (by omega) (by omega)).trans (c.1 q (by omega))), (g.2 44 (by decide) (by decide)).trans (congrFun (c.1 133 (by decide)) 44), (fun q q0 q1 => (g.1 q (by omega) (by omega) (by omega) (by omega)).trans (c.1 q (by omega)))⟩) (.inr (fun q q0 q1 => (g.1 q (by omega) (by omega) (by omega) (by omega)).trans (c.1 q (by omega)))) (.inr ⟨(congrFun (g.1 130 (by decide) (by decide) (by decide) (by decide)) 6).trans (c.2.2.2.2.2.2.2.2), (g.1 132 (by decide) (by decide) (by decide) (by decide)).trans (c.1 132 (by decide)), (g.2 49 (by decide) (by decide)).trans (congrFun (c.1 133 (by decide)) 49), (g.1 160 (by decide) (by decide) (by decide) (by decide)).trans (c.1 160 (by decide))⟩) (.inr ⟨fun q q0 q1 => (g.1 q (by omega) (by omega) (by omega) (by omega)).trans (c.1 q (by omega)), (g.1 137 (by decide) (by decide) (by decide) (by decide)).trans (c.1 137 (by decide)), (g.1 141 (by decide) (by decide) (by decide) (by decide)).trans (c.1 141 (by decide)), (g.1 142 (by decide) (by decide) (by decide) (by decide)).trans (c.1 142 (by decide))⟩) (.inr ⟨fun q q0 q1 => (g.1 q (by omega) (by omega) (by omega) (by omega)).trans (c.1 q (by omega)), (g.1 137 (by decide) (by decide) (by decide) (by decide)).trans (c.1 137 (by decide)), (g.1 141 (by decide) (by decide) (by decide) (by decide)).trans (c.1 141 (by decide)), (g.1 142 (by decide) (by decide) (by decide) (by decide)).trans (c.1 142 (by decide))⟩)
  · have hk2 : ¬ (0 ≤ k ∧ k ≤ 1 ∧ μ 142 k ≠ 0) := fun ⟨a, b, c⟩ => hk ⟨a, b, (hO.im a b).iff.mpr c⟩
    refine c_C_unlike (d := 43) (σ := D.1) hD.t (fun a b c => absurd ⟨a, b, c⟩ hk) (fun z => jq_I ?_) (fun a b c => absurd ⟨a, b, c⟩ hk) (fun a b c => absurd ⟨a, b, c⟩ hk)
    exact c_M_unlike (d := 45) (σ := D.1) hD.1.1 hD.ok.2.1.1 (fun a b c => absurd ⟨a, b, c⟩ hk2) (fun _ ν q => ⟨rfl, h.m q⟩) (fun a b c => absurd ⟨a, b, c⟩ hk2) (fun a b c => absurd ⟨a, b, c⟩ hk2)
theorem jS_say {who k : Int} (h : jI μ) : jS E m_X10_say m_X11_say [jm_I who, jm_I k] μ := by
  obtain ⟨⟨D, hD⟩, hO⟩ := id h
  refine c_C_say (d := 55) hD.t (fun z ξ c t => jq_I ?_) (fun z => jq_I (c_M_say (d := 54) hD.ok (fun y => absurd y z) (fun _ ν q => ⟨rfl, h.m q⟩)))
  obtain ⟨⟨⟨w0, w1⟩, ⟨k0, k1⟩, nn⟩, zr⟩ : ((0 ≤ who ∧ who < D.1 0) ∧ (0 ≤ k ∧ k < D.1 1) ∧ D.2.2.1 < 400) ∧ sWr D.1 (sLay D.1 D.2.1 D.2.2.1) who k = 0 := by
    unfold sTry at z
    split at z
    · exact ⟨by assumption, z⟩
    · exact absurd z (by decide)
  have hx := hD.ok.p (c.1 135 (by decide))
  refine c_M_say (d := 54) hx (fun _ ν g => ⟨rfl, ⟨_, hD.talk (w := sSay D.2.1 D.2.2.1 who k) (n := D.2.2.1 + 1) (fun q i hq => ?_) (tTl_ofc (fun q i hq => congrFun (g.1 q (by omega) (by omega) (by omega)) i) t) ?_⟩, ?_⟩) (fun y => absurd z y)
  · by_cases q5 : q = 135
    · subst q5
      exact (g.2.2.1 i (by omega) (by omega) (by omega)).trans (congrFun (c.1 135 (by decide)) i)
    · exact (congrFun (g.1 q (by omega) q5 (by omega)) i).trans (congrFun (c.1 q (by omega)) i)
  · refine ⟨hx.1, ⟨fun i i0 i1 => (g.2.2.1 i (by omega) (by omega) (by omega)).trans (hx.2.1.1 i i0 i1), g.2.2.2.1, fun i i0 i1 => ?_⟩, nn, sVW_say hx.2.2.2 w0 w1 k0 k1 zr⟩
    have i1 : i < 2 * ((D.2.2.1 + 1 : Nat) : Int) := i1
    unfold sSay
    by_cases c1 : i = 2 * (D.2.2.1 : Int)
    · rw [if_pos c1, c1]; exact g.2.2.2.2.1
    · by_cases c2 : i = 2 * (D.2.2.1 : Int) + 1
      · rw [if_neg c1, if_pos c2, c2, show (61 : Int) + (2 * (D.2.2.1 : Int) + 1) = 62 + 2 * D.2.2.1 by omega]; exact g.2.2.2.2.2
      · rw [if_neg c1, if_neg c2]
        exact (g.2.2.1 _ (by omega) (by omega) (by omega)).trans (hx.2.1.2.2 i i0 (by omega))
  · exact hO.of2 (.inr ⟨(congrFun (g.1 1 (by decide) (by decide) (by decide)) 1).trans (c.2.1), (g.1 2 (by decide) (by decide) (by decide)).trans (c.1 2 (by decide)), (g.2.1 2 (by decide)).trans (congrFun (c.1 133 (by decide)) 2), (g.1 134 (by decide) (by decide) (by decide)).trans (c.1 134 (by decide))⟩) (.inr ⟨(congrFun (g.1 1 (by decide) (by decide) (by decide)) 9).trans (c.2.2.2.1), (g.2.1 10 (by decide)).trans (congrFun (c.1 133 (by decide)) 10)⟩) (.inr ⟨(congrFun (g.1 21 (by decide) (by decide) (by decide)) 3).trans (c.2.2.2.2.2.1), (g.2.1 31 (by decide)).trans (congrFun (c.1 133 (by decide)) 31)⟩) (.inr ⟨(congrFun (g.1 130 (by decide) (by decide) (by decide)) 2).trans (c.2.2.2.2.2.2.2.2.1), (g.2.1 45 (by decide)).trans (congrFun (c.1 133 (by decide)) 45)⟩) (.inr ⟨(congrFun (g.1 121 (by decide) (by decide) (by decide)) 6).trans (c.2.2.2.2.2.2.1), (g.1 123 (by decide) (by decide) (by decide)).trans (c.1 123 (by decide)), (g.2.1 52 (by decide)).trans (congrFun (c.1 133 (by decide)) 52), (g.1 162 (by decide) (by decide) (by decide)).trans (c.1 162 (by decide))⟩) (.inr ⟨(congrFun (g.1 124 (by decide) (by decide) (by decide)) 6).trans (c.2.2.2.2.2.2.2.1), (fun q q0 q1 => (g.1 q (by omega) (by omega) (by omega)).trans (c.1 q (by omega))), (g.2.1 44 (by decide)).trans (congrFun (c.1 133 (by decide)) 44), (fun q q0 q1 => (g.1 q (by omega) (by omega) (by omega)).trans (c.1 q (by omega)))⟩) (.inr (fun q q0 q1 => (g.1 q (by omega) (by omega) (by omega)).trans (c.1 q (by omega)))) (.inr ⟨(congrFun (g.1 130 (by decide) (by decide) (by decide)) 6).trans (c.2.2.2.2.2.2.2.2.2), (g.1 132 (by decide) (by decide) (by decide)).trans (c.1 132 (by decide)), (g.2.1 49 (by decide)).trans (congrFun (c.1 133 (by decide)) 49), (g.1 160 (by decide) (by decide) (by decide)).trans (c.1 160 (by decide))⟩) (.inr ⟨fun q q0 q1 => (g.1 q (by omega) (by omega) (by omega)).trans (c.1 q (by omega)), (g.1 137 (by decide) (by decide) (by decide)).trans (c.1 137 (by decide)), (g.1 141 (by decide) (by decide) (by decide)).trans (c.1 141 (by decide)), (g.1 142 (by decide) (by decide) (by decide)).trans (c.1 142 (by decide))⟩) (.inr ⟨fun q q0 q1 => (g.1 q (by omega) (by omega) (by omega)).trans (c.1 q (by omega)), (g.1 137 (by decide) (by decide) (by decide)).trans (c.1 137 (by decide)), (g.1 141 (by decide) (by decide) (by decide)).trans (c.1 141 (by decide)), (g.1 142 (by decide) (by decide) (by decide)).trans (c.1 142 (by decide))⟩)
theorem jS_undo (h : jI μ) : jS E m_X10_undo m_X11_undo [] μ := by
  obtain ⟨⟨D, hD⟩, hO⟩ := id h
  refine c_C_undo (d := 57) hD.t hD.1.2.2.1 hD.1.2.1 (fun z => jq_I (c_M_undo (d := 59) hD.ok.2.1.2.1 hD.1.2.1 (fun _ ν q => ⟨rfl, h.m q⟩) (fun y => absurd z y))) (fun z ξ c t => jq_I ?_)
  have hx := hD.ok.p (c.1 135 (by decide))
  refine c_M_undo (d := 59) hx.2.1.2.1 hD.1.2.1 (fun y => absurd y z) (fun _ ν g g2 g3 g4 => ⟨rfl, ⟨_, hD.talk (w := D.2.1) (n := D.2.2.1 - 1) (fun q i hq => ?_) (tTl_ofc (fun q i hq => congrFun (g q (by omega) (by omega)) i) t) ?_⟩, ?_⟩)
  · by_cases q5 : q = 135
    · subst q5
      exact (g3 i (by omega)).trans (congrFun (c.1 135 (by decide)) i)
    · exact (congrFun (g q (by omega) q5) i).trans (congrFun (c.1 q (by omega)) i)
  · exact ⟨hx.1, ⟨fun i i0 i1 => (g3 i (by omega)).trans (hx.2.1.1 i i0 i1), by rw [g4]; omega, fun i i0 i1 => (g3 _ (by omega)).trans (hx.2.1.2.2 i i0 (by omega))⟩, by have := hx.2.2.1; omega, fun t ht => hx.2.2.2 t (by omega)⟩
  · exact hO.of2 (.inr ⟨(congrFun (g 1 (by decide) (by decide)) 1).trans (c.2.1), (g 2 (by decide) (by decide)).trans (c.1 2 (by decide)), (g2 2 (by decide)).trans (congrFun (c.1 133 (by decide)) 2), (g 134 (by decide) (by decide)).trans (c.1 134 (by decide))⟩) (.inr ⟨(congrFun (g 1 (by decide) (by decide)) 9).trans (c.2.2.2.1), (g2 10 (by decide)).trans (congrFun (c.1 133 (by decide)) 10)⟩) (.inr ⟨(congrFun (g 21 (by decide) (by decide)) 3).trans (c.2.2.2.2.2.1), (g2 31 (by decide)).trans (congrFun (c.1 133 (by decide)) 31)⟩) (.inr ⟨(congrFun (g 130 (by decide) (by decide)) 2).trans (c.2.2.2.2.2.2.2.2.1), (g2 45 (by decide)).trans (congrFun (c.1 133 (by decide)) 45)⟩) (.inr ⟨(congrFun (g 121 (by decide) (by decide)) 6).trans (c.2.2.2.2.2.2.1), (g 123 (by decide) (by decide)).trans (c.1 123 (by decide)), (g2 52 (by decide)).trans (congrFun (c.1 133 (by decide)) 52), (g 162 (by decide) (by decide)).trans (c.1 162 (by decide))⟩) (.inr ⟨(congrFun (g 124 (by decide) (by decide)) 6).trans (c.2.2.2.2.2.2.2.1), (fun q q0 q1 => (g q (by omega) (by omega)).trans (c.1 q (by omega))), (g2 44 (by decide)).trans (congrFun (c.1 133 (by decide)) 44), (fun q q0 q1 => (g q (by omega) (by omega)).trans (c.1 q (by omega)))⟩) (.inr (fun q q0 q1 => (g q (by omega) (by omega)).trans (c.1 q (by omega)))) (.inr ⟨(congrFun (g 130 (by decide) (by decide)) 6).trans (c.2.2.2.2.2.2.2.2.2), (g 132 (by decide) (by decide)).trans (c.1 132 (by decide)), (g2 49 (by decide)).trans (congrFun (c.1 133 (by decide)) 49), (g 160 (by decide) (by decide)).trans (c.1 160 (by decide))⟩) (.inr ⟨fun q q0 q1 => (g q (by omega) (by omega)).trans (c.1 q (by omega)), (g 137 (by decide) (by decide)).trans (c.1 137 (by decide)), (g 141 (by decide) (by decide)).trans (c.1 141 (by decide)), (g 142 (by decide) (by decide)).trans (c.1 142 (by decide))⟩) (.inr ⟨fun q q0 q1 => (g q (by omega) (by omega)).trans (c.1 q (by omega)), (g 137 (by decide) (by decide)).trans (c.1 137 (by decide)), (g 141 (by decide) (by decide)).trans (c.1 141 (by decide)), (g 142 (by decide) (by decide)).trans (c.1 142 (by decide))⟩)
theorem jS_drawn {k x : Int} (h : jI μ) : jS E m_X10_drawn m_X11_drawn [jm_I k, jm_I x] μ := by
  obtain ⟨⟨D, hD⟩, hO⟩ := id h
  refine c_C_drawn (d := 53) hD.t hD.1.2.1 (fun z => jq_I (c_M_drawn (d := 54) hD.ok (fun _ ν q => ⟨rfl, h.m q⟩) (fun a b => absurd ⟨a, b⟩ z))) (fun k0 k1 ξ c t => jq_I ?_)
  have hx := hD.ok.p (c.1 135 (by decide))
  refine c_M_drawn (d := 54) hx (fun z => absurd ⟨k0, k1⟩ z) (fun _ _ ν g hm => ⟨rfl, ⟨_, hD.talk (fun q i hq => ?_) (tTl_ofc (fun q i hq => congrFun (g.1 q (by omega) (by omega) (by omega)) i) t) hm⟩, ?_⟩)
  · by_cases q5 : q = 135
    · subst q5
      exact (g.2.2 i (by omega)).trans (congrFun (c.1 135 (by decide)) i)
    · exact (congrFun (g.1 q (by omega) q5 (by omega)) i).trans (congrFun (c.1 q (by omega)) i)
  · exact hO.of2 (.inr ⟨(congrFun (g.1 1 (by decide) (by decide) (by decide)) 1).trans (c.2.1), (g.1 2 (by decide) (by decide) (by decide)).trans (c.1 2 (by decide)), (g.2.1 2 (by decide) (by decide)).trans (congrFun (c.1 133 (by decide)) 2), (g.1 134 (by decide) (by decide) (by decide)).trans (c.1 134 (by decide))⟩) (.inr ⟨(congrFun (g.1 1 (by decide) (by decide) (by decide)) 9).trans (c.2.2.2.1), (g.2.1 10 (by decide) (by decide)).trans (congrFun (c.1 133 (by decide)) 10)⟩) (.inr ⟨(congrFun (g.1 21 (by decide) (by decide) (by decide)) 3).trans (c.2.2.2.2.2.1), (g.2.1 31 (by decide) (by decide)).trans (congrFun (c.1 133 (by decide)) 31)⟩) (.inr ⟨(congrFun (g.1 130 (by decide) (by decide) (by decide)) 2).trans (c.2.2.2.2.2.2.2.2.1), (g.2.1 45 (by decide) (by decide)).trans (congrFun (c.1 133 (by decide)) 45)⟩) (.inr ⟨(congrFun (g.1 121 (by decide) (by decide) (by decide)) 6).trans (c.2.2.2.2.2.2.1), (g.1 123 (by decide) (by decide) (by decide)).trans (c.1 123 (by decide)), (g.2.1 52 (by decide) (by decide)).trans (congrFun (c.1 133 (by decide)) 52), (g.1 162 (by decide) (by decide) (by decide)).trans (c.1 162 (by decide))⟩) (.inr ⟨(congrFun (g.1 124 (by decide) (by decide) (by decide)) 6).trans (c.2.2.2.2.2.2.2.1), (fun q q0 q1 => (g.1 q (by omega) (by omega) (by omega)).trans (c.1 q (by omega))), (g.2.1 44 (by decide) (by decide)).trans (congrFun (c.1 133 (by decide)) 44), (fun q q0 q1 => (g.1 q (by omega) (by omega) (by omega)).trans (c.1 q (by omega)))⟩) (.inr (fun q q0 q1 => (g.1 q (by omega) (by omega) (by omega)).trans (c.1 q (by omega)))) (.inr ⟨(congrFun (g.1 130 (by decide) (by decide) (by decide)) 6).trans (c.2.2.2.2.2.2.2.2.2), (g.1 132 (by decide) (by decide) (by decide)).trans (c.1 132 (by decide)), (g.2.1 49 (by decide) (by decide)).trans (congrFun (c.1 133 (by decide)) 49), (g.1 160 (by decide) (by decide) (by decide)).trans (c.1 160 (by decide))⟩) (.inr ⟨fun q q0 q1 => (g.1 q (by omega) (by omega) (by omega)).trans (c.1 q (by omega)), (g.1 137 (by decide) (by decide) (by decide)).trans (c.1 137 (by decide)), (g.1 141 (by decide) (by decide) (by decide)).trans (c.1 141 (by decide)), (g.1 142 (by decide) (by decide) (by decide)).trans (c.1 142 (by decide))⟩) (.inr ⟨fun q q0 q1 => (g.1 q (by omega) (by omega) (by omega)).trans (c.1 q (by omega)), (g.1 137 (by decide) (by decide) (by decide)).trans (c.1 137 (by decide)), (g.1 141 (by decide) (by decide) (by decide)).trans (c.1 141 (by decide)), (g.1 142 (by decide) (by decide) (by decide)).trans (c.1 142 (by decide))⟩)
theorem jS_wholes {y : Int} (h : jI μ) : jS E m_X10_wholes m_X11_wholes [jm_I y] μ := by
  obtain ⟨⟨D, hD⟩, hO⟩ := id h
  refine c_C_wholes (d := 15) hD.t hD.tmn hD.1.2.2.2.1 (fun z => jq_I (c_M_wholes (d := 30) hD.1.1 hD.ok.2.1.1 hD.mn hD.1.2.2.2.1 (fun _ ν q => ⟨rfl, h.m q⟩) (fun a b => absurd ⟨a, b⟩ z) (fun a b => absurd ⟨a, b⟩ z))) (fun y0 y1 z => jq_I (c_M_wholes (d := 30) hD.1.1 hD.ok.2.1.1 hD.mn hD.1.2.2.2.1 (fun z => absurd ⟨y0, y1⟩ z) (fun _ _ _ ν q => ⟨rfl, h.m q⟩) (fun _ _ z2 => absurd z (by omega)))) (fun y0 y1 z ξ c s1 s2 s3 => jq_I ?_)
  have c5 := c 135 (by decide) (by decide) (by decide)
  have hx : jD ξ D := hD.of (fun q i hq => congrFun (c q (by omega) (by omega) (by omega)) i)
  refine c_M_wholes (d := 30) hD.1.1 (fun i i0 i1 => by rw [c5]; exact hD.ok.2.1.1 i i0 i1) ⟨by rw [c5]; exact hD.mn.1, by rw [c5]; exact hD.mn.2⟩ hD.1.2.2.2.1 (fun z => absurd ⟨y0, y1⟩ z) (fun _ _ z2 => absurd z (by omega)) (fun _ _ _ _ ν g e1 e2 => ⟨rfl, ⟨D, hx.of (fun q i hq => congrFun (g.1 q (by omega) (by omega)) i)⟩, ?_⟩)
  have h24 : ((if (sWl D.1 D.2.2.2.2.2.1 D.2.2.2.2.2.2.1 y).length = 0 then 0 else sWn D.2.2.2.2.2.1 y : Nat) : Int) ≤ 24 := by
    have := hD.1.2.2.2.1.1
    unfold sWn
    split
    · decide
    · split <;> omega
  have a6 : jA6 ν := ⟨_, h24, (congrFun (g.1 124 (by decide) (by decide)) 6).trans s1, e1, fun f i f0 f1 i0 i1 => by rw [g.1 (127 + f) (by omega) (by omega), s2 f i f0 f1 i0 i1, e2 f i f0 f1 i0 i1]⟩
  have a7 : jA7 ν := fun f i f0 f1 i0 i1 => by rw [g.1 (127 + f) (by omega) (by omega)]; exact s3 f i f0 f1 i0 i1
  exact hO.of2 (.inr ⟨(congrFun (g.1 1 (by decide) (by decide)) 1).trans (congrFun (c 1 (by decide) (by decide) (by decide)) 1), (g.1 2 (by decide) (by decide)).trans (c 2 (by decide) (by decide) (by decide)), (g.2 2 (by decide) (by decide) (by decide) (by decide)).trans (congrFun (c 133 (by decide) (by decide) (by decide)) 2), (g.1 134 (by decide) (by decide)).trans (c 134 (by decide) (by decide) (by decide))⟩) (.inr ⟨(congrFun (g.1 1 (by decide) (by decide)) 9).trans (congrFun (c 1 (by decide) (by decide) (by decide)) 9), (g.2 10 (by decide) (by decide) (by decide) (by decide)).trans (congrFun (c 133 (by decide) (by decide) (by decide)) 10)⟩) (.inr ⟨(congrFun (g.1 21 (by decide) (by decide)) 3).trans (congrFun (c 21 (by decide) (by decide) (by decide)) 3), (g.2 31 (by decide) (by decide) (by decide) (by decide)).trans (congrFun (c 133 (by decide) (by decide) (by decide)) 31)⟩) (.inr ⟨(congrFun (g.1 130 (by decide) (by decide)) 2).trans (congrFun (c 130 (by decide) (by decide) (by decide)) 2), (g.2 45 (by decide) (by decide) (by decide) (by decide)).trans (congrFun (c 133 (by decide) (by decide) (by decide)) 45)⟩) (.inr ⟨(congrFun (g.1 121 (by decide) (by decide)) 6).trans (congrFun (c 121 (by decide) (by decide) (by decide)) 6), (g.1 123 (by decide) (by decide)).trans (c 123 (by decide) (by decide) (by decide)), (g.2 52 (by decide) (by decide) (by decide) (by decide)).trans (congrFun (c 133 (by decide) (by decide) (by decide)) 52), (g.1 162 (by decide) (by decide)).trans (c 162 (by decide) (by decide) (by decide))⟩) (.inl a6) (.inl a7) (.inr ⟨(congrFun (g.1 130 (by decide) (by decide)) 6).trans (congrFun (c 130 (by decide) (by decide) (by decide)) 6), (g.1 132 (by decide) (by decide)).trans (c 132 (by decide) (by decide) (by decide)), (g.2 49 (by decide) (by decide) (by decide) (by decide)).trans (congrFun (c 133 (by decide) (by decide) (by decide)) 49), (g.1 160 (by decide) (by decide)).trans (c 160 (by decide) (by decide) (by decide))⟩) (.inr ⟨fun q q0 q1 => (g.1 q (by omega) (by omega)).trans (c q (by omega) (by omega) (by omega)), (g.1 137 (by decide) (by decide)).trans (c 137 (by decide) (by decide) (by decide)), (g.1 141 (by decide) (by decide)).trans (c 141 (by decide) (by decide) (by decide)), (g.1 142 (by decide) (by decide)).trans (c 142 (by decide) (by decide) (by decide))⟩) (.inr ⟨fun q q0 q1 => (g.1 q (by omega) (by omega)).trans (c q (by omega) (by omega) (by omega)), (g.1 137 (by decide) (by decide)).trans (c 137 (by decide) (by decide) (by decide)), (g.1 141 (by decide) (by decide)).trans (c 141 (by decide) (by decide) (by decide)), (g.1 142 (by decide) (by decide)).trans (c 142 (by decide) (by decide) (by decide))⟩)
theorem jS_hangs (h : jI μ) : jS E m_X10_hangs m_X11_hangs [] μ := by
  obtain ⟨⟨D, hD⟩, hO⟩ := id h
  refine c_C_hangs (d := 15) hD.t hD.tmn hD.1.2.2.2.1 h.2.2.2.2.2.2.2.1 (fun ξ c s1 s2 => jq_I ?_)
  have c5 := c 135 (by decide) (by decide) (by decide)
  have hx : jD ξ D := hD.of (fun q i hq => congrFun (c q (by omega) (by omega) (by omega)) i)
  refine c_M_hangs (d := 30) hD.1.1 (fun i i0 i1 => by rw [c5]; exact hD.ok.2.1.1 i i0 i1) ⟨by rw [c5]; exact hD.mn.1, by rw [c5]; exact hD.mn.2⟩ hD.1.2.2.2.1 (fun ν g => ⟨rfl, ⟨D, hx.of (fun q i hq => congrFun (g.1 q (by omega) (by omega)) i)⟩, ?_⟩)
  have c7 : ∀ q, 127 ≤ q → q ≤ 129 → ν q = μ q := fun q q0 q1 => (g.1 q (by omega) (by omega)).trans (by rcases (show q = 127 ∨ q = 128 ∨ q = 129 by omega) with rfl | rfl | rfl <;> first | exact s2.1 | exact s2.2.1 | exact s2.2.2)
  have a6 : jA6 ν := hO.2.2.2.2.2.1.of (fun q i hq => by
    rcases hq with ⟨rfl, rfl⟩ | hq | ⟨rfl, rfl⟩ | hq
    · exact (congrFun (g.1 124 (by decide) (by decide)) 6).trans s1
    · rw [c7 q hq.1 hq.2]
    · exact (g.2 44 (by decide) (by decide) (by decide)).trans (congrFun (c 133 (by decide) (by decide) (by decide)) 44)
    · rw [g.1 q (by omega) (by omega), c q (by omega) (by omega) (by omega)])
  have a7 : jA7 ν := hO.2.2.2.2.2.2.1.of (fun q i hq => by rw [c7 q hq.1 hq.2])
  exact hO.of2 (.inr ⟨(congrFun (g.1 1 (by decide) (by decide)) 1).trans (congrFun (c 1 (by decide) (by decide) (by decide)) 1), (g.1 2 (by decide) (by decide)).trans (c 2 (by decide) (by decide) (by decide)), (g.2 2 (by decide) (by decide) (by decide)).trans (congrFun (c 133 (by decide) (by decide) (by decide)) 2), (g.1 134 (by decide) (by decide)).trans (c 134 (by decide) (by decide) (by decide))⟩) (.inr ⟨(congrFun (g.1 1 (by decide) (by decide)) 9).trans (congrFun (c 1 (by decide) (by decide) (by decide)) 9), (g.2 10 (by decide) (by decide) (by decide)).trans (congrFun (c 133 (by decide) (by decide) (by decide)) 10)⟩) (.inr ⟨(congrFun (g.1 21 (by decide) (by decide)) 3).trans (congrFun (c 21 (by decide) (by decide) (by decide)) 3), (g.2 31 (by decide) (by decide) (by decide)).trans (congrFun (c 133 (by decide) (by decide) (by decide)) 31)⟩) (.inr ⟨(congrFun (g.1 130 (by decide) (by decide)) 2).trans (congrFun (c 130 (by decide) (by decide) (by decide)) 2), (g.2 45 (by decide) (by decide) (by decide)).trans (congrFun (c 133 (by decide) (by decide) (by decide)) 45)⟩) (.inr ⟨(congrFun (g.1 121 (by decide) (by decide)) 6).trans (congrFun (c 121 (by decide) (by decide) (by decide)) 6), (g.1 123 (by decide) (by decide)).trans (c 123 (by decide) (by decide) (by decide)), (g.2 52 (by decide) (by decide) (by decide)).trans (congrFun (c 133 (by decide) (by decide) (by decide)) 52), (g.1 162 (by decide) (by decide)).trans (c 162 (by decide) (by decide) (by decide))⟩) (.inl a6) (.inl a7) (.inr ⟨(congrFun (g.1 130 (by decide) (by decide)) 6).trans (congrFun (c 130 (by decide) (by decide) (by decide)) 6), (g.1 132 (by decide) (by decide)).trans (c 132 (by decide) (by decide) (by decide)), (g.2 49 (by decide) (by decide) (by decide)).trans (congrFun (c 133 (by decide) (by decide) (by decide)) 49), (g.1 160 (by decide) (by decide)).trans (c 160 (by decide) (by decide) (by decide))⟩) (.inr ⟨fun q q0 q1 => (g.1 q (by omega) (by omega)).trans (c q (by omega) (by omega) (by omega)), (g.1 137 (by decide) (by decide)).trans (c 137 (by decide) (by decide) (by decide)), (g.1 141 (by decide) (by decide)).trans (c 141 (by decide) (by decide) (by decide)), (g.1 142 (by decide) (by decide)).trans (c 142 (by decide) (by decide) (by decide))⟩) (.inr ⟨fun q q0 q1 => (g.1 q (by omega) (by omega)).trans (c q (by omega) (by omega) (by omega)), (g.1 137 (by decide) (by decide)).trans (c 137 (by decide) (by decide) (by decide)), (g.1 141 (by decide) (by decide)).trans (c 141 (by decide) (by decide) (by decide)), (g.1 142 (by decide) (by decide)).trans (c 142 (by decide) (by decide) (by decide))⟩)
theorem jS_mend (h : jI μ) : jS E m_X10_mend m_X11_mend [] μ := by
  obtain ⟨⟨D, hD⟩, hO⟩ := id h
  refine c_C_mend (d := 33) hD.t hD.tmn hD.1.2.2.2.1 (fun z => jq_I (c_M_mend (d := 55) hD.1.1 hD.ok.2.1.1 hD.mn hD.1.2.2.2.1 (fun _ ν q => ⟨rfl, h.m q⟩) (fun a b => absurd ⟨a, b⟩ z))) (fun t0 t1 ξ s c c2 s1 s2 => jq_I ?_)
  have c5 := c 135 (by decide) (by decide) (by decide)
  have hx : jD ξ D := hD.of (fun q i hq => congrFun (c q (by omega) (by omega) (by omega)) i)
  refine c_M_mend (d := 55) hD.1.1 (fun i i0 i1 => by rw [c5]; exact hD.ok.2.1.1 i i0 i1) ⟨by rw [c5]; exact hD.mn.1, by rw [c5]; exact hD.mn.2⟩ hD.1.2.2.2.1 (fun z => absurd ⟨t0, t1⟩ z) (fun _ _ ν s9 g g2 e1 e2 => ?_)
  obtain rfl := sMe_one s2 e2
  refine ⟨rfl, ⟨D, hx.of (fun q i hq => congrFun (g q (by omega) (by omega)) i)⟩, ?_⟩
  have a4 : jA4 ν := by
    show ν 130 2 = ν 133 45
    rw [e1, g 130 (by decide) (by decide)]
    exact s1
  exact hO.of2 (.inr ⟨(congrFun (g 1 (by decide) (by decide)) 1).trans (congrFun (c 1 (by decide) (by decide) (by decide)) 1), (g 2 (by decide) (by decide)).trans (c 2 (by decide) (by decide) (by decide)), (g2 2 (by decide) (by decide)).trans (congrFun (c 133 (by decide) (by decide) (by decide)) 2), (g 134 (by decide) (by decide)).trans (c 134 (by decide) (by decide) (by decide))⟩) (.inr ⟨(congrFun (g 1 (by decide) (by decide)) 9).trans (congrFun (c 1 (by decide) (by decide) (by decide)) 9), (g2 10 (by decide) (by decide)).trans (congrFun (c 133 (by decide) (by decide) (by decide)) 10)⟩) (.inr ⟨(congrFun (g 21 (by decide) (by decide)) 3).trans (congrFun (c 21 (by decide) (by decide) (by decide)) 3), (g2 31 (by decide) (by decide)).trans (congrFun (c 133 (by decide) (by decide) (by decide)) 31)⟩) (.inl a4) (.inr ⟨(congrFun (g 121 (by decide) (by decide)) 6).trans (congrFun (c 121 (by decide) (by decide) (by decide)) 6), (g 123 (by decide) (by decide)).trans (c 123 (by decide) (by decide) (by decide)), (g2 52 (by decide) (by decide)).trans (congrFun (c 133 (by decide) (by decide) (by decide)) 52), (g 162 (by decide) (by decide)).trans (c 162 (by decide) (by decide) (by decide))⟩) (.inr ⟨(congrFun (g 124 (by decide) (by decide)) 6).trans (congrFun (c 124 (by decide) (by decide) (by decide)) 6), (fun q q0 q1 => (g q (by omega) (by omega)).trans (c q (by omega) (by omega) (by omega))), (g2 44 (by decide) (by decide)).trans (congrFun (c 133 (by decide) (by decide) (by decide)) 44), (fun q q0 q1 => (g q (by omega) (by omega)).trans (c q (by omega) (by omega) (by omega)))⟩) (.inr (fun q q0 q1 => (g q (by omega) (by omega)).trans (c q (by omega) (by omega) (by omega)))) (.inr ⟨(congrFun (g 130 (by decide) (by decide)) 6).trans (c2 6 (by decide) (by decide) (by decide)), (g 132 (by decide) (by decide)).trans (c 132 (by decide) (by decide) (by decide)), (g2 49 (by decide) (by decide)).trans (congrFun (c 133 (by decide) (by decide) (by decide)) 49), (g 160 (by decide) (by decide)).trans (c 160 (by decide) (by decide) (by decide))⟩) (.inr ⟨fun q q0 q1 => (g q (by omega) (by omega)).trans (c q (by omega) (by omega) (by omega)), (g 137 (by decide) (by decide)).trans (c 137 (by decide) (by decide) (by decide)), (g 141 (by decide) (by decide)).trans (c 141 (by decide) (by decide) (by decide)), (g 142 (by decide) (by decide)).trans (c 142 (by decide) (by decide) (by decide))⟩) (.inr ⟨fun q q0 q1 => (g q (by omega) (by omega)).trans (c q (by omega) (by omega) (by omega)), (g 137 (by decide) (by decide)).trans (c 137 (by decide) (by decide) (by decide)), (g 141 (by decide) (by decide)).trans (c 141 (by decide) (by decide) (by decide)), (g 142 (by decide) (by decide)).trans (c 142 (by decide) (by decide) (by decide))⟩)
theorem jS_orders (h : jI μ) : jS E m_X10_orders m_X11_orders [] μ := by
  obtain ⟨⟨D, hD⟩, hO⟩ := id h
  refine c_C_orders (d := 43) hD.t hD.tmn hD.1.2.2.2.1 (fun z => jq_I (c_M_orders (d := 48) hD.1.1 hD.ok.2.1.1 hD.mn hD.1.2.2.2.1 (fun _ ν q => ⟨rfl, h.m q⟩) (fun a b => absurd ⟨a, b⟩ z))) (fun t0 t1 ξ c c2 s1 s2 => jq_I ?_)
  have c5 := c 135 (by decide) (by decide) (by decide)
  have hx : jD ξ D := hD.of (fun q i hq => congrFun (c q (by omega) (by omega) (by omega)) i)
  refine c_M_orders (d := 48) hD.1.1 (fun i i0 i1 => by rw [c5]; exact hD.ok.2.1.1 i i0 i1) ⟨by rw [c5]; exact hD.mn.1, by rw [c5]; exact hD.mn.2⟩ hD.1.2.2.2.1 (fun z => absurd ⟨t0, t1⟩ z) (fun _ _ ν g g2 e1 e2 => ⟨rfl, ⟨D, hx.of (fun q i hq => congrFun (g q (by omega) (by omega)) i)⟩, ?_⟩)
  have a8 : jA8 ν := by
    have w6 : ν 130 6 = ξ 130 6 := congrFun (g 130 (by decide) (by decide)) 6
    have w2 : ν 132 = ξ 132 := g 132 (by decide) (by decide)
    cases hl : sOr D.1 D.2.2.2.2.2.1 D.2.2.2.2.2.2.1 D.2.2.2.2.2.1 0 sEmpty with
    | nil =>
      refine hO.2.2.2.2.2.2.2.1.of (fun q i hq => ?_)
      rcases hq with ⟨rfl, rfl⟩ | rfl | ⟨rfl, rfl⟩ | rfl
      · exact w6.trans (s1 hl).1
      · rw [w2, (s1 hl).2]
      · exact (e1 hl).1.trans (congrFun (c 133 (by decide) (by decide) (by decide)) 49)
      · rw [(e1 hl).2, c 160 (by decide) (by decide) (by decide)]
    | cons l L' =>
      have ln := sOr_each D.2.2.2.2.2.1 0 sEmpty l (by rw [hl]; exact List.mem_cons_self)
      have p1 := s2 l L' hl ln
      have p2 := e2 l L' hl ln
      exact ⟨_, by omega, w6.trans p1.1, p2.1, fun i i0 i1 => by rw [w2]; exact sPt_eq p1.2 p2.2 (by rw [ln]) i i0 i1⟩
  exact hO.of2 (.inr ⟨(congrFun (g 1 (by decide) (by decide)) 1).trans (congrFun (c 1 (by decide) (by decide) (by decide)) 1), (g 2 (by decide) (by decide)).trans (c 2 (by decide) (by decide) (by decide)), (g2 2 (by decide) (by decide) (by decide)).trans (congrFun (c 133 (by decide) (by decide) (by decide)) 2), (g 134 (by decide) (by decide)).trans (c 134 (by decide) (by decide) (by decide))⟩) (.inr ⟨(congrFun (g 1 (by decide) (by decide)) 9).trans (congrFun (c 1 (by decide) (by decide) (by decide)) 9), (g2 10 (by decide) (by decide) (by decide)).trans (congrFun (c 133 (by decide) (by decide) (by decide)) 10)⟩) (.inr ⟨(congrFun (g 21 (by decide) (by decide)) 3).trans (congrFun (c 21 (by decide) (by decide) (by decide)) 3), (g2 31 (by decide) (by decide) (by decide)).trans (congrFun (c 133 (by decide) (by decide) (by decide)) 31)⟩) (.inr ⟨(congrFun (g 130 (by decide) (by decide)) 2).trans (c2 2 (by decide) (by decide)), (g2 45 (by decide) (by decide) (by decide)).trans (congrFun (c 133 (by decide) (by decide) (by decide)) 45)⟩) (.inr ⟨(congrFun (g 121 (by decide) (by decide)) 6).trans (congrFun (c 121 (by decide) (by decide) (by decide)) 6), (g 123 (by decide) (by decide)).trans (c 123 (by decide) (by decide) (by decide)), (g2 52 (by decide) (by decide) (by decide)).trans (congrFun (c 133 (by decide) (by decide) (by decide)) 52), (g 162 (by decide) (by decide)).trans (c 162 (by decide) (by decide) (by decide))⟩) (.inr ⟨(congrFun (g 124 (by decide) (by decide)) 6).trans (congrFun (c 124 (by decide) (by decide) (by decide)) 6), (fun q q0 q1 => (g q (by omega) (by omega)).trans (c q (by omega) (by omega) (by omega))), (g2 44 (by decide) (by decide) (by decide)).trans (congrFun (c 133 (by decide) (by decide) (by decide)) 44), (fun q q0 q1 => (g q (by omega) (by omega)).trans (c q (by omega) (by omega) (by omega)))⟩) (.inr (fun q q0 q1 => (g q (by omega) (by omega)).trans (c q (by omega) (by omega) (by omega)))) (.inl a8) (.inr ⟨fun q q0 q1 => (g q (by omega) (by omega)).trans (c q (by omega) (by omega) (by omega)), (g 137 (by decide) (by decide)).trans (c 137 (by decide) (by decide) (by decide)), (g 141 (by decide) (by decide)).trans (c 141 (by decide) (by decide) (by decide)), (g 142 (by decide) (by decide)).trans (c 142 (by decide) (by decide) (by decide))⟩) (.inr ⟨fun q q0 q1 => (g q (by omega) (by omega)).trans (c q (by omega) (by omega) (by omega)), (g 137 (by decide) (by decide)).trans (c 137 (by decide) (by decide) (by decide)), (g 141 (by decide) (by decide)).trans (c 141 (by decide) (by decide) (by decide)), (g 142 (by decide) (by decide)).trans (c 142 (by decide) (by decide) (by decide))⟩)
end JB
