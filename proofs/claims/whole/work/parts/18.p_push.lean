section MB4
variable {E : jm_E} {d : Nat} {μ : jm_M} {Q : Option jm_V → jm_M → Prop} {ρ : sR} {e : Int} {b : sB}
set_option maxHeartbeats 4000000 in
theorem c_M_push {who k : Int} (he : 0 ≤ e ∧ e < 2) (hW : sWR ρ) (hr : mRu μ e ρ) (hb : mBd μ e b) (n0 : 0 ≤ b.2.1) (n1 : b.2.1 < 400) (hd4 : ∀ a, 0 ≤ a → a < b.2.1 → 0 ≤ b.1 4 a ∧ b.1 4 a ≤ 400) (hh : 0 ≤ b.2.2 ∧ b.2.2 ≤ 400) (w0 : 0 ≤ who) (w1 : who < ρ 0) (k0 : 0 ≤ k) (k1 : k < ρ 1) (h : ∀ ν, mBd ν e (sPush ρ b who k) → mFr e μ ν → Q none ν) : jc E m_X11_push (d + 3) [jm_R 133, jm_I e, jm_I who, jm_I k] μ Q := by
  have en : μ 150 e = b.2.1 := hb.1
  have eh : μ 151 e = b.2.2 := hb.2.1
  have hK1 := hW.2.2.2.1
  have hKk := hW.2.2.2.2.2.2.2.2.2.2.2.2 k k0 k1
  have e0 : jm_wr (400 * e) = 400 * e := jm_wr_id (by omega) (by omega)
  have ha := sAns_in (n := b.2.1) (k := k) hW n0 w0 w1
  refine e_X11_push (d := d + 2) (fun _ => ⟨he, fun x hx => c_M_answers he hW hr (by omega) w0 w1 k0 k1 (jq_I (c_M_do he (by omega) hr (jq_I ?_)))⟩)
  rw [en]
  rw [en, e0, jm_wr_id (by omega) (by omega)] at hx
  generalize haa : sAns ρ b.2.1 who k = a at ha
  refine ⟨by omega, fun m8 hm8 m9 hm9 m10 hm10 => ?_⟩
  have wa : a ≠ -1 → jm_wr (jm_wr (400 * e) + a) = 400 * e + a := fun z => by rw [e0, jm_wr_id (by omega) (by omega)]
  refine ⟨fun q1 => ⟨fun q2 => ?_, fun q2 => ?_⟩, fun q1 => ?_⟩
  · have hs0 : (0 : Int) = sS0 (sDo ρ k) := by unfold sS0; rw [if_neg q1, if_neg q2]
    intro m13 hm13
    subst hm8 hm9 hm10
    refine ⟨fun z => ?_, fun z => ?_⟩
    · have s3 : μ 147 (400 * e + a) = b.1 3 a := hb.at (f := 3) rfl (by decide) (by decide) (by omega) (by omega)
      have s4 : μ 148 (400 * e + a) = b.1 4 a := hb.at (f := 4) rfl (by decide) (by decide) (by omega) (by omega)
      have h4 := hd4 a (by omega) (by omega)
      have ne : ¬ (e = x) ∨ e = x := by omega
      rw [wa z]
      refine ⟨by omega, fun m16 hm16 m17 hm17 => ?_⟩
      have t3 : m13 147 (400 * e + a) = b.1 3 a := by subst hm13; simp [jm_up]; exact s3
      have t4 : m16 148 (400 * e + a) = b.1 4 a := by subst hm16 hm13; simp [jm_up]; exact s4
      rw [t3] at hm16
      rw [t4, jm_wr_id (by omega) (by omega)] at hm17
      refine ⟨fun z2 m19 hm19 => ?_, fun z2 => ⟨fun z3 m21 hm21 m22 hm22 => ?_, fun z3 m23 hm23 m24 hm24 => ?_⟩⟩
      · have t5 : m17 150 e = b.2.1 := by subst hm17 hm16 hm13; simp [jm_up]; exact en
        rw [t5, jm_wr_id (by omega) (by omega)] at hm19
        subst hm19 hm17 hm16 hm13
        have f := m_pushA (who := who) (k := k) (s0 := 0) hb he rfl n0 n1 hx haa (by omega) (by omega) hs0 rfl rfl
        exact h _ f.1 f.2
      · have t5 : m21 150 e = b.2.1 := by subst hm21 hm17 hm16 hm13; simp [jm_up]; exact en
        rw [t5, jm_wr_id (by omega) (by omega)] at hm22
        rw [jm_wr_id (by omega) (by omega)] at hm21
        subst hm22 hm21 hm17 hm16 hm13
        have f := m_pushS (who := who) (k := k) (s0 := 0) hb he rfl n0 n1 hx haa (by omega) (by omega) (by omega) hs0 rfl rfl rfl (show _ = sS1 (sDo ρ k) by unfold sS1; rw [if_neg (by omega)])
        exact h _ f.1 f.2
      · have t5 : m23 150 e = b.2.1 := by subst hm23 hm17 hm16 hm13; simp [jm_up]; exact en
        rw [t5, jm_wr_id (by omega) (by omega)] at hm24
        subst hm24 hm23 hm17 hm16 hm13
        have f := m_pushS (who := who) (k := k) (s0 := 0) hb he rfl n0 n1 hx haa (by omega) (by omega) (by omega) hs0 rfl rfl rfl (show _ = sS1 (sDo ρ k) by unfold sS1; rw [if_pos (by omega)])
        exact h _ f.1 f.2
    · intro m25 hm25 m26 hm26 m27 hm27 m28 hm28
      have az : a = -1 := by omega
      have t1 : m13 151 e = b.2.2 := by subst hm13; simp [jm_up]; exact eh
      rw [t1] at hm25
      have t2 : m25 151 e = b.2.2 := by subst hm25 hm13; simp [jm_up]; exact eh
      rw [t2, jm_wr_id (by omega) (by omega)] at hm26
      have t5 : m27 150 e = b.2.1 := by subst hm27 hm26 hm25 hm13; simp [jm_up]; exact en
      rw [t5, jm_wr_id (by omega) (by omega)] at hm28
      subst hm28 hm27 hm26 hm25 hm13
      subst az
      have f := m_pushB (who := who) (k := k) (s0 := 0) hb he rfl rfl n0 n1 hx haa hs0
      exact h _ f.1 f.2
  · have hs0 : (4 : Int) = sS0 (sDo ρ k) := by unfold sS0; rw [if_neg q1, if_pos (by omega)]
    intro m13 hm13
    subst hm8 hm9 hm10
    refine ⟨fun z => ?_, fun z => ?_⟩
    · have s3 : μ 147 (400 * e + a) = b.1 3 a := hb.at (f := 3) rfl (by decide) (by decide) (by omega) (by omega)
      have s4 : μ 148 (400 * e + a) = b.1 4 a := hb.at (f := 4) rfl (by decide) (by decide) (by omega) (by omega)
      have h4 := hd4 a (by omega) (by omega)
      have ne : ¬ (e = x) ∨ e = x := by omega
      rw [wa z]
      refine ⟨by omega, fun m16 hm16 m17 hm17 => ?_⟩
      have t3 : m13 147 (400 * e + a) = b.1 3 a := by subst hm13; simp [jm_up]; exact s3
      have t4 : m16 148 (400 * e + a) = b.1 4 a := by subst hm16 hm13; simp [jm_up]; exact s4
      rw [t3] at hm16
      rw [t4, jm_wr_id (by omega) (by omega)] at hm17
      refine ⟨fun z2 m19 hm19 => ?_, fun z2 => ⟨fun z3 m21 hm21 m22 hm22 => ?_, fun z3 m23 hm23 m24 hm24 => ?_⟩⟩
      · have t5 : m17 150 e = b.2.1 := by subst hm17 hm16 hm13; simp [jm_up]; exact en
        rw [t5, jm_wr_id (by omega) (by omega)] at hm19
        subst hm19 hm17 hm16 hm13
        have f := m_pushA (who := who) (k := k) (s0 := 4) hb he rfl n0 n1 hx haa (by omega) (by omega) hs0 rfl rfl
        exact h _ f.1 f.2
      · have t5 : m21 150 e = b.2.1 := by subst hm21 hm17 hm16 hm13; simp [jm_up]; exact en
        rw [t5, jm_wr_id (by omega) (by omega)] at hm22
        rw [jm_wr_id (by omega) (by omega)] at hm21
        subst hm22 hm21 hm17 hm16 hm13
        have f := m_pushS (who := who) (k := k) (s0 := 4) hb he rfl n0 n1 hx haa (by omega) (by omega) (by omega) hs0 rfl rfl rfl (show _ = sS1 (sDo ρ k) by unfold sS1; rw [if_neg (by omega)])
        exact h _ f.1 f.2
      · have t5 : m23 150 e = b.2.1 := by subst hm23 hm17 hm16 hm13; simp [jm_up]; exact en
        rw [t5, jm_wr_id (by omega) (by omega)] at hm24
        subst hm24 hm23 hm17 hm16 hm13
        have f := m_pushS (who := who) (k := k) (s0 := 4) hb he rfl n0 n1 hx haa (by omega) (by omega) (by omega) hs0 rfl rfl rfl (show _ = sS1 (sDo ρ k) by unfold sS1; rw [if_pos (by omega)])
        exact h _ f.1 f.2
    · intro m25 hm25 m26 hm26 m27 hm27 m28 hm28
      have az : a = -1 := by omega
      have t1 : m13 151 e = b.2.2 := by subst hm13; simp [jm_up]; exact eh
      rw [t1] at hm25
      have t2 : m25 151 e = b.2.2 := by subst hm25 hm13; simp [jm_up]; exact eh
      rw [t2, jm_wr_id (by omega) (by omega)] at hm26
      have t5 : m27 150 e = b.2.1 := by subst hm27 hm26 hm25 hm13; simp [jm_up]; exact en
      rw [t5, jm_wr_id (by omega) (by omega)] at hm28
      subst hm28 hm27 hm26 hm25 hm13
      subst az
      have f := m_pushB (who := who) (k := k) (s0 := 4) hb he rfl rfl n0 n1 hx haa hs0
      exact h _ f.1 f.2
  · have hs0 : (1 : Int) = sS0 (sDo ρ k) := by unfold sS0; rw [if_pos (by omega)]
    intro m13 hm13
    subst hm8 hm9 hm10
    refine ⟨fun z => ?_, fun z => ?_⟩
    · have s3 : μ 147 (400 * e + a) = b.1 3 a := hb.at (f := 3) rfl (by decide) (by decide) (by omega) (by omega)
      have s4 : μ 148 (400 * e + a) = b.1 4 a := hb.at (f := 4) rfl (by decide) (by decide) (by omega) (by omega)
      have h4 := hd4 a (by omega) (by omega)
      have ne : ¬ (e = x) ∨ e = x := by omega
      rw [wa z]
      refine ⟨by omega, fun m16 hm16 m17 hm17 => ?_⟩
      have t3 : m13 147 (400 * e + a) = b.1 3 a := by subst hm13; simp [jm_up]; exact s3
      have t4 : m16 148 (400 * e + a) = b.1 4 a := by subst hm16 hm13; simp [jm_up]; exact s4
      rw [t3] at hm16
      rw [t4, jm_wr_id (by omega) (by omega)] at hm17
      refine ⟨fun z2 m19 hm19 => ?_, fun z2 => ⟨fun z3 m21 hm21 m22 hm22 => ?_, fun z3 m23 hm23 m24 hm24 => ?_⟩⟩
      · have t5 : m17 150 e = b.2.1 := by subst hm17 hm16 hm13; simp [jm_up]; exact en
        rw [t5, jm_wr_id (by omega) (by omega)] at hm19
        subst hm19 hm17 hm16 hm13
        have f := m_pushA (who := who) (k := k) (s0 := 1) hb he rfl n0 n1 hx haa (by omega) (by omega) hs0 rfl rfl
        exact h _ f.1 f.2
      · have t5 : m21 150 e = b.2.1 := by subst hm21 hm17 hm16 hm13; simp [jm_up]; exact en
        rw [t5, jm_wr_id (by omega) (by omega)] at hm22
        rw [jm_wr_id (by omega) (by omega)] at hm21
        subst hm22 hm21 hm17 hm16 hm13
        have f := m_pushS (who := who) (k := k) (s0 := 1) hb he rfl n0 n1 hx haa (by omega) (by omega) (by omega) hs0 rfl rfl rfl (show _ = sS1 (sDo ρ k) by unfold sS1; rw [if_neg (by omega)])
        exact h _ f.1 f.2
      · have t5 : m23 150 e = b.2.1 := by subst hm23 hm17 hm16 hm13; simp [jm_up]; exact en
        rw [t5, jm_wr_id (by omega) (by omega)] at hm24
        subst hm24 hm23 hm17 hm16 hm13
        have f := m_pushS (who := who) (k := k) (s0 := 1) hb he rfl n0 n1 hx haa (by omega) (by omega) (by omega) hs0 rfl rfl rfl (show _ = sS1 (sDo ρ k) by unfold sS1; rw [if_pos (by omega)])
        exact h _ f.1 f.2
    · intro m25 hm25 m26 hm26 m27 hm27 m28 hm28
      have az : a = -1 := by omega
      have t1 : m13 151 e = b.2.2 := by subst hm13; simp [jm_up]; exact eh
      rw [t1] at hm25
      have t2 : m25 151 e = b.2.2 := by subst hm25 hm13; simp [jm_up]; exact eh
      rw [t2, jm_wr_id (by omega) (by omega)] at hm26
      have t5 : m27 150 e = b.2.1 := by subst hm27 hm26 hm25 hm13; simp [jm_up]; exact en
      rw [t5, jm_wr_id (by omega) (by omega)] at hm28
      subst hm28 hm27 hm26 hm25 hm13
      subst az
      have f := m_pushB (who := who) (k := k) (s0 := 1) hb he rfl rfl n0 n1 hx haa hs0
      exact h _ f.1 f.2
end MB4
