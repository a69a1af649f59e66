section TD
variable {E : jm_E} {d : Nat} {μ : jm_M} {Q : Option jm_V → jm_M → Prop} {ρ : sR} {a p c : Int} {b : sB}
/-- the memory behind an add, by its ways -/
theorem t_addB {who k s0 n h : Int} (hb : tBd μ a b) (ha0 : a = 21 ∨ a = 37 ∨ a = 53) (hn : n = b.2.1) (hh : h = b.2.2) (n0 : 0 ≤ n) (ha : sAns ρ n who k = -1) (hs : s0 = sS0 (sDo ρ k)) :
    tBd (jm_up (jm_up (jm_up (jm_up (jm_up (jm_up (jm_up (jm_up μ (a + 10) n who) (a + 11) n k) (a + 12) n (-1)) (a + 15) n s0) (a + 13) n h) (a + 14) n 0) a 2 (h + 1)) a 1 (n + 1)) a (sPush ρ b who k) ∧ tFr a μ (jm_up (jm_up (jm_up (jm_up (jm_up (jm_up (jm_up (jm_up μ (a + 10) n who) (a + 11) n k) (a + 12) n (-1)) (a + 15) n s0) (a + 13) n h) (a + 14) n 0) a 2 (h + 1)) a 1 (n + 1)) := by
  subst hn hh hs
  refine ⟨⟨?_, ?_, ?_⟩, fun q q1 q2 => ?_, fun i i1 i2 => ?_⟩
  · simp [jm_up, sPush]
  · simp [jm_up, sPush, ha]
  · intro f t f0 f1 t0 t1
    have t2 : t < b.2.1 + 1 := t1
    by_cases ht : t = b.2.1
    · subst ht
      rcases ha0 with rfl | rfl | rfl <;> rcases (show f = 0 ∨ f = 1 ∨ f = 2 ∨ f = 3 ∨ f = 4 ∨ f = 5 by omega) with rfl | rfl | rfl | rfl | rfl | rfl <;> simp [jm_up, sPush, sUp2, ha]
    · have h3 := hb.2.2 f t f0 f1 t0 (by omega)
      rcases ha0 with rfl | rfl | rfl <;> rcases (show f = 0 ∨ f = 1 ∨ f = 2 ∨ f = 3 ∨ f = 4 ∨ f = 5 by omega) with rfl | rfl | rfl | rfl | rfl | rfl <;> simp [jm_up, sPush, sUp2, ha, ht] at h3 ⊢ <;> exact h3
  · rw [jm_up_ne q1, jm_up_ne q1, jm_up_ne (by omega), jm_up_ne (by omega), jm_up_ne (by omega), jm_up_ne (by omega), jm_up_ne (by omega), jm_up_ne (by omega)]
  · rw [jm_up_i i1, jm_up_i i2, jm_up_lj (by omega), jm_up_lj (by omega), jm_up_lj (by omega), jm_up_lj (by omega), jm_up_lj (by omega), jm_up_lj (by omega)]
theorem t_addA {who k s0 n t0 thr dep : Int} (hb : tBd μ a b) (ha0 : a = 21 ∨ a = 37 ∨ a = 53) (hn : n = b.2.1) (n0 : 0 ≤ n) (ha : sAns ρ n who k = t0) (a0 : 0 ≤ t0) (hd : sDo ρ k ≤ 1) (hs : s0 = sS0 (sDo ρ k)) (ht : thr = b.1 3 t0) (hdp : dep = b.1 4 t0 + 1) :
    tBd (jm_up (jm_up (jm_up (jm_up (jm_up (jm_up (jm_up μ (a + 10) n who) (a + 11) n k) (a + 12) n t0) (a + 15) n s0) (a + 13) n thr) (a + 14) n dep) a 1 (n + 1)) a (sPush ρ b who k) ∧ tFr a μ (jm_up (jm_up (jm_up (jm_up (jm_up (jm_up (jm_up μ (a + 10) n who) (a + 11) n k) (a + 12) n t0) (a + 15) n s0) (a + 13) n thr) (a + 14) n dep) a 1 (n + 1)) := by
  subst hn hs ht hdp
  have hd2 : ¬ (1 < sDo ρ k) := by omega
  have ha1 : ¬ (t0 = -1) := by omega
  refine ⟨⟨?_, ?_, ?_⟩, fun q q1 q2 => ?_, fun i i1 i2 => ?_⟩
  · simp [jm_up, sPush]
  · have := hb.2.1
    rcases ha0 with rfl | rfl | rfl <;> simp [jm_up, sPush, ha, ha1] <;> exact this
  · intro f t f0 f1 t00 t1
    have t2 : t < b.2.1 + 1 := t1
    by_cases ht : t = b.2.1
    · subst ht
      rcases ha0 with rfl | rfl | rfl <;> rcases (show f = 0 ∨ f = 1 ∨ f = 2 ∨ f = 3 ∨ f = 4 ∨ f = 5 by omega) with rfl | rfl | rfl | rfl | rfl | rfl <;> simp [jm_up, sPush, sUp2, ha, ha1, hd2]
    · have h3 := hb.2.2 f t f0 f1 t00 (by omega)
      rcases ha0 with rfl | rfl | rfl <;> rcases (show f = 0 ∨ f = 1 ∨ f = 2 ∨ f = 3 ∨ f = 4 ∨ f = 5 by omega) with rfl | rfl | rfl | rfl | rfl | rfl <;> simp [jm_up, sPush, sUp2, ha, ha1, hd2, ht] at h3 ⊢ <;> exact h3
  · rw [jm_up_ne q1, jm_up_ne (by omega), jm_up_ne (by omega), jm_up_ne (by omega), jm_up_ne (by omega), jm_up_ne (by omega), jm_up_ne (by omega)]
  · rw [jm_up_i i1, jm_up_lj (by omega), jm_up_lj (by omega), jm_up_lj (by omega), jm_up_lj (by omega), jm_up_lj (by omega), jm_up_lj (by omega)]
theorem t_addS {who k s0 s1 n t0 thr dep : Int} (hb : tBd μ a b) (ha0 : a = 21 ∨ a = 37 ∨ a = 53) (hn : n = b.2.1) (n0 : 0 ≤ n) (ha : sAns ρ n who k = t0) (a0 : 0 ≤ t0) (al : t0 < n) (hd : 1 < sDo ρ k) (hs : s0 = sS0 (sDo ρ k)) (ht : thr = b.1 3 t0) (hdp : dep = b.1 4 t0 + 1) (hs1 : s1 = sS1 (sDo ρ k)) :
    tBd (jm_up (jm_up (jm_up (jm_up (jm_up (jm_up (jm_up (jm_up μ (a + 10) n who) (a + 11) n k) (a + 12) n t0) (a + 15) n s0) (a + 13) n thr) (a + 14) n dep) (a + 15) t0 s1) a 1 (n + 1)) a (sPush ρ b who k) ∧ tFr a μ (jm_up (jm_up (jm_up (jm_up (jm_up (jm_up (jm_up (jm_up μ (a + 10) n who) (a + 11) n k) (a + 12) n t0) (a + 15) n s0) (a + 13) n thr) (a + 14) n dep) (a + 15) t0 s1) a 1 (n + 1)) := by
  subst hn hs ht hdp hs1
  have ha1 : ¬ (t0 = -1) := by omega
  refine ⟨⟨?_, ?_, ?_⟩, fun q q1 q2 => ?_, fun i i1 i2 => ?_⟩
  · simp [jm_up, sPush]
  · have := hb.2.1
    rcases ha0 with rfl | rfl | rfl <;> simp [jm_up, sPush, ha, ha1] <;> exact this
  · intro f t f0 f1 t00 t1
    have t2 : t < b.2.1 + 1 := t1
    by_cases ht : t = b.2.1
    · subst ht
      have hz3 : ¬ (b.2.1 = t0) := by omega
      rcases ha0 with rfl | rfl | rfl <;> rcases (show f = 0 ∨ f = 1 ∨ f = 2 ∨ f = 3 ∨ f = 4 ∨ f = 5 by omega) with rfl | rfl | rfl | rfl | rfl | rfl <;> simp [jm_up, sPush, sUp2, ha, ha1, hd, hz3]
    · have h3 := hb.2.2 f t f0 f1 t00 (by omega)
      by_cases hta : t = t0
      · subst hta
        rcases ha0 with rfl | rfl | rfl <;> rcases (show f = 0 ∨ f = 1 ∨ f = 2 ∨ f = 3 ∨ f = 4 ∨ f = 5 by omega) with rfl | rfl | rfl | rfl | rfl | rfl <;> simp [jm_up, sPush, sUp2, ha, ha1, hd, ht] at h3 ⊢ <;> exact h3
      · rcases ha0 with rfl | rfl | rfl <;> rcases (show f = 0 ∨ f = 1 ∨ f = 2 ∨ f = 3 ∨ f = 4 ∨ f = 5 by omega) with rfl | rfl | rfl | rfl | rfl | rfl <;> simp [jm_up, sPush, sUp2, ha, ha1, hd, ht, hta] at h3 ⊢ <;> exact h3
  · rw [jm_up_ne q1, jm_up_ne (by omega), jm_up_ne (by omega), jm_up_ne (by omega), jm_up_ne (by omega), jm_up_ne (by omega), jm_up_ne (by omega), jm_up_ne (by omega)]
  · rw [jm_up_i i1, jm_up_lj (by omega), jm_up_lj (by omega), jm_up_lj (by omega), jm_up_lj (by omega), jm_up_lj (by omega), jm_up_lj (by omega), jm_up_lj (by omega)]
set_option maxHeartbeats 4000000 in
theorem c_T_add {who k : Int} (h0 : tA μ ρ a p c b) (hn : b.2.1 < c) (w0 : 0 ≤ who) (w1 : who < ρ 0) (k0 : 0 ≤ k) (k1 : k < ρ 1) (hw : sWr ρ b who k = 0) (h : ∀ ν, tA ν ρ a p c (sPush ρ b who k) → tFr a μ ν → Q none ν) : jc E m_X6_add (d + 3) [jm_R a, jm_I who, jm_I k] μ Q := by
  have h00 := h0
  obtain ⟨hP, hp, hW, hr, hb, hG, hc⟩ := h0
  have hG0 := hG.1
  have hG1 := hG.2.1
  have hG2 := hG.2.2.1
  have hG3 := hG.2.2.2.1
  have hcc := hP.c
  have ha := h00.ans (k := k) w0 w1
  have hKk := hW.2.2.2.2.2.2.2.2.2.2.2.2 k k0 k1
  have hG' := sGB_push hW hG (by omega) w0 w1 k0 k1 hw
  have fin : ∀ ν, tBd ν a (sPush ρ b who k) ∧ tFr a μ ν → Q none ν := fun ν q => h ν (h00.fr q.2 q.1 hG' (by rw [(sPush_c rfl).1]; omega)) q.2
  refine e_X6_add (d := d + 2) (fun _ => ⟨hP.i6, ?_⟩)
  rw [hb.1, hP.sn]
  refine ⟨fun _ => c_T_heardBy h00 w0 w1 k0 k1 (jq_I ?_), fun z => absurd hn z⟩
  generalize haa : sAns ρ b.2.1 who k = t at ha ⊢
  rw [hp]
  refine ⟨hP.i5, c_T_do hP.i5 hW hr k0 k1 (jq_I ?_)⟩
  rw [hb.1]
  have a1 : ∀ (ξ : jm_M) (q i v : Int), a + 10 ≤ q → ξ a 1 = b.2.1 → jm_up ξ q i v a 1 = b.2.1 := fun ξ q i v hq hx => by rw [jm_up_lj (by omega)]; exact hx
  refine ⟨by omega, fun m9 hm9 => ?_⟩
  have n9 : m9 a 1 = b.2.1 := by rw [hm9]; exact a1 _ _ _ _ (by omega) hb.1
  rw [n9]
  refine ⟨by omega, fun m11 hm11 => ?_⟩
  have n11 : m11 a 1 = b.2.1 := by rw [hm11]; exact a1 _ _ _ _ (by omega) n9
  rw [n11]
  refine ⟨by omega, fun m13 hm13 => ?_⟩
  have n13 : m13 a 1 = b.2.1 := by rw [hm13]; exact a1 _ _ _ _ (by omega) n11
  rw [n13]
  have tail : ∀ (s0 : Int), s0 = sS0 (sDo ρ k) → ∀ m17, m17 = jm_up m13 (a + 15) b.2.1 s0 →
      m17 a 1 = b.2.1 ∧ m17 a 2 = b.2.2 ∧ (0 ≤ t → m17 (a + 13) t = b.1 3 t) ∧ (0 ≤ t → m17 (a + 14) t = b.1 4 t) ∧ (0 ≤ t → 0 ≤ b.1 4 t ∧ b.1 4 t ≤ 400) := by
    intro s0 hs m17 hm17
    refine ⟨by rw [hm17]; exact a1 _ _ _ _ (by omega) n13, ?_, fun z => ?_, fun z => ?_, fun z => ?_⟩
    · rw [hm17, jm_up_lj (by omega), hm13, jm_up_lj (by omega), hm11, jm_up_lj (by omega), hm9, jm_up_lj (by omega)]; exact hb.2.1
    · rw [hm17, jm_up_lj (by omega), hm13, jm_up_lj (by omega), hm11, jm_up_lj (by omega), hm9, jm_up_lj (by omega)]; exact hb.at (f := 3) (by omega) (by decide) (by decide) z (by omega)
    · rw [hm17, jm_up_lj (by omega), hm13, jm_up_lj (by omega), hm11, jm_up_lj (by omega), hm9, jm_up_lj (by omega)]; exact hb.at (f := 4) (by omega) (by decide) (by decide) z (by omega)
    · have := (hG.2.2.2.2 t z (by omega)).2.2.2.2.1; omega
  have has : ∀ (m17 : jm_M) (F : Option jm_V → jm_M → Prop), m17 a 1 = b.2.1 → (0 ≤ t → F (some (jm_I 1)) m17) → (t = -1 → F (some (jm_I 0)) m17) → jc E m_X6_has (d + 2) [jm_R a, jm_I t] m17 F := by
    intro m17 F e1 q1 q0
    refine e_X6_has (fun _ => ?_)
    rw [e1]
    exact ⟨fun z => q0 (by omega), fun z => ⟨hP.i6, fun z1 => absurd z1 (by omega), fun _ => q1 (by omega)⟩⟩
  have w4 : 0 ≤ t → jm_wr (b.1 4 t + 1) = b.1 4 t + 1 := fun z => by
    have := (hG.2.2.2.2 t z (by omega)).2.2.2.2.1
    exact jm_wr_id (by omega) (by omega)
  -- the rest of each way
  have wayB : ∀ (s0 : Int), s0 = sS0 (sDo ρ k) → t = -1 → ∀ m17, m17 = jm_up m13 (a + 15) b.2.1 s0 → (0 ≤ m17 a 1 ∧ m17 a 1 < c) ∧ ∀ m23, m23 = jm_up m17 (a + 13) (m17 a 1) (m17 a 2) → (0 ≤ m23 a 1 ∧ m23 a 1 < c) ∧ ∀ m25, m25 = jm_up m23 (a + 14) (m23 a 1) 0 → Q none (jm_up (jm_up m25 a 2 (jm_wr (m25 a 2 + 1))) a 1 (jm_wr (m25 a 1 + 1))) := by
    intro s0 hs ht m17 hm17
    have T := tail s0 hs m17 hm17
    rw [T.1, T.2.1]
    refine ⟨by omega, fun m23 hm23 => ?_⟩
    have n23 : m23 a 1 = b.2.1 := by rw [hm23]; exact a1 _ _ _ _ (by omega) T.1
    rw [n23]
    refine ⟨by omega, fun m25 hm25 => ?_⟩
    have n25 : m25 a 1 = b.2.1 := by rw [hm25]; exact a1 _ _ _ _ (by omega) n23
    have b25 : m25 a 2 = b.2.2 := by rw [hm25, jm_up_lj (by omega), hm23, jm_up_lj (by omega)]; exact T.2.1
    rw [n25, b25, jm_wr_id (by omega) (by omega), jm_wr_id (by omega) (by omega), hm25, hm23, hm17, hm13, hm11, hm9, ht]
    exact fin _ (t_addB hb hP.1 rfl rfl hG0 (haa.trans ht) hs)
  have wayA : ∀ (s0 : Int), s0 = sS0 (sDo ρ k) → 0 ≤ t → ∀ m17, m17 = jm_up m13 (a + 15) b.2.1 s0 → (0 ≤ t ∧ t < c) ∧ (0 ≤ m17 a 1 ∧ m17 a 1 < c) ∧ ∀ m28, m28 = jm_up m17 (a + 13) (m17 a 1) (m17 (a + 13) t) → (0 ≤ m28 a 1 ∧ m28 a 1 < c) ∧ ∀ m30, m30 = jm_up m28 (a + 14) (m28 a 1) (jm_wr (m28 (a + 14) t + 1)) →
      ((sDo ρ k < 2 → Q none (jm_up m30 a 1 (jm_wr (m30 a 1 + 1)))) ∧ (¬ (sDo ρ k < 2) → ((3 < sDo ρ k → ∀ m33, m33 = jm_up m30 (a + 15) t (jm_wr (sDo ρ k + 1)) → Q none (jm_up m33 a 1 (jm_wr (m33 a 1 + 1)))) ∧ (¬ (3 < sDo ρ k) → ∀ m34, m34 = jm_up m30 (a + 15) t (sDo ρ k) → Q none (jm_up m34 a 1 (jm_wr (m34 a 1 + 1))))))) := by
    intro s0 hs ht m17 hm17
    have T := tail s0 hs m17 hm17
    rw [T.1, T.2.2.1 ht]
    refine ⟨by omega, by omega, fun m28 hm28 => ?_⟩
    have n28 : m28 a 1 = b.2.1 := by rw [hm28]; exact a1 _ _ _ _ (by omega) T.1
    have d28 : m28 (a + 14) t = b.1 4 t := by rw [hm28, jm_up_lj (by omega)]; exact T.2.2.2.1 ht
    rw [n28, d28, w4 ht]
    refine ⟨by omega, fun m30 hm30 => ?_⟩
    have n30 : m30 a 1 = b.2.1 := by rw [hm30]; exact a1 _ _ _ _ (by omega) n28
    refine ⟨fun z => ?_, fun z => ⟨fun z3 m33 hm33 => ?_, fun z3 m34 hm34 => ?_⟩⟩
    · rw [n30, jm_wr_id (by omega) (by omega), hm30, hm28, hm17, hm13, hm11, hm9]
      exact fin _ (t_addA hb hP.1 rfl hG0 haa ht (by omega) hs rfl rfl)
    · have n33 : m33 a 1 = b.2.1 := by rw [hm33]; exact a1 _ _ _ _ (by omega) n30
      rw [n33, jm_wr_id (by omega) (by omega), hm33, jm_wr_id (by omega) (by omega), hm30, hm28, hm17, hm13, hm11, hm9]
      exact fin _ (t_addS hb hP.1 rfl hG0 haa ht (by omega) (by omega) hs rfl rfl (by unfold sS1; rw [if_neg (by omega)]))
    · have n34 : m34 a 1 = b.2.1 := by rw [hm34]; exact a1 _ _ _ _ (by omega) n30
      rw [n34, jm_wr_id (by omega) (by omega), hm34, hm30, hm28, hm17, hm13, hm11, hm9]
      exact fin _ (t_addS hb hP.1 rfl hG0 haa ht (by omega) (by omega) hs rfl rfl (by unfold sS1; rw [if_pos (by omega)]))
  refine ⟨fun q1 => ⟨fun q2 => ⟨by omega, fun m17 hm17 => ?_⟩, fun q2 => ⟨by omega, fun m17 hm17 => ?_⟩⟩, fun q1 => ⟨by omega, fun m17 hm17 => ?_⟩⟩
  · have hs : (0 : Int) = sS0 (sDo ρ k) := by unfold sS0; rw [if_neg q1, if_neg q2]
    exact has _ _ (tail _ hs _ hm17).1 (fun z => jq_Z (jb_f (by decide) (wayA _ hs z _ hm17))) (fun z => jq_Z (jb_t rfl (wayB _ hs z _ hm17)))
  · have hs : (4 : Int) = sS0 (sDo ρ k) := by unfold sS0; rw [if_neg q1, if_pos (by omega)]
    exact has _ _ (tail _ hs _ hm17).1 (fun z => jq_Z (jb_f (by decide) (wayA _ hs z _ hm17))) (fun z => jq_Z (jb_t rfl (wayB _ hs z _ hm17)))
  · have hs : (1 : Int) = sS0 (sDo ρ k) := by unfold sS0; rw [if_pos (by omega)]
    exact has _ _ (tail _ hs _ hm17).1 (fun z => jq_Z (jb_f (by decide) (wayA _ hs z _ hm17))) (fun z => jq_Z (jb_t rfl (wayB _ hs z _ hm17)))
theorem c_T_back {who k : Int} (h0 : tA μ ρ a p c (sPush ρ b who k)) (hG : sGB ρ b) (w0 : 0 ≤ who) (w1 : who < ρ 0) (k0 : 0 ≤ k) (k1 : k < ρ 1) (hw : sWr ρ b who k = 0) (h : ∀ ν, tA ν ρ a p c b → tFr a μ ν → Q none ν) : jc E m_X6_takeBack (d + 2) [jm_R a] μ Q := by
  have h00 := h0
  obtain ⟨hP, hp, hW, hr, hb, hG', hc⟩ := h0
  have hin := sAns_in (n := b.2.1) (k := k) hW hG.1 w0 w1
  obtain ⟨g0, g1, g2, g3, g4⟩ := hG
  have hGG : sGB ρ b := ⟨g0, g1, g2, g3, g4⟩
  have hK1 := hW.2.2.2.1
  have hcc := hP.c
  generalize ha : sAns ρ b.2.1 who k = t at hin
  have hwr := sWr0 ha hw
  have hpc := sPush_c ha
  have hn := sPush_n ha
  have al : t < b.2.1 := by omega
  have en : μ a 1 = b.2.1 + 1 := hb.1.trans hpc.1
  have eh : μ a 2 = if t = -1 then b.2.2 + 1 else b.2.2 := hb.2.1.trans hpc.2
  have n1 : b.2.1 + 1 ≤ c := by rw [← hpc.1]; exact hc
  have s2 : μ (a + 12) b.2.1 = t := (hb.at (f := 2) (by omega) (by decide) (by decide) g0 (by omega)).trans hn.2.2.1
  have s1 : μ (a + 11) b.2.1 = k := (hb.at (f := 1) (by omega) (by decide) (by decide) g0 (by omega)).trans hn.2.1
  have old : ∀ f u, 0 ≤ f → f ≤ 5 → 0 ≤ u → u < b.2.1 → (f ≠ 5 ∨ ¬ (u = t ∧ t ≠ -1 ∧ 1 < sDo ρ k)) → μ (a + 10 + f) u = b.1 f u := by
    intro f u f0 f1 u0 u1 hx
    rw [hb.2.2 f u f0 f1 u0 (by omega)]
    by_cases h5 : f = 5
    · subst h5
      rw [sPush_5 ha al, if_neg (by omega), if_neg (by omega)]
    · exact sPush_f ha h5 (by omega)
  have fin : ∀ ν, tBd ν a b → tFr a μ ν → Q none ν := fun ν q1 q2 => h ν (h00.fr q2 q1 hGG (by omega)) q2
  refine e_X6_takeBack (d := d + 1) (fun _ => ⟨hP.i6, ?_⟩)
  rw [en, hP.sn, jm_wr_id (by omega) (by omega), show b.2.1 + 1 - 1 = b.2.1 by omega, s2]
  refine ⟨fun z => absurd z (by omega), fun _ => ⟨fun _ => ⟨by omega, fun x hx => ?_⟩, fun z => absurd n1 z⟩⟩
  subst hx
  have u1 : jm_up μ a 1 b.2.1 a 1 = b.2.1 := jm_up_at
  have uo : ∀ q i, a < q → jm_up μ a 1 b.2.1 q i = μ q i := fun q i hq => jm_up_lj (by omega)
  have f1 : tFr a μ (jm_up μ a 1 b.2.1) := ⟨fun q q1 _ => jm_up_ne q1, fun i i1 _ => jm_up_i i1⟩
  have hr1 : tRu (jm_up μ a 1 b.2.1) p ρ := tRu_of (fun q q0 q1 => jm_up_ne (hP.sep q q0 q1).1) hr
  refine e_X6_has (fun _ => ?_)
  rw [u1]
  have up0 : jm_up μ a 1 b.2.1 a 0 = p := by rw [jm_up_i (by decide)]; exact hp
  refine ⟨fun z => jq_Z (jb_f (by decide) ?_), fun z => ⟨hP.i6, fun z1 => absurd z1 (by omega), fun _ => jq_Z (jb_t (by decide) ?_)⟩⟩
  · have az : x = -1 := by omega
    have e2 : jm_up μ a 1 b.2.1 a 2 = b.2.2 + 1 := by rw [jm_up_i (by decide), eh, if_pos az]
    rw [e2, jm_wr_id (by omega) (by omega), show b.2.2 + 1 - 1 = b.2.2 by omega]
    refine fin _ ⟨?_, jm_up_at, fun f u f0 f1 u0 u1' => ?_⟩ ⟨fun q q1 _ => by rw [jm_up_ne q1, jm_up_ne q1], fun i i1 i2 => by rw [jm_up_i i2, jm_up_i i1]⟩
    · rw [jm_up_i (by decide)]; exact u1
    · rw [jm_up_lj (by omega), jm_up_lj (by omega)]
      exact old f u f0 f1 u0 u1' (by omega)
  · have e2 : jm_up μ a 1 b.2.1 a 2 = b.2.2 := by rw [jm_up_i (by decide), eh, if_neg (by omega)]
    rw [up0, uo _ _ (by omega), s1]
    refine ⟨by omega, hP.i5, c_T_do hP.i5 hW hr1 k0 k1 (jq_I ?_)⟩
    have way : ∀ v, 1 < sDo ρ k → v = b.1 5 x → ∀ m17, m17 = jm_up (jm_up μ a 1 b.2.1) (a + 15) x v → Q none m17 := by
      intro v hd hv m17 hm
      subst hm
      refine fin _ ⟨?_, ?_, fun f u f0 f1' u0 u1' => ?_⟩ ⟨fun q q1 q2 => by rw [jm_up_ne (by omega), jm_up_ne q1], fun i i1 i2 => by rw [jm_up_lj (by omega), jm_up_i i1]⟩
      · rw [jm_up_lj (by omega)]; exact u1
      · rw [jm_up_lj (by omega)]; exact e2
      · by_cases h5 : f = 5
        · subst h5
          rw [show a + 10 + 5 = a + 15 by omega]
          by_cases hu : u = x
          · rw [hu, jm_up_at]; exact hv
          · rw [jm_up_i hu, uo _ _ (by omega)]
            have := old 5 u (by decide) (by decide) u0 u1' (Or.inr (fun q => hu q.1))
            rwa [show a + 10 + 5 = a + 15 by omega] at this
        · rw [jm_up_lj (by omega), uo _ _ (by omega)]
          exact old f u f0 f1' u0 u1' (Or.inl h5)
    refine ⟨fun z2 => ?_, fun z2 => ⟨fun z3 => ⟨by omega, fun m17 hm => ?_⟩, fun z3 => ⟨by omega, fun m17 hm => ?_⟩⟩⟩
    · refine fin _ ⟨u1, e2, fun f u f0 f1' u0 u1' => ?_⟩ f1
      rw [uo _ _ (by omega)]
      exact old f u f0 f1' u0 u1' (Or.inr (by omega))
    · exact way 4 (by omega) (by omega) m17 hm
    · exact way 1 (by omega) (by omega) m17 hm
end TD
