/-! calls of the class -/
/-- what the class holds, but for the talk's words, and all that the reference holds, are as they were -/
def cE (μ ν : jm_M) : Prop := (∀ q, (q = 0 ∨ 2 ≤ q ∧ q ≤ 11 ∨ 22 ≤ q ∧ q ≤ 30 ∨ 69 ≤ q ∧ q ≤ 71 ∨ 75 ≤ q ∧ q ≤ 78 ∨ 83 ≤ q ∧ q ≤ 120 ∨ q = 123 ∨ 127 ≤ q ∧ q ≤ 129 ∨ 132 ≤ q) → ν q = μ q) ∧
  ν 1 1 = μ 1 1 ∧ ν 1 7 = μ 1 7 ∧ ν 1 9 = μ 1 9 ∧ ν 21 0 = μ 21 0 ∧ ν 21 3 = μ 21 3 ∧ ν 121 6 = μ 121 6 ∧ ν 124 6 = μ 124 6 ∧ ν 130 2 = μ 130 2 ∧ ν 130 6 = μ 130 6
theorem cE.rfl {μ : jm_M} : cE μ μ := ⟨fun _ _ => Eq.refl _, Eq.refl _, Eq.refl _, Eq.refl _, Eq.refl _, Eq.refl _, Eq.refl _, Eq.refl _, Eq.refl _, Eq.refl _⟩
theorem cE_tFr {μ ν : jm_M} {a : Int} (ha : a = 21 ∨ a = 37 ∨ a = 53) (h : tFr a μ ν) : cE μ ν := by
  have o : ∀ q, q ≠ a → q < a + 10 ∨ a + 15 < q → ν q = μ q := h.1
  have e21 : ∀ j, j ≠ 1 → j ≠ 2 → ν 21 j = μ 21 j := fun j j1 j2 => by
    by_cases e : a = 21
    · subst e; exact h.2 j j1 j2
    · rw [o 21 (fun q => e q.symm) (by omega)]
  have e1 := o 1 (by omega) (by omega)
  have e2 := o 121 (by omega) (by omega)
  have e3 := o 124 (by omega) (by omega)
  have e4 := o 130 (by omega) (by omega)
  exact ⟨fun q hq => o q (by omega) (by omega), by rw [e1], by rw [e1], by rw [e1], e21 0 (by decide) (by decide), e21 3 (by decide) (by decide), by rw [e2], by rw [e3], by rw [e4], by rw [e4]⟩
/-- the table and the talk as they lie in the class -/
def tTl (μ : jm_M) (ρ : sR) (w : Int → Int) (n : Nat) : Prop := tRu μ 3 ρ ∧ ∃ p, (p = 3 ∨ p = 22) ∧ tA μ ρ 21 p 400 (sLay ρ w n)
theorem sFw_try {ρ : sR} {w : Int → Int} {n : Nat} {who k : Int} : sFw ρ (sLay ρ w n) 400 who k = sTry ρ w n who k := by
  unfold sFw sTry
  rw [sLay_n]
  by_cases h : n < 400
  · by_cases h2 : (0 ≤ who ∧ who < ρ 0) ∧ (0 ≤ k ∧ k < ρ 1)
    · rw [if_pos ⟨h2.1, h2.2, by omega⟩, if_pos ⟨h2.1, h2.2, h⟩]
    · rw [if_neg (fun q => h2 ⟨q.1, q.2.1⟩), if_neg (fun q => h2 ⟨q.1, q.2.1⟩)]
  · rw [if_neg (fun q => h (by omega)), if_neg (fun q => h q.2.2)]
section CA
variable {E : jm_E} {d : Nat} {μ : jm_M} {Q : Option jm_V → jm_M → Prop} {ρ : sR} {w : Int → Int} {n : Nat}
theorem c_C_fault (h : Q (some (jm_I (μ 1 9))) μ) : jc E m_X10_fault (d + 1) [jm_R 0] μ Q := e_X10_fault (fun _ => h)
theorem c_C_why (h : Q (some (jm_I (μ 21 3))) μ) : jc E m_X10_why (d + 1) [jm_R 0] μ Q := e_X10_why (fun _ => h)
theorem c_C_mended (h : Q (some (jm_I (μ 130 2))) μ) : jc E m_X10_mended (d + 1) [jm_R 0] μ Q := e_X10_mended (fun _ => h)
theorem c_C_rank {v : Int} (h0 : tTl μ ρ w n) (h : Q (some (jm_I (if 0 ≤ v ∧ v < ρ 0 then ρ (12 + v) else -1))) μ) : jc E m_X10_rank (d + 2) [jm_R 0, jm_I v] μ Q := by
  obtain ⟨hr, p, hp3, hA⟩ := h0
  have h8 := hA.2.2.1.2.1
  refine e_X10_rank (d := d + 1) (fun _ => c_T_hasWho is_3 hA.2.2.1 hr (fun v0 v1 => jq_Z (jb_f (by decide) ⟨by omega, ?_⟩)) (fun z => jq_Z (jb_t rfl ?_)))
  · rw [if_pos ⟨v0, v1⟩] at h
    have e : μ 5 v = ρ (12 + v) := hr.2.2.2.2.2.2.2.2.1 v v0 v1
    rw [e]
    exact h
  · rw [if_neg z] at h; exact h
theorem c_C_wrong {who k : Int} (h0 : tTl μ ρ w n) (h : Q (some (jm_I (sTry ρ w n who k))) μ) : jc E m_X10_wrong (d + 5) [jm_R 0, jm_I who, jm_I k] μ Q := by
  obtain ⟨hr, p, hp3, hA⟩ := h0
  refine e_X10_wrong (d := d + 4) (fun _ => c_T_flaw hA (jq_I ?_))
  rw [sFw_try]
  exact h
theorem c_C_say {who k : Int} (h0 : tTl μ ρ w n) (h1 : sTry ρ w n who k = 0 → ∀ ν, cE μ ν → tTl ν ρ (sSay w n who k) (n + 1) → Q (some (jm_I 0)) ν) (h2 : sTry ρ w n who k ≠ 0 → Q (some (jm_I (sTry ρ w n who k))) μ) : jc E m_X10_say (d + 5) [jm_R 0, jm_I who, jm_I k] μ Q := by
  obtain ⟨hr, p, hp3, hA⟩ := h0
  refine e_X10_say (d := d + 4) (fun _ => c_T_flaw hA (jq_I ?_))
  rw [sFw_try]
  refine ⟨h2, fun z => ?_⟩
  have z' := Decidable.not_not.mp z
  have hz := sFw_in (c := 400) (show sFw ρ (sLay ρ w n) 400 who k = 0 by rw [sFw_try]; exact z')
  rw [z']
  refine c_T_add hA hz.2.2.1 hz.1.1 hz.1.2 hz.2.1.1 hz.2.1.2 hz.2.2.2 (fun ν A f _ => h1 z' ν (cE_tFr (Or.inl rfl) f) ⟨tRu_of (fun q q0 q1 => f.1 q (by omega) (by omega)) hr, p, hp3, ?_⟩)
  rw [sLay_say]
  exact A
theorem c_C_may {who : Int} (h0 : tTl μ ρ w n) (h1 : ¬ (0 ≤ who ∧ who < ρ 0) → Q (some (jm_I (-1))) μ) (h2 : 0 ≤ who → who < ρ 0 → Q (some (jm_I (if n < 400 then sMsk (fun k => decide (sWr ρ (sLay ρ w n) who k = 0)) (ρ 1).toNat 0 0 else 0))) μ) : jc E m_X10_may (d + 6) [jm_R 0, jm_I who] μ Q := by
  obtain ⟨hr, p, hp3, hA⟩ := h0
  have hK := hA.2.2.1.2.2.1
  refine e_X10_may (d := d + 5) (fun _ => c_T_hasWho is_3 hA.2.2.1 hr (fun v0 v1 => jq_Z (jb_f (by decide) (c_T_choices hA v0 v1 (jq_I ?_)))) (fun z => jq_Z (jb_t rfl (h1 z))))
  have e : sCh ρ (sLay ρ w n) 400 who = if n < 400 then sMsk (fun k => decide (sWr ρ (sLay ρ w n) who k = 0)) (ρ 1).toNat 0 0 else 0 := by
    unfold sCh
    by_cases q : n < 400
    · rw [if_pos q]
      refine sMsk_ext _ _ _ (fun k k0 k1 => ?_)
      rw [sFw_0 v0 v1 k0 (by omega) (by rw [sLay_n]; omega)]
    · rw [if_neg q]
      refine sMsk_z _ _ _ (fun k _ _ => ?_)
      rw [decide_eq_false]
      unfold sFw
      rw [sLay_n, if_neg (fun z => q (by omega))]
      decide
  rw [e]
  exact h2 v0 v1
theorem c_C_undo (h0 : tTl μ ρ w n) (hV : sVW ρ w n) (hn : n ≤ 400) (h1 : n = 0 → Q (some (jm_I (-1))) μ) (h2 : n ≠ 0 → ∀ ν, cE μ ν → tTl ν ρ w (n - 1) → Q (some (jm_I (n - 1))) ν) : jc E m_X10_undo (d + 3) [jm_R 0] μ Q := by
  obtain ⟨hr, p, hp3, hA⟩ := h0
  have e1 : μ 21 1 = n := by rw [hA.2.2.2.2.1.1, sLay_n]
  refine e_X10_undo (d := d + 2) (fun _ => ?_)
  rw [e1]
  refine ⟨fun z => ?_, fun z => h1 (by omega)⟩
  obtain ⟨m, rfl⟩ : ∃ m, n = m + 1 := ⟨n - 1, by omega⟩
  have hm := hV m (by omega)
  have hG := sLay_good hA.2.2.1 m (by omega) (fun t ht => hV t (by omega))
  refine c_T_back (b := sLay ρ w m) hA hG hm.1.1 hm.1.2 hm.2.1.1 hm.2.1.2 hm.2.2 (fun ν A f _ => ?_)
  rw [A.2.2.2.2.1.1, sLay_n]
  have := h2 (by omega) ν (cE_tFr (Or.inl rfl) f) ⟨tRu_of (fun q q0 q1 => f.1 q (by omega) (by omega)) hr, p, hp3, A⟩
  rw [show ((m + 1 : Nat) : Int) - 1 = (m : Int) by omega] at this
  exact this
theorem c_C_threads (h0 : tTl μ ρ w n) (h : Q (some (jm_I (sLay ρ w n).2.2)) μ) : jc E m_X10_threads (d + 1) [jm_R 0] μ Q := by
  obtain ⟨hr, p, hp3, hA⟩ := h0
  refine e_X10_threads (fun _ => ?_)
  rw [hA.2.2.2.2.1.2.1]
  exact h
theorem c_C_spoke {who k : Int} (h0 : tTl μ ρ w n) (h : Q (some (jm_I (if (who = -1 ∨ 0 ≤ who ∧ who < ρ 0) ∧ (k = -1 ∨ 0 ≤ k ∧ k < ρ 1) then sCnt (sSpk (sLay ρ w n) who k) n 0 0 else -1))) μ) : jc E m_X10_spoke (d + 5) [jm_R 0, jm_I who, jm_I k] μ Q := by
  obtain ⟨hr, p, hp3, hA⟩ := h0
  have hW := hA.2.2.1
  have hn := hA.2.2.2.2.2.1.2.1
  rw [sLay_n] at hn
  have key : ∀ (m : Nat) (t c : Int), t + m = n → 0 ≤ t → 0 ≤ c → c ≤ t → Q (some (jm_I (sCnt (sSpk (sLay ρ w n) who k) m t c))) μ → jg E m_X10_spoke (d + 4) 39 [some (jm_R 0), some (jm_I who), some (jm_I k), some (jm_I c), some (jm_I t), none] [] μ Q := by
    intro m
    induction m with
    | zero =>
      intro t c g1 g2 g3 g4 g5
      refine r_X10_spoke_39 (d := d + 4) ?_
      rw [hA.2.2.2.2.1.1, sLay_n]
      exact ⟨fun _ => g5, fun z => absurd z (by omega)⟩
    | succ m ih =>
      intro t c g1 g2 g3 g4 g5
      rw [sCnt] at g5
      have t1 : t < (sLay ρ w n).2.1 := by rw [sLay_n]; omega
      have off : sSpk (sLay ρ w n) who k t = false → jg E m_X10_spoke (d + 4) 39 [some (jm_R 0), some (jm_I who), some (jm_I k), some (jm_I c), some (jm_I (jm_wr (t + 1))), none] [] μ Q := fun q => by
        rw [q] at g5
        rw [jm_wr_id (by omega) (by omega)]
        exact ih (t + 1) c (by omega) (by omega) g3 (by omega) g5
      have on : sSpk (sLay ρ w n) who k t = true → jg E m_X10_spoke (d + 4) 39 [some (jm_R 0), some (jm_I who), some (jm_I k), some (jm_I (jm_wr (c + 1))), some (jm_I (jm_wr (t + 1))), none] [] μ Q := fun q => by
        rw [q, if_pos rfl] at g5
        rw [jm_wr_id (by omega) (by omega), jm_wr_id (by omega) (by omega)]
        exact ih (t + 1) (c + 1) (by omega) (by omega) (by omega) (by omega) g5
      have two : (who = -1 ∨ (sLay ρ w n).1 0 t = who) → jg E m_X10_spoke (d + 4) 70 [some (jm_R 0), some (jm_I who), some (jm_I k), some (jm_I c), some (jm_I t), none] [] μ Q := fun q => by
        refine r_X10_spoke_70 (d := d + 4) ⟨fun z => on (by unfold sSpk; rw [decide_eq_true ⟨q, Or.inl z⟩]), fun z => c_T_tell hA g2 t1 (by decide) (by decide) (jq_I ?_)⟩
        have e1 : sWord ρ (sLay ρ w n) t 1 = (sLay ρ w n).1 1 t := rfl
        rw [e1]
        exact ⟨fun z2 => off (by unfold sSpk; rw [decide_eq_false (fun y => y.2.elim z z2)]), fun z2 => on (by unfold sSpk; rw [decide_eq_true ⟨q, Or.inr (Decidable.not_not.mp z2)⟩])⟩
      refine r_X10_spoke_39 (d := d + 4) ?_
      rw [hA.2.2.2.2.1.1, sLay_n]
      refine ⟨fun z => absurd z (by omega), fun _ => ⟨fun z => two (Or.inl z), fun z => c_T_tell hA g2 t1 (by decide) (by decide) (jq_I ?_)⟩⟩
      have e0 : sWord ρ (sLay ρ w n) t 0 = (sLay ρ w n).1 0 t := rfl
      rw [e0]
      exact ⟨fun z2 => off (by unfold sSpk; rw [decide_eq_false (fun y => y.1.elim z z2)]), fun z2 => two (Or.inr (Decidable.not_not.mp z2))⟩
  have second : (who = -1 ∨ 0 ≤ who ∧ who < ρ 0) → jg E m_X10_spoke (d + 4) 16 [some (jm_R 0), some (jm_I who), some (jm_I k), none, none, none] [] μ Q := fun q => by
    refine r_X10_spoke_16 (d := d + 4) ⟨fun z => ?_, fun z => c_T_hasKind is_3 hW hr (fun k0 k1 => jq_Z (jb_t (by decide) ?_)) (fun y => jq_Z (jb_f (by decide) ?_))⟩
    · rw [if_pos ⟨q, Or.inl z⟩] at h
      exact key n 0 0 (by omega) (by decide) (by decide) (by decide) h
    · rw [if_pos ⟨q, Or.inr ⟨k0, k1⟩⟩] at h
      exact key n 0 0 (by omega) (by decide) (by decide) (by decide) h
    · rw [if_neg (fun x => x.2.elim z y)] at h; exact h
  refine e_X10_spoke (d := d + 4) (fun _ => ⟨fun z => second (Or.inl z), fun z => c_T_hasWho is_3 hW hr (fun v0 v1 => jq_Z (jb_f (by decide) (second (Or.inr ⟨v0, v1⟩)))) (fun y => jq_Z (jb_t rfl ?_))⟩)
  rw [if_neg (fun x => x.1.elim z y)] at h; exact h
end CA
