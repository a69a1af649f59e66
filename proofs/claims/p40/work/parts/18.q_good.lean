/-! good boards stay good -/
theorem sWr0 {ρ : sR} {b : sB} {who k a : Int} (ha : sAns ρ b.2.1 who k = a) (h : sWr ρ b who k = 0) : (a = -1 ∧ sDo ρ k < 2) ∨ (a ≠ -1 ∧ (sDo ρ k < 2 ∨ (2 ≤ sDo ρ k ∧ sDo ρ k < 4 ∧ b.1 5 a = 1) ∨ (4 ≤ sDo ρ k ∧ b.1 5 a = 4))) := by
  unfold sWr at h
  rw [ha] at h
  split at h
  · omega
  · split at h
    · rename_i h1
      split at h
      · omega
      · unfold sWN at h
        split at h
        · exact Or.inl ⟨h1, by assumption⟩
        · omega
    · rename_i h1
      refine Or.inr ⟨h1, ?_⟩
      unfold sW2 at h
      split at h
      · omega
      · unfold sW3 at h
        split at h
        · omega
        · unfold sW4 at h
          split at h
          · exact Or.inl (by assumption)
          · split at h
            · split at h
              · exact Or.inr (Or.inl ⟨by omega, by assumption, by assumption⟩)
              · omega
            · split at h
              · omega
              · rename_i h5
                refine Or.inr (Or.inr ⟨by omega, ?_⟩)
                by_cases h6 : b.1 5 a = 4
                · exact h6
                · exact absurd (Or.inl h6) h5
theorem sPush_5 {ρ : sR} {b : sB} {who k a t : Int} (ha : sAns ρ b.2.1 who k = a) (al : a < b.2.1) : (sPush ρ b who k).1 5 t = if t = a ∧ a ≠ -1 ∧ 1 < sDo ρ k then sS1 (sDo ρ k) else if t = b.2.1 then sS0 (sDo ρ k) else b.1 5 t := by
  by_cases hc : a ≠ -1 ∧ 1 < sDo ρ k
  · by_cases hta : t = a
    · simp [sPush, ha, hc, hta, sUp2]
    · by_cases htn : t = b.2.1 <;> simp [sPush, ha, hc, hta, htn, sUp2]
      try (intro e; omega)
  · have hc2 : ¬ (t = a ∧ a ≠ -1 ∧ 1 < sDo ρ k) := fun z => hc z.2
    rw [if_neg hc2]
    by_cases htn : t = b.2.1 <;> simp [sPush, ha, hc, htn, sUp2]
theorem sPush_f {ρ : sR} {b : sB} {who k a t f : Int} (ha : sAns ρ b.2.1 who k = a) (hf : f ≠ 5) (ht : t ≠ b.2.1) : (sPush ρ b who k).1 f t = b.1 f t := by
  by_cases hc : a ≠ -1 ∧ 1 < sDo ρ k <;> simp [sPush, ha, hc, ht, hf, sUp2]
theorem sPush_n {ρ : sR} {b : sB} {who k a : Int} (ha : sAns ρ b.2.1 who k = a) : (sPush ρ b who k).1 0 b.2.1 = who ∧ (sPush ρ b who k).1 1 b.2.1 = k ∧ (sPush ρ b who k).1 2 b.2.1 = a ∧ (sPush ρ b who k).1 3 b.2.1 = (if a = -1 then b.2.2 else b.1 3 a) ∧ (sPush ρ b who k).1 4 b.2.1 = (if a = -1 then 0 else b.1 4 a + 1) := by
  by_cases hc : a ≠ -1 ∧ 1 < sDo ρ k <;> simp [sPush, ha, hc, sUp2]
theorem sPush_c {ρ : sR} {b : sB} {who k a : Int} (ha : sAns ρ b.2.1 who k = a) : (sPush ρ b who k).2.1 = b.2.1 + 1 ∧ (sPush ρ b who k).2.2 = (if a = -1 then b.2.2 + 1 else b.2.2) := by
  simp [sPush, ha]
theorem sGB_push {ρ : sR} {b : sB} {who k : Int} (hW : sWR ρ) (hG : sGB ρ b) (n1 : b.2.1 < 400) (w0 : 0 ≤ who) (w1 : who < ρ 0) (k0 : 0 ≤ k) (k1 : k < ρ 1) (hw : sWr ρ b who k = 0) : sGB ρ (sPush ρ b who k) := by
  obtain ⟨g0, g1, g2, g3, g4⟩ := hG
  have hKk := hW.2.2.2.2.2.2.2.2.2.2.2.2 k k0 k1
  have hin := sAns_in (n := b.2.1) (k := k) hW g0 w0 w1
  generalize ha : sAns ρ b.2.1 who k = a at hin
  have h0 := sWr0 ha hw
  have hc := sPush_c ha
  have hn := sPush_n ha
  have al : a < b.2.1 := by omega
  unfold sGB
  rw [hc.1, hc.2]
  refine ⟨by omega, by omega, by split <;> omega, by split <;> omega, fun t t0 t1 => ?_⟩
  rw [sPush_5 ha al]
  by_cases ht : t = b.2.1
  · subst ht
    rw [hn.1, hn.2.1, hn.2.2.1, hn.2.2.2.1, hn.2.2.2.2]
    rw [if_neg (show ¬ (b.2.1 = a ∧ a ≠ -1 ∧ 1 < sDo ρ k) by omega), if_pos (rfl : b.2.1 = b.2.1)]
    refine ⟨⟨w0, w1⟩, ⟨k0, k1⟩, by omega, ?_, ?_, fun d1 => ?_, fun d2 => ?_, fun d1 d2 => ?_⟩
    · split
      · omega
      · have := g4 a (by omega) (by omega)
        omega
    · split
      · omega
      · have := g4 a (by omega) (by omega)
        omega
    · unfold sS0; rw [if_pos d1]; omega
    · unfold sS0; rw [if_neg (by omega), if_pos d2]; omega
    · unfold sS0; rw [if_neg d1, if_neg d2]
  · have gt := g4 t t0 (by omega)
    rw [sPush_f ha (by decide) ht, sPush_f ha (by decide) ht, sPush_f ha (by decide) ht, sPush_f ha (by decide) ht, sPush_f ha (by decide) ht, if_neg ht]
    refine ⟨gt.1, gt.2.1, gt.2.2.1, ⟨gt.2.2.2.1.1, by have := gt.2.2.2.1.2; split <;> omega⟩, gt.2.2.2.2.1, ?_⟩
    have gs := gt.2.2.2.2.2
    by_cases hta : t = a ∧ a ≠ -1 ∧ 1 < sDo ρ k
    · rw [if_pos hta]
      obtain ⟨rfl, q1, q2⟩ := hta
      have h1 : (sDo ρ k < 4 ∧ b.1 5 t = 1) ∨ (4 ≤ sDo ρ k ∧ b.1 5 t = 4) := by omega
      have e1 : (sDo ρ k < 4 ∧ sS1 (sDo ρ k) = sDo ρ k) ∨ (4 ≤ sDo ρ k ∧ sS1 (sDo ρ k) = sDo ρ k + 1) := by
        unfold sS1; split
        · exact Or.inl ⟨by assumption, rfl⟩
        · exact Or.inr ⟨by omega, rfl⟩
      by_cases d1 : sDo ρ (b.1 1 t) = 1
      · have := gs.1 d1
        exact ⟨fun _ => by omega, fun z => by omega, fun z => by omega⟩
      · by_cases d2 : sDo ρ (b.1 1 t) = 2
        · have := gs.2.1 d2
          exact ⟨fun z => by omega, fun _ => by omega, fun _ z => by omega⟩
        · have := gs.2.2 d1 d2
          omega
    · rw [if_neg hta]
      exact gs
theorem sGB_0 {ρ : sR} : sGB ρ sEmpty := ⟨by decide, by decide, by decide, by decide, fun t t0 t1 => absurd t1 (by simp [sEmpty]; omega)⟩
/-- words that are not wrong, one behind the other -/
def sVW (ρ : sR) (w : Int → Int) (n : Nat) : Prop := ∀ t : Nat, t < n → (0 ≤ w (2 * t) ∧ w (2 * t) < ρ 0) ∧ (0 ≤ w (2 * t + 1) ∧ w (2 * t + 1) < ρ 1) ∧ sWr ρ (sLay ρ w t) (w (2 * t)) (w (2 * t + 1)) = 0
theorem sLay_n {ρ : sR} {w : Int → Int} : ∀ n : Nat, (sLay ρ w n).2.1 = n
  | 0 => rfl
  | n + 1 => by
    have := sLay_n (ρ := ρ) (w := w) n
    show (sPush ρ (sLay ρ w n) (w (2 * n)) (w (2 * n + 1))).2.1 = _
    rw [(sPush_c rfl).1, this]
    omega
theorem sLay_good {ρ : sR} {w : Int → Int} (hW : sWR ρ) : ∀ n : Nat, n ≤ 400 → sVW ρ w n → sGB ρ (sLay ρ w n)
  | 0, _, _ => sGB_0
  | n + 1, hn, hv => by
    have h1 := sLay_good hW n (by omega) (fun t ht => hv t (by omega))
    have h2 := hv n (by omega)
    have h3 := sLay_n (ρ := ρ) (w := w) n
    exact sGB_push hW h1 (by omega) h2.1.1 h2.1.2 h2.2.1.1 h2.2.1.2 h2.2.2
theorem sLay_ext {ρ : sR} {w w' : Int → Int} : ∀ n : Nat, (∀ i : Int, 0 ≤ i → i < 2 * n → w i = w' i) → sLay ρ w n = sLay ρ w' n
  | 0, _ => rfl
  | n + 1, h => by
    have h1 := sLay_ext (ρ := ρ) (w := w) (w' := w') n (fun i i0 i1 => h i i0 (by omega))
    show sPush ρ (sLay ρ w n) (w (2 * n)) (w (2 * n + 1)) = sPush ρ (sLay ρ w' n) (w' (2 * n)) (w' (2 * n + 1))
    rw [h1, h (2 * n) (by omega) (by omega), h (2 * n + 1) (by omega) (by omega)]

