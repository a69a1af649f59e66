/-! letters by 32 that a word can have -/
def sCc : Nat → Nat → Prop
  | 0, c => c = 0
  | f + 1, c => c = 0 ∨ (1 ≤ c % 32 ∧ c % 32 ≤ 26 ∧ sCc f (c / 32))
theorem sCc_up : ∀ (f c : Nat), sCc f c → sCc (f + 1) c
  | 0, c, h => Or.inl h
  | f + 1, c, h => by
    rcases h with h | ⟨h1, h2, h3⟩
    · exact Or.inl h
    · exact Or.inr ⟨h1, h2, sCc_up f _ h3⟩
theorem sCc_le {f g c : Nat} (hg : f ≤ g) (h : sCc f c) : sCc g c := by
  induction g with
  | zero =>
    have : f = 0 := by omega
    subst this; exact h
  | succ g ih =>
    by_cases e : f = g + 1
    · subst e; exact h
    · exact sCc_up g c (ih (by omega))
/-- a name's number -/
def sNv (v : Int) : Prop := 0 < v ∧ sCc 8 v.toNat
theorem sRu_cc {τ : Int → Int} {n : Int} : ∀ (f : Nat) (p : Int) (a : Nat) (b L V : Int), 0 ≤ L → sCc a L.toNat → (1 ≤ a → 0 < L) → 0 ≤ (sRu τ n f p a b L V).2.2.2.1 ∧ ∃ a' : Nat, (sRu τ n f p a b L V).2.1 = a' ∧ sCc a' (sRu τ n f p a b L V).2.2.2.1.toNat ∧ (1 ≤ a' → 0 < (sRu τ n f p a b L V).2.2.2.1)
  | 0, p, a, b, L, V, l0, hc, hp => ⟨l0, a, rfl, hc, hp⟩
  | f + 1, p, a, b, L, V, l0, hc, hp => by
    unfold sRu
    split
    · split
      · rename_i hl
        have := sLt_iff.mp hl
        have ih := sRu_cc (τ := τ) (n := n) f (p + 1) (a + 1) b (L * 32 + (τ p - 96)) V (by omega) (Or.inr ?_) (fun _ => by omega)
        · rw [show ((a + 1 : Nat) : Int) = (a : Int) + 1 by omega] at ih
          exact ih
        · have e : (L * 32 + (τ p - 96)).toNat = L.toNat * 32 + (τ p - 96).toNat := by omega
          rw [e, show (L.toNat * 32 + (τ p - 96).toNat) % 32 = (τ p - 96).toNat by omega, show (L.toNat * 32 + (τ p - 96).toNat) / 32 = L.toNat by omega]
          exact ⟨by omega, by omega, hc⟩
      · split
        · exact sRu_cc f (p + 1) a (b + 1) L (V * 10 + (τ p - 48)) l0 hc hp
        · exact ⟨l0, a, rfl, hc, hp⟩
    · exact ⟨l0, a, rfl, hc, hp⟩
theorem sRu_go {τ : Int → Int} {n q : Int} (hq : q < n) (hc : (sLt (τ q) || sDg (τ q)) = true) : q < (sRu τ n 940 q 0 0 0 0).1 ∧ 1 ≤ (sRu τ n 940 q 0 0 0 0).2.1 + (sRu τ n 940 q 0 0 0 0).2.2.1 := by
  rw [show (940 : Nat) = 939 + 1 from rfl, sRu, if_pos hq]
  by_cases hl : sLt (τ q) = true
  · rw [if_pos hl]
    have := sRu_ge (τ := τ) (n := n) 939 (q + 1) (0 + 1) 0 (0 * 32 + (τ q - 96)) 0
    omega
  · rw [if_neg hl, if_pos (by cases h : sLt (τ q); rw [h] at hc; exact hc; exact absurd h hl)]
    have := sRu_ge (τ := τ) (n := n) 939 (q + 1) 0 (0 + 1) 0 (0 * 10 + (τ q - 48))
    omega
theorem sTok_nx {τ : Int → Int} {n lim p : Int} (p0 : 0 ≤ p) (p1 : p ≤ n) (h : 2 ≤ (sTok τ n lim p).1) : p < (sTok τ n lim p).2.2.1 ∧ (sTok τ n lim p).2.2.1 ≤ n := by
  have sk := sSkp_ge (τ := τ) (n := n) 940 p
  unfold sTok at *
  by_cases c1 : lim < n ∧ lim ≤ sSkp τ n 940 p
  · rw [if_pos c1] at h; exact absurd (show (2 : Int) ≤ 1 from h) (by decide)
  · rw [if_neg c1] at h ⊢
    by_cases c2 : n ≤ sSkp τ n 940 p
    · rw [if_pos c2] at h; exact absurd (show (2 : Int) ≤ 0 from h) (by decide)
    · rw [if_neg c2] at h ⊢
      by_cases c3 : (sLt (τ (sSkp τ n 940 p)) || sDg (τ (sSkp τ n 940 p))) = true
      · rw [if_pos c3] at h ⊢
        have g := sRu_go (show sSkp τ n 940 p < n by omega) c3
        have g2 := (sRu_ge (τ := τ) (n := n) 940 (sSkp τ n 940 p) 0 0 0 0).2.2.2.2 (by omega)
        unfold sRk at *
        by_cases d1 : (sRu τ n 940 (sSkp τ n 940 p) 0 0 0 0).2.2.1 = 0 ∧ (sRu τ n 940 (sSkp τ n 940 p) 0 0 0 0).2.1 ≤ 7
        · rw [if_pos d1]
          exact ⟨show p < (sRu τ n 940 (sSkp τ n 940 p) 0 0 0 0).1 by omega, g2⟩
        · rw [if_neg d1] at h ⊢
          by_cases d2 : (sRu τ n 940 (sSkp τ n 940 p) 0 0 0 0).2.1 = 0 ∧ (sRu τ n 940 (sSkp τ n 940 p) 0 0 0 0).2.2.1 ≤ 3
          · rw [if_pos d2]
            exact ⟨show p < (sRu τ n 940 (sSkp τ n 940 p) 0 0 0 0).1 by omega, g2⟩
          · rw [if_neg d2] at h; exact absurd (show (2 : Int) ≤ 1 from h) (by decide)
      · rw [if_neg c3] at h ⊢
        by_cases c4 : sSi (τ (sSkp τ n 940 p)) = true
        · rw [if_pos c4]
          exact ⟨show p < sSkp τ n 940 p + 1 by omega, show sSkp τ n 940 p + 1 ≤ n by omega⟩
        · rw [if_neg c4] at h; exact absurd (show (2 : Int) ≤ 1 from h) (by decide)
theorem sTok_nv {τ : Int → Int} {n lim p : Int} (h : (sTok τ n lim p).1 = 2) : sNv (sTok τ n lim p).2.2.2 := by
  unfold sTok at *
  by_cases c1 : lim < n ∧ lim ≤ sSkp τ n 940 p
  · rw [if_pos c1] at h; exact i_ne (show (1 : Int) = 2 from h) (by decide)
  · rw [if_neg c1] at h ⊢
    by_cases c2 : n ≤ sSkp τ n 940 p
    · rw [if_pos c2] at h; exact i_ne (show (0 : Int) = 2 from h) (by decide)
    · rw [if_neg c2] at h ⊢
      by_cases c3 : (sLt (τ (sSkp τ n 940 p)) || sDg (τ (sSkp τ n 940 p))) = true
      · rw [if_pos c3] at h ⊢
        have g := sRu_go (show sSkp τ n 940 p < n by omega) c3
        obtain ⟨l0, a', ha, hc, hp⟩ := sRu_cc (τ := τ) (n := n) 940 (sSkp τ n 940 p) 0 0 0 0 (by decide) rfl (fun z => absurd z (by decide))
        have e0 : ((0 : Nat) : Int) = 0 := rfl
        rw [e0] at l0 ha hc hp
        unfold sRk at *
        by_cases d1 : (sRu τ n 940 (sSkp τ n 940 p) 0 0 0 0).2.2.1 = 0 ∧ (sRu τ n 940 (sSkp τ n 940 p) 0 0 0 0).2.1 ≤ 7
        · rw [if_pos d1]
          exact ⟨hp (by omega), sCc_le (by omega) hc⟩
        · rw [if_neg d1] at h
          by_cases d2 : (sRu τ n 940 (sSkp τ n 940 p) 0 0 0 0).2.1 = 0 ∧ (sRu τ n 940 (sSkp τ n 940 p) 0 0 0 0).2.2.1 ≤ 3
          · rw [if_pos d2] at h; exact i_ne (show (3 : Int) = 2 from h) (by decide)
          · rw [if_neg d2] at h; exact i_ne (show (1 : Int) = 2 from h) (by decide)
      · rw [if_neg c3] at h
        by_cases c4 : sSi (τ (sSkp τ n 940 p)) = true
        · rw [if_pos c4] at h; exact i_ne (show (4 : Int) = 2 from h) (by decide)
        · rw [if_neg c4] at h; exact i_ne (show (1 : Int) = 2 from h) (by decide)
theorem sTok_so {τ : Int → Int} {n lim p : Int} : 0 ≤ (sTok τ n lim p).1 ∧ (sTok τ n lim p).1 ≤ 4 := by
  unfold sTok sRk
  split
  · exact ⟨show (0 : Int) ≤ 1 by decide, show (1 : Int) ≤ 4 by decide⟩
  · split
    · exact ⟨show (0 : Int) ≤ 0 by decide, show (0 : Int) ≤ 4 by decide⟩
    · split
      · split
        · exact ⟨show (0 : Int) ≤ 2 by decide, show (2 : Int) ≤ 4 by decide⟩
        · split
          · exact ⟨show (0 : Int) ≤ 3 by decide, show (3 : Int) ≤ 4 by decide⟩
          · exact ⟨show (0 : Int) ≤ 1 by decide, show (1 : Int) ≤ 4 by decide⟩
      · split
        · exact ⟨show (0 : Int) ≤ 4 by decide, show (4 : Int) ≤ 4 by decide⟩
        · exact ⟨show (0 : Int) ≤ 1 by decide, show (1 : Int) ≤ 4 by decide⟩
