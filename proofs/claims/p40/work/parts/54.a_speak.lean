/-! the law speaks -/
theorem sSay_lo {w : Int → Int} {n : Nat} {who k i : Int} (h : i < 2 * n) : sSay w n who k i = w i := by
  unfold sSay
  rw [if_neg (by omega), if_neg (by omega)]
theorem sSay_0 {w : Int → Int} {n : Nat} {who k : Int} : sSay w n who k (2 * n) = who := by
  unfold sSay
  rw [if_pos rfl]
theorem sSay_1 {w : Int → Int} {n : Nat} {who k : Int} : sSay w n who k (2 * n + 1) = k := by
  unfold sSay
  rw [if_neg (by omega), if_pos rfl]
theorem sLay_lo {ρ : sR} {w : Int → Int} {n t : Nat} {who k : Int} (h : t ≤ n) : sLay ρ (sSay w n who k) t = sLay ρ w t := sLay_ext t (fun i _ i1 => sSay_lo (by omega))
theorem sVW.v {ρ : sR} {w : Int → Int} {n : Nat} (h1 : ρ 1 = 7) (h : sVW ρ w n) : pVw ρ w n := fun t ht => ⟨(h t ht).1, (h t ht).2.1.1, by have := (h t ht).2.1.2; omega⟩
theorem sTry_in {ρ : sR} {w : Int → Int} {n : Nat} {who k : Int} (u0 : 0 ≤ who) (u1 : who < ρ 0) (k0 : 0 ≤ k) (k1 : k < ρ 1) (hn : n < 400) : sTry ρ w n who k = sWr ρ (sLay ρ w n) who k := by
  unfold sTry
  rw [if_pos ⟨⟨u0, u1⟩, ⟨k0, k1⟩, hn⟩]
/-- n words are told, and the law has them in its row -/
def pSpk (ρ : sR) (w : Int → Int) (n : Nat) (ξ : jm_M) : Prop := tTl ξ ρ w n ∧ pVf ξ ρ ∧ pRw ξ w n ∧ sVW ρ w n
theorem pSpk.f6 {ρ : sR} {w : Int → Int} {n : Nat} {a b : jm_M} (f : pF6 a b) (h : pSpk ρ w n a) : pSpk ρ w n b :=
  ⟨tTl_of (fun q hq => f q (by omega)) h.1, h.2.1.fr (f 134 (by decide)), fun t ht => by rw [f 135 (by decide)]; exact h.2.2.1 t ht, h.2.2.2⟩
/-- one word more in the row -/
theorem pRw_say {ξ : jm_M} {w : Int → Int} {n : Nat} {who k : Int} (h : pRw ξ w n) : pRw (jm_up ξ 135 (n : Int) (16 * who + k)) (sSay w n who k) (n + 1) := by
  intro t ht
  by_cases q : t = n
  · rw [q, jm_up_at, sSay_0, sSay_1]
  · rw [jm_up_i (by omega), sSay_lo (by omega), sSay_lo (by omega)]
    exact h t (by omega)
section SP
variable {E : jm_E} {d : Nat} {μ : jm_M} {Q : Option jm_V → jm_M → Prop} {ρ : sR} {w : Int → Int} {n : Nat}
theorem c_C_count6 (h0 : tTl μ ρ w n) (h : Q (some (jm_I (n : Int))) μ) : jc E m_X10_count (d + 1) [jm_R 0, jm_I 6] μ Q := by
  obtain ⟨hr, p, hp3, hA⟩ := h0
  have e1 : μ 21 1 = n := by rw [hA.2.2.2.2.1.1, sLay_n]
  exact e_X10_count (fun _ => ⟨fun z => absurd z (by decide), fun _ => ⟨fun z => absurd z (by decide), fun _ => ⟨fun z => absurd z (by decide), fun _ => ⟨fun z => absurd z (by decide), fun _ => ⟨fun z => absurd z (by decide), fun _ => ⟨fun z => absurd z (by decide), fun _ => ⟨fun _ => by rw [e1]; exact h, fun z => absurd rfl z⟩⟩⟩⟩⟩⟩⟩)
/-- the walk says of n words and one more what the class says of the one more -/
theorem live_more {who k : Int} (hn : n ≤ 11) (h : pSpk ρ w n μ) (hW : sWR ρ) (u0 : 0 ≤ who) (u1 : who < ρ 0) (k0 : 0 ≤ k) (k7 : k < 7)
    (hno : sWr ρ (sLay ρ w n) who k ≠ 0 → ∀ ν, pF6 (jm_up μ 135 (n : Int) (16 * who + k)) ν → ν 136 48 = sWr ρ (sLay ρ w n) who k → Q (some (jm_I (n : Int))) ν)
    (hok : sWr ρ (sLay ρ w n) who k = 0 → ∀ ν, pF6 (jm_up μ 135 (n : Int) (16 * who + k)) ν → ν 136 48 = 0 → Q (some (jm_I (-1))) ν) : jc E m_L_live (d + 1) [jm_R 134, jm_R 135, jm_I ((n : Int) + 1), jm_R 136] (jm_up μ 135 (n : Int) (16 * who + k)) Q := by
  obtain ⟨ht, hV, hr, hS⟩ := h
  have h1 : ρ 1 = 7 := hV.2.1
  have hv := hS.v h1
  refine c_L_live (w := sSay w n who k) (n := n + 1) (ρ := ρ) (hV.fr (jm_up_ne (by decide))) hW (by omega) (pRw_say hr) (fun t t1 => ?_) (fun t t1 hs hne ν f1 f2 => ?_) (fun hs ν f1 f2 f3 => ?_)
  · by_cases q : t = n
    · rw [q, sSay_0, sSay_1]
      exact ⟨⟨u0, u1⟩, k0, k7⟩
    · rw [sSay_lo (by omega), sSay_lo (by omega)]
      exact hv t (by omega)
  · rw [sLay_lo (by omega)] at hne f2
    by_cases q : t = n
    · rw [q, sSay_0, sSay_1] at hne f2
      rw [q]
      exact hno hne ν f1 f2
    · rw [sSay_lo (by omega), sSay_lo (by omega)] at hne
      exact absurd (hS t (by omega)).2.2 hne
  · have h0 := (hs n (by omega)).2.2
    rw [sLay_lo (by omega), sSay_0, sSay_1] at h0
    exact hok h0 ν f1 (f3 (by omega))
/-- the walk finds nothing wrong with what was told -/
theorem live_said (hn : n ≤ 12) (h : pSpk ρ w n μ) (hW : sWR ρ) (hok : ∀ ν, pF6 μ ν → pBd ν (sLay ρ w n) → Q (some (jm_I (-1))) ν) : jc E m_L_live (d + 1) [jm_R 134, jm_R 135, jm_I (n : Int), jm_R 136] μ Q := by
  obtain ⟨ht, hV, hr, hS⟩ := h
  exact c_L_live hV hW hn hr (hS.v hV.2.1) (fun t t1 _ hne => absurd (hS t t1).2.2 hne) (fun _ ν f1 f2 _ => hok ν f1 f2)
theorem pRem_in {x m : Int} (m0 : 0 < m) (m1 : m < 1000) : 0 ≤ jm_rem (jm_and x 255) m ∧ jm_rem (jm_and x 255) m < m := by
  have h := pAnd_in x (m := 255) (by decide)
  have h : 0 ≤ jm_and x 255 ∧ jm_and x 255 ≤ 255 := h
  rw [jm_rem_n h.1 (by omega) m0 (by omega)]
  exact ⟨Int.emod_nonneg _ (by omega), Int.emod_lt_of_pos _ m0⟩
theorem c_L_speak {v5 : Int} (hx : jm_xp E ≠ 0) (h5 : v5 ≤ 11) (hW : sWR ρ) (h0 : pSpk ρ w 0 μ) (h : ∀ ν w n, (n : Nat) ≤ 11 → pSpk ρ w n ν → pBd ν (sLay ρ w n) → Q (some (jm_I (n : Int))) ν) : jc E m_L_speak (d + 6) [jm_R 0, jm_R 134, jm_R 135, jm_R 136, jm_R ((jm_xp E : Int)), jm_I v5] μ Q := by
  refine e_L_speak (d := d + 5) (fun _ => ?_)
  have fin : ∀ (n : Nat) (w : Int → Int) (ξ : jm_M), n ≤ 11 → pSpk ρ w n ξ → jg E m_L_speak (d + 5) 181 [some (jm_R 0), some (jm_R 134), some (jm_R 135), some (jm_R 136), none, none, some (jm_I (n : Int)), none, none, none] [] ξ Q := by
    intro n w ξ hn hs
    refine r_L_speak_181 (d := d + 5) (live_said (d := d + 4) (by omega) hs hW (fun ν f1 f2 => jq_I ⟨fun z => absurd z (by decide), fun _ => ?_⟩))
    have hs' := hs.f6 f1
    exact c_C_count6 (d := d + 4) hs'.1 (jq_I ⟨fun z => absurd rfl z, fun _ => h ν w n hn hs' f2⟩)
  have loop : ∀ (f : Nat) (v7 : Int) (n : Nat) (w : Int → Int) (ξ : jm_M), v7 + f = 60 → 0 ≤ v7 → n ≤ 11 → pSpk ρ w n ξ → jg E m_L_speak (d + 5) 6 [some (jm_R 0), some (jm_R 134), some (jm_R 135), some (jm_R 136), some (jm_R ((jm_xp E : Int))), some (jm_I v5), some (jm_I (n : Int)), some (jm_I v7), none, none] [] ξ Q := by
    intro f
    induction f with
    | zero =>
      intro v7 n w ξ e7 g7 hn hs
      exact r_L_speak_6 (d := d + 5) ⟨hx, fun _ => fin n w ξ hn hs, fun z => absurd (by omega) z⟩
    | succ f ih =>
      intro v7 n w ξ e7 g7 hn hs
      have k1 : jm_wr (v7 + 1) = v7 + 1 := jm_wr_id (by omega) (by omega)
      have k2 : jm_wr ((n : Int) + 1) = (n : Int) + 1 := jm_wr_id (by omega) (by omega)
      refine r_L_speak_6 (d := d + 5) ⟨hx, fun z => absurd z (by omega), fun _ => ⟨fun _ => fin n w ξ hn hs, fun h5n => ⟨by omega, fun x6 _ => ?_⟩⟩⟩
      have hV := hs.2.1
      have v0 := hV.1
      have v1 := hV.2.1
      have e0 : ξ 134 0 = ρ 0 := hV.2.2.2.1
      rw [k1, k2, e0]
      refine ⟨by omega, fun x8 _ => ⟨by omega, fun m10 hm => ?_⟩⟩
      have hu := pRem_in (x := x6) (m := ρ 0) (by omega) (by omega)
      have hk := pRem_in (x := jm_shr x8 8) (m := 7) (by decide) (by decide)
      generalize hwho : jm_rem (jm_and x6 255) (ρ 0) = who at hm hu
      generalize hkk : jm_rem (jm_and (jm_shr x8 8) 255) 7 = k at hm hk
      have a1 : jm_wr (16 * who) = 16 * who := jm_wr_id (by omega) (by omega)
      have a2 : jm_wr (16 * who + k) = 16 * who + k := jm_wr_id (by omega) (by omega)
      rw [a1, a2] at hm
      rw [hm]
      have hT : sTry ρ w n who k = sWr ρ (sLay ρ w n) who k := sTry_in hu.1 hu.2 hk.1 (by omega) (by omega)
      have keep : ∀ ν, pF6 (jm_up ξ 135 (n : Int) (16 * who + k)) ν → pSpk ρ w n ν ∧ jm_shr (ν 135 (n : Int)) 4 = who ∧ jm_and (ν 135 (n : Int)) 15 = k ∧ pRw ν (sSay w n who k) (n + 1) := by
        intro ν f1
        have hp := pRow (a := who) (b := k) hu.1 (by omega) hk.1 (by omega)
        refine ⟨pSpk.f6 f1 ⟨tTl_of (fun q hq => jm_up_ne (by omega)) hs.1, hV.fr (jm_up_ne (by decide)), fun t ht => by rw [jm_up_i (by omega)]; exact hs.2.2.1 t ht, hs.2.2.2⟩, ?_, ?_, fun t ht => ?_⟩
        · rw [f1 135 (by decide), jm_up_at]; exact hp.1
        · rw [f1 135 (by decide), jm_up_at]; exact hp.2
        · rw [f1 135 (by decide)]; exact pRw_say hs.2.2.1 t ht
      refine live_more (d := d + 4) hn hs hW hu.1 hu.2 hk.1 hk.2 (fun hne ν f1 f2 => jq_I ⟨fun _ x15 _ => ⟨fun _ => ?_, fun _ => ?_⟩, fun z => absurd (by omega) z⟩) (fun h0 ν f1 f2 => jq_I ⟨fun z => absurd z (by decide), fun _ => ?_⟩)
      · obtain ⟨hs', s1, s2, s3⟩ := keep ν f1
        refine r_L_speak_106 (d := d + 5) ⟨fun _ x2 hx2 => ⟨by omega, ?_⟩, fun z => absurd rfl z⟩
        rw [s1, s2, k1]
        refine c_C_wrong (d := d) hs'.1 (jq_I ⟨fun z => absurd (by rw [hT, hx2, f2]) z, fun _ => ?_⟩)
        rw [s1, s2]
        exact c_C_say (d := d) hs'.1 (fun z => absurd (by rw [← hT]; exact z) hne) (fun _ => jq_I ⟨fun _ => ih (v7 + 1) n w ν (by omega) (by omega) hn hs', fun z => absurd (by rw [hT, hx2, f2]) z⟩)
      · exact ih (v7 + 1) n w ν (by omega) (by omega) hn (keep ν f1).1
      · obtain ⟨hs', s1, s2, s3⟩ := keep ν f1
        refine r_L_speak_106 (d := d + 5) ⟨fun z => absurd z (by decide), fun _ => ⟨by omega, ?_⟩⟩
        rw [s1, s2, k1, k2]
        refine c_C_wrong (d := d) hs'.1 (jq_I ⟨fun z => absurd (by rw [hT]; exact h0) z, fun _ => ?_⟩)
        rw [s1, s2]
        refine c_C_say (d := d) hs'.1 (fun _ κ fk tk => jq_I ⟨fun _ => ?_, fun z => absurd rfl z⟩) (fun z => absurd (by rw [hT]; exact h0) z)
        have e : ∀ q, 132 ≤ q → κ q = ν q := fun q hq => fk.1 q (by omega)
        have := ih (v7 + 1) (n + 1) (sSay w n who k) κ (by omega) (by omega) (by omega) ⟨tk, hs'.2.1.fr (e 134 (by decide)), fun t ht => by rw [e 135 (by decide)]; exact s3 t ht, fun t ht => ?_⟩
        · exact this
        · rw [sLay_lo (by omega)]
          by_cases q : t = n
          · rw [q, sSay_0, sSay_1]
            exact ⟨hu, ⟨hk.1, by omega⟩, h0⟩
          · rw [sSay_lo (by omega), sSay_lo (by omega)]
            exact hs.2.2.2 t (by omega)
  exact loop 60 0 0 w μ (by omega) (by decide) (by omega) h0
end SP
