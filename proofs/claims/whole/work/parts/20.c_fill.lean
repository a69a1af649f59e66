section MF2
variable {E : jm_E} {d : Nat} {μ : jm_M} {Q : Option jm_V → jm_M → Prop} {ρ : sR} {T : Int → Int} {N : Nat} {b : sB}
theorem c_M_fill (hW : sWR ρ) (hN : N ≤ 24) : ∀ (r : Nat) (b : sB) (μ : jm_M) (t : Int) (Q : Option jm_V → jm_M → Prop), b.2.1 + r = N → t = b.2.1 → sGB ρ b → mFs ρ T N b μ → μ 133 43 + (sFi ρ T r b).length < 2147483648 →
    (∀ ν, mBd ν 0 b → mFg ρ N (sFi ρ T r b) μ ν → Q none ν) → jc E m_X11_fill (d + r + 4) [jm_R 133, jm_I t] μ Q
  | 0, b, μ, t, Q, hn, ht, hG, hs, hl, h => by
    have hl' : μ 133 43 + 1 < 2147483648 := hl
    have h43 := hs.2.2.2.2.2.2.1
    have h42 := hs.2.2.2.2.1
    have hbn : b.2.1 = N := by omega
    have htN : t = N := by omega
    subst htN
    refine e_X11_fill (d := d + 3) (fun _ => ⟨fun z => absurd h42.symm z, fun _ => ?_⟩)
    rw [jm_wr_id (by omega) (by omega)]
    have hs' : mFs ρ T N b (jm_up μ 133 43 (μ 133 43 + 1)) := by
      obtain ⟨s1, s2, s3, s4, s5, s6, s7, s8⟩ := hs
      refine ⟨mRu_up (by decide) s1, mBd_up (by decide) s2, by rw [jm_up_ne (by decide)]; exact s3, by rw [jm_up_ne (by decide)]; exact s4, by rw [jm_up_i (by decide)]; exact s5, fun i i0 i1 => by rw [jm_up_ne (by decide)]; exact s6 i i0 i1, by rw [jm_up_at]; omega, fun f i f0 f1 i0 i1 => by rw [jm_up_ne (by omega)]; exact s8 f i f0 f1 i0 i1⟩
    refine r_M_fill20 hW hG hbn hN hs' (fun ν v1 v2 v3 v4 => h ν v1 ⟨fun p p1 p2 => ?_, fun i hi => ?_, ?_, fun f i f0 f1 i0 i1 => ?_, fun f i f0 f1 i0 => ?_⟩)
    · rw [v2 p (by omega), jm_up_ne p1]
    · rw [v2 133 (by decide), jm_up_i hi]
    · rw [v2 133 (by decide), jm_up_at]; rfl
    · rw [v3 f i f0 f1 i0 i1, jm_up_ne (by omega)]; rfl
    · rw [v4 f i f0 f1 i0, jm_up_ne (by omega)]
  | r + 1, b, μ, t, Q, hn, ht, hG, hs, hl, h => by
    have h42 := hs.2.2.2.2.1
    have hP := hW.1
    have hP8 := hW.2.1
    have hK := hW.2.2.1
    have hK10 := hW.2.2.2.1
    have t0 := hG.1
    obtain ⟨R, hR⟩ : ∃ R, R = sFi ρ T (r + 1) b := ⟨_, rfl⟩
    rw [← hR] at h hl
    rw [sFi, ← ht] at hR
    have good : ∀ x, x ∈ R → sGB ρ x ∧ x.2.1 = N := fun x hx => by
      have := sFi_good (T := T) hW (r + 1) b hG (by omega) x (by rw [sFi, ← ht, ← hR]; exact hx)
      exact ⟨this.1, by omega⟩
    generalize hFK : (fun a k : Int => if (T (2 * t + 1) = -1 ∨ T (2 * t + 1) = k) ∧ sWr ρ b a k = 0 then sFi ρ T r (sPush ρ b a k) else []) = FK at hR
    have hFK' : ∀ a k, FK a k = if (T (2 * t + 1) = -1 ∨ T (2 * t + 1) = k) ∧ sWr ρ b a k = 0 then sFi ρ T r (sPush ρ b a k) else [] := fun a k => by rw [← hFK]
    have hR' : R = sFl (fun a => if T (2 * t) = -1 ∨ T (2 * t) = a then sFl (FK a) (ρ 1).toNat 0 else []) (ρ 0).toNat 0 := by rw [hR, ← hFK]
    clear hR hFK
    generalize hFA : (fun a : Int => if T (2 * t) = -1 ∨ T (2 * t) = a then sFl (FK a) (ρ 1).toNat 0 else []) = FA at hR'
    have hFA' : ∀ a, FA a = if T (2 * t) = -1 ∨ T (2 * t) = a then sFl (FK a) (ρ 1).toNat 0 else [] := fun a => by rw [← hFA]
    clear hFA
    have st : ∀ ξ L, mFg ρ N L μ ξ → mBd ξ 0 b → (∀ x, x ∈ L → x ∈ R) → mFs ρ T N b ξ := fun ξ L g1 g2 g3 => mFs_of hW hs g1 g2 hN (fun x hx => good x (g3 x hx))
    refine e_X11_fill (d := d + r + 4) (fun _ => ⟨fun _ => ?_, fun z => absurd (show t ≠ μ 133 42 by omega) z⟩)
    have key : ∀ (m : Nat) (a : Int) (L : List sB) (ξ : jm_M), ρ 0 - a = m → 0 ≤ a → mBd ξ 0 b → mFg ρ N L μ ξ → R = L ++ sFl FA m a → jg E m_X11_fill (d + r + 4) 85 [some (jm_R 133), some (jm_I t), some (jm_I a), none] [] ξ Q := by
      intro m
      induction m with
      | zero =>
        intro a L ξ g1 g2 g3 g4 g5
        have q0 : ξ 135 0 = ρ 0 := by rw [g4.1 135 (by decide) (by decide)]; exact hs.2.2.1
        have : R = L := by rw [g5]; exact List.append_nil L
        subst this
        exact r_X11_fill_85 (d := d + r + 4) ⟨fun _ => h ξ g3 g4, fun z => absurd (show ξ 135 0 ≤ a by omega) z⟩
      | succ m ih =>
        intro a L ξ g1 g2 g3 g4 g5
        have hs1 := st ξ L g4 g3 (fun x hx => by rw [g5]; exact List.mem_append_left _ hx)
        have q0 : ξ 135 0 = ρ 0 := hs1.2.2.1
        have eT : ξ 152 (2 * t) = T (2 * t) := hs1.2.2.2.2.2.1 _ (by omega) (by omega)
        have g5' : R = L ++ (FA a ++ sFl FA m (a + 1)) := g5
        rw [hFA'] at g5'
        have e2 : jm_wr (2 * t) = 2 * t := jm_wr_id (by omega) (by omega)
        have skip : ¬ (T (2 * t) = -1 ∨ T (2 * t) = a) → jg E m_X11_fill (d + r + 4) 85 [some (jm_R 133), some (jm_I t), some (jm_I (jm_wr (a + 1))), none] [] ξ Q := by
          intro z
          rw [if_neg z] at g5'
          rw [jm_wr_id (a := a + 1) (by omega) (by omega)]
          exact ih (a + 1) L ξ (by omega) (by omega) g3 g4 g5'
        have go : (T (2 * t) = -1 ∨ T (2 * t) = a) → jg E m_X11_fill (d + r + 4) 124 [some (jm_R 133), some (jm_I t), some (jm_I a), some (jm_I 0)] [] ξ Q := by
          intro z
          rw [if_pos z] at g5'
          have inner : ∀ (m' : Nat) (k : Int) (L : List sB) (ξ : jm_M), ρ 1 - k = m' → 0 ≤ k → mBd ξ 0 b → mFg ρ N L μ ξ → R = L ++ (sFl (FK a) m' k ++ sFl FA m (a + 1)) → jg E m_X11_fill (d + r + 4) 124 [some (jm_R 133), some (jm_I t), some (jm_I a), some (jm_I k)] [] ξ Q := by
            intro m'
            induction m' with
            | zero =>
              intro k L ξ g1' g2' g3' g4' g5'
              have q1 : ξ 135 1 = ρ 1 := by rw [g4'.1 135 (by decide) (by decide)]; exact hs.2.2.2.1
              refine r_X11_fill_124 (d := d + r + 4) ⟨fun _ => ?_, fun z => absurd (show ξ 135 1 ≤ k by omega) z⟩
              rw [jm_wr_id (a := a + 1) (by omega) (by omega)]
              exact ih (a + 1) L ξ (by omega) (by omega) g3' g4' g5'
            | succ m' ih' =>
              intro k L ξ g1' g2' g3' g4' g5'
              have hs2 := st ξ L g4' g3' (fun x hx => by rw [g5']; exact List.mem_append_left _ hx)
              have q1 : ξ 135 1 = ρ 1 := hs2.2.2.2.1
              have eT2 : ξ 152 (2 * t + 1) = T (2 * t + 1) := hs2.2.2.2.2.2.1 _ (by omega) (by omega)
              have e3 : jm_wr (jm_wr (2 * t) + 1) = 2 * t + 1 := by rw [e2, jm_wr_id (by omega) (by omega)]
              have g6 : R = L ++ (FK a k ++ sFl (FK a) m' (k + 1) ++ sFl FA m (a + 1)) := g5'
              rw [hFK'] at g6
              have skip2 : ¬ ((T (2 * t + 1) = -1 ∨ T (2 * t + 1) = k) ∧ sWr ρ b a k = 0) → jg E m_X11_fill (d + r + 4) 124 [some (jm_R 133), some (jm_I t), some (jm_I a), some (jm_I (jm_wr (k + 1)))] [] ξ Q := by
                intro z
                rw [if_neg z] at g6
                rw [jm_wr_id (a := k + 1) (by omega) (by omega)]
                exact ih' (k + 1) L ξ (by omega) (by omega) g3' g4' g6
              have go2 : (T (2 * t + 1) = -1 ∨ T (2 * t + 1) = k) → jg E m_X11_fill (d + r + 4) 162 [some (jm_R 133), some (jm_I t), some (jm_I a), some (jm_I k)] [] ξ Q := by
                intro z
                refine r_X11_fill_162 (d := d + r + 4) (c_M_wrongOf (by decide) hW hs2.1 g3' hG g2 (by omega) g2' (by omega) (jq_I ⟨fun z2 => ?_, fun z2 => skip2 (fun q => z2 q.2)⟩))
                rw [if_pos ⟨z, z2⟩] at g6
                have hGp := sGB_push hW hG (by omega) g2 (by omega) g2' (by omega) z2
                have nb := (sPush_c (ρ := ρ) (b := b) (who := a) (k := k) rfl).1
                refine c_M_push (by decide) hW hs2.1 g3' hG.1 (by omega) (fun s s0 s1 => ?_) ⟨hG.2.2.1, by have := hG.2.2.2.1; omega⟩ g2 (by omega) g2' (by omega) (fun ξ2 bd2 f2 _ => ?_)
                · have := (hG.2.2.2.2 s s0 s1).2.2.2.2.1
                  omega
                · have gA := g4'.trans (mFg_fr f2)
                  rw [List.append_nil] at gA
                  have hs3 : mFs ρ T N (sPush ρ b a k) ξ2 := mFs_of hW hs gA bd2 hN (fun x hx => good x (by rw [g6]; exact List.mem_append_left _ hx))
                  have hlen : R.length = L.length + ((sFi ρ T r (sPush ρ b a k)).length + (sFl (FK a) m' (k + 1)).length + (sFl FA m (a + 1)).length) := by rw [g6]; simp only [List.length_append]
                  have h43 := gA.2.2.1
                  rw [jm_wr_id (a := t + 1) (by omega) (by omega)]
                  refine c_M_fill hW hN r (sPush ρ b a k) ξ2 (t + 1) _ (by omega) (by omega) hGp hs3 (by omega) (fun ξ3 bd3 gg3 _ => ?_)
                  have gB := gA.trans gg3
                  have hr3 : mRu ξ3 0 ρ := fun j j0 j1 => by rw [gB.1 143 (by decide) (by decide)]; exact hs.1 j j0 j1
                  refine c_M_pop (by decide) hW hr3 bd3 hG (by omega) g2 (by omega) g2' (by omega) z2 (fun ξ4 bd4 f4 _ => ?_)
                  have gC := gB.trans (mFg_fr f4)
                  rw [List.append_nil] at gC
                  rw [jm_wr_id (a := k + 1) (by omega) (by omega)]
                  refine ih' (k + 1) (L ++ sFi ρ T r (sPush ρ b a k)) ξ4 (by omega) (by omega) bd4 gC ?_
                  rw [g6]
                  simp only [List.append_assoc]
              refine r_X11_fill_124 (d := d + r + 4) ⟨fun z => absurd z (by omega), fun _ => ?_⟩
              rw [e3, eT2]
              exact ⟨⟨by omega, by omega⟩, fun y => go2 (Or.inl y), fun y => ⟨fun y2 => skip2 (fun q => q.1.elim y y2), fun y2 => go2 (Or.inr (Decidable.not_not.mp y2))⟩⟩
          exact inner (ρ 1).toNat 0 L ξ (by omega) (by decide) g3 g4 g5'
        refine r_X11_fill_85 (d := d + r + 4) ⟨fun z => absurd z (by omega), fun _ => ?_⟩
        rw [e2, eT]
        exact ⟨⟨by omega, by omega⟩, fun y => go (Or.inl y), fun y => ⟨fun y2 => go (Or.inr y2), fun y2 => skip (fun q => q.elim y y2)⟩⟩
    have g0 : mFg ρ N [] μ μ := ⟨fun _ _ _ => rfl, fun _ _ => rfl, by simp, fun _ _ _ _ _ _ => rfl, fun _ _ _ _ _ => rfl⟩
    exact key (ρ 0).toNat 0 [] μ (by omega) (by decide) hs.2.1 g0 hR'
end MF2
