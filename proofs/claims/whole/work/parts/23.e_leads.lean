/-- one talk's words and the path from i on alone have changed -/
def tPa (a i : Int) (μ ν : jm_M) : Prop := (∀ q, q ≠ 122 → q ≠ a → q < a + 10 ∨ a + 15 < q → ν q = μ q) ∧ (∀ j, j ≠ 1 → j ≠ 2 → ν a j = μ a j) ∧ ∀ j, j < i → ν 122 j = μ 122 j
theorem tPa.rfl {a i : Int} {μ : jm_M} : tPa a i μ μ := ⟨fun _ _ _ _ => Eq.refl _, fun _ _ _ => Eq.refl _, fun _ _ => Eq.refl _⟩
theorem tPa.trans {a i j : Int} {x y z : jm_M} (h1 : tPa a i x y) (h2 : tPa a j y z) (hj : i ≤ j) : tPa a i x z := ⟨fun q q1 q2 q3 => (h2.1 q q1 q2 q3).trans (h1.1 q q1 q2 q3), fun s s1 s2 => (h2.2.1 s s1 s2).trans (h1.2.1 s s1 s2), fun s hs => (h2.2.2 s (by omega)).trans (h1.2.2 s hs)⟩
theorem tPa_of {a i : Int} {μ ν : jm_M} (ha : a + 15 < 100) (h : tFr a μ ν) : tPa a i μ ν := ⟨fun q _ q2 q3 => h.1 q q2 q3, h.2, fun j _ => by rw [h.1 122 (by omega) (by omega)]⟩
theorem tPa_up {a i v : Int} {μ : jm_M} (ha : a + 15 < 100) : tPa a i μ (jm_up μ 122 i v) := ⟨fun q q1 _ _ => jm_up_ne q1, fun j _ _ => jm_up_lj (by omega), fun j hj => jm_up_i (by omega)⟩
theorem tPl.a {a p c : Int} (h : tPl a p c) : 21 ≤ a ∧ a + 15 < 100 := by
  have := h.1; omega
theorem tPl.p {a p c : Int} (h : tPl a p c) : 3 ≤ p ∧ p + 8 < 120 := by
  have := h.2.1; omega
theorem tA.of {μ ν : jm_M} {ρ : sR} {a p c : Int} {b : sB} (h : tA μ ρ a p c b) (hf : ∀ q, (p ≤ q ∧ q ≤ p + 8) ∨ q = a ∨ (a + 10 ≤ q ∧ q ≤ a + 15) → ν q = μ q) : tA ν ρ a p c b := by
  obtain ⟨hP, hp, hW, hr, hb, hG, hc⟩ := h
  have ea := hf a (by omega)
  exact ⟨hP, by rw [ea]; exact hp, hW, tRu_of (fun q q0 q1 => hf q (by omega)) hr, ⟨by rw [ea]; exact hb.1, by rw [ea]; exact hb.2.1, fun f t f0 f1 t0 t1 => by rw [hf _ (by omega)]; exact hb.2.2 f t f0 f1 t0 t1⟩, hG, hc⟩
theorem tA.up {μ : jm_M} {ρ : sR} {a p c q i v : Int} {b : sB} (h : tA μ ρ a p c b) (hq : 120 < q) : tA (jm_up μ q i v) ρ a p c b :=
  h.of (fun x hx => jm_up_ne (by have := h.1.a; have := h.1.p; omega))
theorem sLd_alt {ρ : sR} {w st sil : Int} {r : Nat} {b : sB} (hn : b.2.1 ≤ 400) : sLd ρ w st sil (r + 1) b = sF1 (fun a => if a = sil then none else sF1 (fun k => if b.2.1 < 400 ∧ sWr ρ b a k = 0 then (sLd ρ w st sil r (sPush ρ b a k)).map (fun l => (16 * a + k) :: l) else none) (ρ 1).toNat 0) (ρ 0).toNat 0 := by
  rw [sLd]
  by_cases h : b.2.1 = 400
  · rw [if_pos h]
    refine (sF1_none _ _ (fun a _ _ => ?_)).symm
    split
    · rfl
    · exact sF1_none _ _ (fun k _ _ => if_neg (fun q => by omega))
  · rw [if_neg h]
    have e : ∀ a k, (b.2.1 < 400 ∧ sWr ρ b a k = 0) ↔ sWr ρ b a k = 0 := fun a k => ⟨fun q => q.2, fun q => ⟨by omega, q⟩⟩
    simp only [e]
section TF
variable {E : jm_E} {d : Nat} {μ : jm_M} {Q : Option jm_V → jm_M → Prop} {ρ : sR} {a p : Int} {b : sB} {w st sil : Int}
theorem c_T_leads (w0 : 0 ≤ w) : ∀ (r : Nat) (b : sB) (μ : jm_M) (i : Int) (Q : Option jm_V → jm_M → Prop), 0 ≤ i → i + r ≤ 8 → tA μ ρ a p 400 b → μ 121 0 = w → μ 121 1 = st → μ 121 2 = sil →
    (∀ ν, tA ν ρ a p 400 b → tPa a i μ ν → (∀ l, sLd ρ w st sil r b = some l → l.length = r → sPt (ν 122) i l → Q (some (jm_I 1)) ν) ∧ (sLd ρ w st sil r b = none → Q (some (jm_I 0)) ν)) →
    jc E m_X3_leads (d + r + 6) [jm_R 121, jm_R a, jm_I i, jm_I r] μ Q
  | 0, b, μ, i, Q, h1, h2, h0, s0, s1, s2, h => by
    have g := h μ h0 tPa.rfl
    refine e_X3_leads (d := d + 5) (fun _ => ⟨fun _ => ⟨h0.1.i6, ?_⟩, fun z => absurd (show ((0 : Nat) : Int) ≤ 0 by omega) z⟩)
    rw [s0, s1]
    exact c_T_isSo h0 (fun _ q1 q2 => jq_Z (g.1 [] (if_pos ⟨q1, q2⟩) rfl trivial)) (fun q => jq_Z (g.2 (if_neg (fun y => q ⟨⟨w0, y.1⟩, y.2⟩))))
  | r + 1, b, μ, i, Q, h1, h2, h0, s0, s1, s2, h => by
    have hW := h0.2.2.1
    have hG := h0.2.2.2.2.2.1
    have hn4 := hG.2.1
    have hP := hW.1
    have hP8 := hW.2.1
    have hK := hW.2.2.1
    have hK10 := hW.2.2.2.1
    have ha := h0.1.a
    refine e_X3_leads (d := d + r + 6) (fun _ => ⟨fun z => absurd z (by omega), fun _ => ⟨fun _ => ⟨h0.1.i6, ?_⟩, fun z => absurd (show i < 8 by omega) z⟩⟩)
    rw [s0, s1]
    refine c_T_mayCome (mm := r + 1) h0 rfl (by omega) w0 (jq_Z (jb_t (by decide) ?_)) (fun hno => jq_Z (jb_f (by decide) ((h μ h0 tPa.rfl).2 (sLd_no hW w0 (r + 1) b hG hno))))
    have hR := sLd_alt (ρ := ρ) (w := w) (st := st) (sil := sil) (r := r) (b := b) hn4
    generalize sLd ρ w st sil (r + 1) b = R at hR h
    generalize hFK : (fun a k : Int => if b.2.1 < 400 ∧ sWr ρ b a k = 0 then (sLd ρ w st sil r (sPush ρ b a k)).map (fun l => (16 * a + k) :: l) else none) = FK at hR
    have hFK' : ∀ a k, FK a k = if b.2.1 < 400 ∧ sWr ρ b a k = 0 then (sLd ρ w st sil r (sPush ρ b a k)).map (fun l => (16 * a + k) :: l) else none := fun a k => by rw [← hFK]
    have hR' : sF1 (fun a => if a = sil then none else sF1 (FK a) (ρ 1).toNat 0) (ρ 0).toNat 0 = R := by rw [hR, ← hFK]
    clear hR hFK
    generalize hFA : (fun a : Int => if a = sil then none else sF1 (FK a) (ρ 1).toNat 0) = FA at hR'
    have hFA' : ∀ a, FA a = if a = sil then none else sF1 (FK a) (ρ 1).toNat 0 := fun a => by rw [← hFA]
    clear hFA
    have key : ∀ (m : Nat) (x : Int) (ξ : jm_M), ρ 0 - x = m → 0 ≤ x → tA ξ ρ a p 400 b → tPa a i μ ξ → sF1 FA m x = R → jg E m_X3_leads (d + r + 6) 44 [some (jm_R 121), some (jm_R a), some (jm_I i), some (jm_I ((r + 1 : Nat) : Int)), some (jm_I x), none, none, none] [] ξ Q := by
      intro m
      induction m with
      | zero =>
        intro x ξ g1 g2 g3 g4 g5
        refine r_X3_leads_44 (d := d + r + 6) ⟨g3.1.i6, ?_⟩
        rw [g3.2.1, g3.2.2.2.1.1]
        exact ⟨g3.1.i5, fun _ => (h ξ g3 g4).2 g5.symm, fun z => absurd z (by omega)⟩
      | succ m ih =>
        intro x ξ g1 g2 g3 g4 g5
        refine r_X3_leads_44 (d := d + r + 6) ⟨g3.1.i6, ?_⟩
        rw [g3.2.1, g3.2.2.2.1.1]
        have inner : ∀ (bt : Int), 0 ≤ bt → bt < 1024 → (∀ k, 0 ≤ k → k < ρ 1 → (sbt bt k = true ↔ x ≠ sil ∧ b.2.1 < 400 ∧ sWr ρ b x k = 0)) → ∀ (m' : Nat) (k : Int) (ξ : jm_M), ρ 1 - k = m' → 0 ≤ k → tA ξ ρ a p 400 b → tPa a i μ ξ → (if x = sil then none else sF1 (FK x) m' k).or (sF1 FA m (x + 1)) = R → jg E m_X3_leads (d + r + 6) 80 [some (jm_R 121), some (jm_R a), some (jm_I i), some (jm_I ((r + 1 : Nat) : Int)), some (jm_I x), some (jm_I bt), some (jm_I k), none] [] ξ Q := by
          intro bt b0 b1 hbt m'
          induction m' with
          | zero =>
            intro k ξ g1' g2' g3' g4' g5'
            refine r_X3_leads_80 (d := d + r + 6) ⟨g3'.1.i6, ?_⟩
            rw [g3'.2.1, g3'.2.2.2.1.2.1, jm_wr_id (a := x + 1) (by omega) (by omega)]
            refine ⟨g3'.1.i5, fun _ => ih (x + 1) ξ (by omega) (by omega) g3' g4' ?_, fun z => absurd z (by omega)⟩
            rw [← g5']
            split <;> rfl
          | succ m' ih' =>
            intro k ξ g1' g2' g3' g4' g5'
            refine r_X3_leads_80 (d := d + r + 6) ⟨g3'.1.i6, ?_⟩
            rw [g3'.2.1, g3'.2.2.2.1.2.1, jm_bit b0 (by omega) g2' (by omega), jm_wr_id (a := k + 1) (by omega) (by omega), jm_wr_id (a := 16 * x) (by omega) (by omega), jm_wr_id (a := 16 * x + k) (by omega) (by omega)]
            have hk := hbt k g2' (by omega)
            refine ⟨g3'.1.i5, fun z => absurd z (by omega), fun _ => ⟨fun z => ?_, fun z => ⟨by omega, fun m6 hm6 => ?_⟩⟩⟩
            · have z' : ¬ (x ≠ sil ∧ b.2.1 < 400 ∧ sWr ρ b x k = 0) := fun q => by rw [if_pos (hk.mpr q)] at z; omega
              refine ih' (k + 1) ξ (by omega) (by omega) g3' g4' ?_
              by_cases hs : x = sil
              · rw [if_pos hs] at g5' ⊢; exact g5'
              · rw [if_neg hs, sF1, hFK', if_neg (fun q => z' ⟨hs, q⟩)] at g5'
                rw [if_neg hs]; exact g5'
            · have z' : x ≠ sil ∧ b.2.1 < 400 ∧ sWr ρ b x k = 0 := by
                by_cases q : sbt bt k = true
                · exact hk.mp q
                · rw [if_neg q] at z; exact absurd rfl z
              rw [if_neg z'.1, sF1, hFK', if_pos z'.2] at g5'
              have hGp := sGB_push hW hG z'.2.1 g2 (by omega) g2' (by omega) z'.2.2
              subst hm6
              have pa1 : tPa a i μ (jm_up ξ 122 i (16 * x + k)) := g4'.trans (tPa_up ha.2) (Int.le_refl _)
              refine c_T_add (g3'.up (by decide)) z'.2.1 g2 (by omega) g2' (by omega) z'.2.2 (fun ξ2 A2 f2 _ => ?_)
              have pa2 : tPa a i μ ξ2 := pa1.trans (tPa_of ha.2 f2) (Int.le_refl _)
              have at2 : ξ2 122 i = 16 * x + k := by rw [f2.1 122 (by omega) (by omega)]; exact jm_up_at
              have k1 : ∀ j, ξ2 121 j = μ 121 j := fun j => by rw [pa2.1 121 (by decide) (by omega) (by omega)]
              rw [jm_wr_id (a := i + 1) (by omega) (by omega), jm_wr_id (a := ((r + 1 : Nat) : Int) - 1) (by omega) (by omega), show ((r + 1 : Nat) : Int) - 1 = r by omega]
              refine c_T_leads w0 r (sPush ρ b x k) ξ2 (i + 1) _ (by omega) (by omega) A2 (by rw [k1]; exact s0) (by rw [k1]; exact s1) (by rw [k1]; exact s2) (fun ξ3 A3 pa3 => ⟨fun l hl ll hp => jq_Z ?_, fun hl => jq_Z ?_⟩)
              · have pa3' := pa2.trans pa3 (by omega)
                refine c_T_back A3 hG g2 (by omega) g2' (by omega) z'.2.2 (fun ξ4 A4 f4 _ => jb_f (by decide) ?_)
                rw [hl] at g5'
                have pa4 := pa3'.trans (tPa_of (i := i) ha.2 f4) (Int.le_refl _)
                refine (h ξ4 A4 pa4).1 ((16 * x + k) :: l) g5'.symm (by simp only [List.length_cons]; omega) ⟨?_, ?_⟩
                · rw [f4.1 122 (by omega) (by omega), pa3.2.2 i (by omega)]
                  exact at2
                · rw [f4.1 122 (by omega) (by omega)]
                  exact hp
              · have pa3' := pa2.trans pa3 (by omega)
                refine c_T_back A3 hG g2 (by omega) g2' (by omega) z'.2.2 (fun ξ4 A4 f4 _ => jb_t rfl ?_)
                rw [hl] at g5'
                have pa4 := pa3'.trans (tPa_of (i := i) ha.2 f4) (Int.le_refl _)
                exact ih' (k + 1) ξ4 (by omega) (by omega) A4 pa4 (by rw [if_neg z'.1]; exact g5')
        have sil' : ξ 121 2 = sil := by rw [g4.1 121 (by decide) (by omega) (by omega)]; exact s2
        rw [sF1, hFA'] at g5
        have xin : 0 ≤ x ∧ x < ρ 0 := by omega
        rw [sil']
        refine ⟨g3.1.i5, fun z => absurd z (by omega), fun _ => ⟨fun z => c_T_choices g3 g2 (by omega) (jq_I ?_), fun z => ?_⟩⟩
        · have ci := sCh_in (ρ := ρ) (b := b) (c := 400) (who := x) hW
          refine inner _ ci.1 ci.2 (fun k k0 k1 => ?_) (ρ 1).toNat 0 ξ (by omega) (by omega) g3 g4 g5
          rw [sCh_bt k0 k1, decide_eq_true_eq]
          exact ⟨fun q => ⟨z, (sFw_in q).2.2.1, (sFw_in q).2.2.2⟩, fun q => by rw [sFw_0 xin.1 xin.2 k0 k1 q.2.1]; exact q.2.2⟩
        · refine inner 0 (by decide) (by decide) (fun k k0 k1 => ?_) (ρ 1).toNat 0 ξ (by omega) (by omega) g3 g4 g5
          rw [sbt_0]
          exact ⟨fun q => absurd q (by decide), fun q => absurd q.1 z⟩
    exact key (ρ 0).toNat 0 μ (by omega) (by omega) h0 tPa.rfl hR'
theorem c_T_roadWithout {k : Int} (w0 : 0 ≤ w) (k0 : 0 ≤ k) (k1 : k ≤ 8) (h0 : tA μ ρ a p 400 b) (s0 : μ 121 0 = w) (s1 : μ 121 1 = st)
    (h : ∀ ν, tA ν ρ a p 400 b → (∀ q, q ≠ 121 → q ≠ 122 → q ≠ a → q < a + 10 ∨ a + 15 < q → ν q = μ q) → (∀ j, j ≠ 2 → ν 121 j = μ 121 j) → (∀ j, j ≠ 1 → j ≠ 2 → ν a j = μ a j) → (∀ l, sRds ρ b w st sil (k.toNat + 1) 0 = some l → sPt (ν 122) 0 l → Q (some (jm_I l.length)) ν) ∧ (sRds ρ b w st sil (k.toNat + 1) 0 = none → Q (some (jm_I (-1))) ν)) :
    jc E m_X3_roadWithout (d + 15) [jm_R 121, jm_R a, jm_I sil, jm_I k] μ Q := by
  have ha := h0.1.a
  have hp := h0.1.p
  refine e_X3_roadWithout (d := d + 14) (fun _ => ?_)
  have key : ∀ (m : Nat) (x : Int) (ξ : jm_M), x + m = k + 1 → 0 ≤ x → tA ξ ρ a p 400 b → tPa a 0 (jm_up μ 121 2 sil) ξ → sRds ρ b w st sil m x = sRds ρ b w st sil (k.toNat + 1) 0 → jg E m_X3_roadWithout (d + 14) 8 [some (jm_R 121), some (jm_R a), none, some (jm_I k), some (jm_I x)] [] ξ Q := by
    intro m
    induction m with
    | zero =>
      intro x ξ g1 g2 g3 g4 g5
      refine r_X3_roadWithout_8 (d := d + 14) ⟨fun _ => ?_, fun z => absurd (show k < x by omega) z⟩
      exact (h ξ g3 (fun q q1 q2 q3 q4 => by rw [g4.1 q q2 q3 q4, jm_up_ne q1]) (fun j hj => by rw [g4.1 121 (by decide) (by omega) (by omega), jm_up_i hj]) (fun j j1 j2 => by rw [g4.2.1 j j1 j2, jm_up_lj (by omega)])).2 g5.symm
    | succ m ih =>
      intro x ξ g1 g2 g3 g4 g5
      have k1 : ∀ j, ξ 121 j = jm_up μ 121 2 sil 121 j := fun j => by rw [g4.1 121 (by decide) (by omega) (by omega)]
      obtain ⟨r, rfl⟩ := jm_nat g2
      refine r_X3_roadWithout_8 (d := d + 14) ⟨fun z => absurd z (by omega), fun _ => ?_⟩
      have hd : d + 14 = (d + 8 - r) + r + 6 := by omega
      rw [hd]
      refine c_T_leads (w := w) (st := st) (sil := sil) w0 r b ξ 0 _ (by decide) (by omega) g3 (by rw [k1, jm_up_i (by decide)]; exact s0) (by rw [k1, jm_up_i (by decide)]; exact s1) ((k1 2).trans jm_up_at) (fun ν A pa => ⟨fun l hl ll hpt => jq_Z (jb_f (by decide) ?_), fun hl => jq_Z (jb_t rfl ?_)⟩)
      · have pa' := g4.trans pa (Int.le_refl _)
        have e : sRds ρ b w st sil (k.toNat + 1) 0 = some l := by
          rw [← g5]
          unfold sRds
          rw [sF1, Int.toNat_natCast, hl]
          rfl
        have := (h ν A (fun q q1 q2 q3 q4 => by rw [pa'.1 q q2 q3 q4, jm_up_ne q1]) (fun j hj => by rw [pa'.1 121 (by decide) (by omega) (by omega), jm_up_i hj]) (fun j j1 j2 => by rw [pa'.2.1 j j1 j2, jm_up_lj (by omega)])).1 l e hpt
        rw [ll] at this
        exact this
      · rw [← hd, jm_wr_id (by omega) (by omega)]
        refine ih (r + 1) ν (by omega) (by omega) A (g4.trans pa (Int.le_refl _)) ?_
        rw [← g5]
        unfold sRds
        rw [sF1, Int.toNat_natCast, hl]
        rfl
  exact key (k.toNat + 1) 0 (jm_up μ 121 2 sil) (by omega) (by decide) (h0.up (by decide)) tPa.rfl rfl
theorem c_T_tooMany {x k : Int} (x0 : 0 ≤ x) (x1 : x ≤ 80) (k0 : 0 ≤ k) (k1 : k ≤ 8) (ht : sTM x k.toNat 1 = true → Q (some (jm_I 1)) μ) (hf : sTM x k.toNat 1 = false → Q (some (jm_I 0)) μ) : jc E m_X3_tooMany (d + 1) [jm_I x, jm_I k] μ Q := by
  refine e_X3_tooMany (d := d) (fun _ => ?_)
  have key : ∀ (m : Nat) (i v : Int), i + m = k → 0 ≤ i → 0 ≤ v → v ≤ 300000 → sTM x m v = sTM x k.toNat 1 → jg E m_X3_tooMany d 5 [some (jm_I x), some (jm_I k), some (jm_L v), none, some (jm_I i)] [] μ Q := by
    intro m
    induction m with
    | zero =>
      intro i v g1 g2 g3 g4 g5
      refine r_X3_tooMany_5 ⟨fun _ => hf (by rw [← g5]; rfl), fun z => absurd (show k ≤ i by omega) z⟩
    | succ m ih =>
      intro i v g1 g2 g3 g4 g5
      have hv0 : 0 ≤ v * x := Int.mul_nonneg g3 x0
      have hv1 : v * x ≤ 300000 * 80 := Int.mul_le_mul g4 x1 x0 (by decide)
      refine r_X3_tooMany_5 ⟨fun z => absurd z (by omega), fun _ y hy => ?_⟩
      rw [jm_wl_id (by omega) (by omega)] at hy
      subst hy
      rw [sTM] at g5
      have hc : jm_cmp (v * x) 300000 ≤ 0 ↔ ¬ 300000 < v * x := by
        unfold jm_cmp
        split
        · omega
        · split <;> omega
      refine ⟨fun z => ?_, fun z => ?_⟩
      · rw [if_neg (hc.mp z)] at g5
        rw [jm_wr_id (by omega) (by omega)]
        exact ih (i + 1) _ (by omega) (by omega) hv0 (by have := hc.mp z; omega) g5
      · rw [if_pos (Decidable.not_not.mp (fun q => z (hc.mpr q)))] at g5
        exact ht g5.symm
  exact key k.toNat 0 1 (by omega) (by decide) (by decide) (by decide) rfl
end TF
