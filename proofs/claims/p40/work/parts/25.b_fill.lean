section WH
variable {E : jm_E} {d : Nat} {μ : jm_M} {Q : Option jm_V → jm_M → Prop} {ρ : sR} {p : Int} {b : sB} {T : Int → Int} {N : Nat} {tl en : Int}
/-- a word's part of a filling, marked -/
theorem wG_mark {t a k : Int} {R : List sB} {ξ ν : jm_M} (hR : ∀ x, x ∈ R → x.1 0 t = a ∧ x.1 1 t = k) (t0 : 0 ≤ t) (t1 : t < N) (hN : N ≤ 24) (htl : tl = 0 ∨ tl = 1) (a0 : 0 ≤ a) (a1 : a < 10) (k0 : 0 ≤ k) (k1 : k < 10) (hm : ∀ f i : Int, 0 ≤ f → f ≤ 2 → 0 ≤ i → i < 24 → 0 ≤ ξ (127 + f) i ∧ ξ (127 + f) i < 1024) (hA : tA ν ρ 37 p 400 b) (hs : wS T N tl en ν) (hg : wG ρ N (t + 1) tl en R ξ ν) {F : jm_M → Prop}
    (h : ∀ ξ', tA ξ' ρ 37 p 400 b → wS T N tl en ξ' → wG ρ N t tl en R ξ ξ' → F ξ') :
    (ν 124 5 = 0 → F ν) ∧ (¬ (ν 124 5 = 0) → ((ν 124 3 ≤ ξ 124 3 → F ν) ∧ (¬ (ν 124 3 ≤ ξ 124 3) → (0 ≤ t ∧ t < 24) ∧ ∀ m13 : jm_M, m13 = jm_up ν 127 t (jm_or (ν 127 t) (jm_shl 1 a)) → ∀ m14 : jm_M, m14 = jm_up m13 128 t (jm_or (m13 128 t) (jm_shl 1 k)) → F m14))) := by
  obtain ⟨a1', a2, a3, a4, a5, a6, a7, a8⟩ := hg
  rw [hs.2.1]
  refine ⟨fun z => h ν hA hs ⟨a1', a2, a3, a4, a5, a6, a7, fun q => by omega⟩, fun z => ⟨fun z2 => h ν hA hs ⟨a1', a2, a3, a4, a5, a6, fun q => absurd q z, fun q q2 => ?_⟩, fun z2 => ⟨by omega, fun m13 h13 m14 h14 => ?_⟩⟩⟩
  · have x := a8 q q2
    have hl : R = [] := List.eq_nil_of_length_eq_zero (by have := a5 q2; omega)
    subst hl
    exact ⟨fun f i f0 f1 i0 i1 => by
      by_cases e : i < t + 1
      · exact x.2.1 f i f0 f1 (Or.inl e)
      · exact x.1 f i f0 f1 (by omega) i1, fun f i f0 f1 hi => x.2.1 f i f0 f1 (by omega), x.2.2.1, x.2.2.2⟩
  · have s5 := hs.2.2.2.2.2
    have q0 := s5 0 t (by decide) (by decide) t0 (by omega)
    have q1 := s5 1 t (by decide) (by decide) t0 (by omega)
    rw [show (127 + 0 : Int) = 127 by decide] at q0
    rw [show (127 + 1 : Int) = 128 by decide] at q1
    rw [jm_or_bit q0.1 (by omega) a0 (by omega)] at h13
    have e128 : m13 128 t = ν 128 t := by rw [h13, jm_up_ne (by decide)]
    rw [e128, jm_or_bit q1.1 (by omega) k0 (by omega)] at h14
    have oth : ∀ q, q ≠ 127 → q ≠ 128 → m14 q = ν q := fun q q1 q2 => by rw [h14, jm_up_ne q2, h13, jm_up_ne q1]
    have v0 : m14 127 t = sor (ν 127 t) a := by rw [h14, jm_up_ne (by decide), h13, jm_up_at]
    have v1 : m14 128 t = sor (ν 128 t) k := by rw [h14, jm_up_at]
    have w0 : ∀ i, i ≠ t → m14 127 i = ν 127 i := fun i hi => by rw [h14, jm_up_ne (by decide), h13, jm_up_i hi]
    have w1 : ∀ i, i ≠ t → m14 128 i = ν 128 i := fun i hi => by rw [h14, jm_up_i hi, h13, jm_up_ne (by decide)]
    have mf : ∀ f i : Int, 0 ≤ f → f ≤ 1 → i ≠ t → m14 (127 + f) i = ν (127 + f) i := by
      intro f i f0 f1 hi
      rcases (show f = 0 ∨ f = 1 by omega) with rfl | rfl
      · exact w0 i hi
      · exact w1 i hi
    refine h m14 (hA.of (fun q hq => oth q (by have := hA.1.p; omega) (by have := hA.1.p; omega))) ⟨by rw [oth 124 (by decide) (by decide)]; exact hs.1, by rw [oth 124 (by decide) (by decide)]; exact hs.2.1, by rw [oth 124 (by decide) (by decide)]; exact hs.2.2.1, fun i i0 i1 => by rw [oth 125 (by decide) (by decide), oth 126 (by decide) (by decide)]; exact hs.2.2.2.1 i i0 i1, by rw [oth 124 (by decide) (by decide)]; exact hs.2.2.2.2.1, fun f i f0 f1 i0 i1 => ?_⟩ ⟨fun q e1 e2 e3 e4 => by rw [oth q (by omega) (by omega)]; exact a1' q e1 e2 e3 e4, fun j j1 j2 => by rw [oth 37 (by decide) (by decide)]; exact a2 j j1 j2, fun j hj => by rw [oth 124 (by decide) (by decide)]; exact a3 j hj, by rw [oth 124 (by decide) (by decide)]; exact a4, by rw [oth 124 (by decide) (by decide)]; exact a5, by rw [oth 124 (by decide) (by decide)]; exact a6, fun q => absurd q z, fun q q2 => ?_⟩
    · rcases (show f = 0 ∨ f = 1 ∨ f = 2 by omega) with rfl | rfl | rfl
      · by_cases e : i = t
        · rw [e, show (127 + 0 : Int) = 127 by decide, v0]; exact sor_lt (n := 10) q0.1 (by omega) a0 (by omega)
        · rw [mf 0 i (by decide) (by decide) e]; exact s5 0 i f0 f1 i0 i1
      · by_cases e : i = t
        · rw [e, show (127 + 1 : Int) = 128 by decide, v1]; exact sor_lt (n := 10) q1.1 (by omega) k0 (by omega)
        · rw [mf 1 i (by decide) (by decide) e]; exact s5 1 i f0 f1 i0 i1
      · rw [oth _ (by decide) (by decide)]; exact s5 2 i f0 f1 i0 i1
    · have x := a8 q q2
      have hne : R ≠ [] := fun e => by
        have := a4.2
        rw [e] at this
        simp at this
        omega
      refine ⟨fun f i f0 f1 i0 i1 => ?_, fun f i f0 f1 hi => by rw [mf f i f0 f1 (by omega)]; exact x.2.1 f i f0 f1 (by omega), fun i i0 i1 => by rw [oth 129 (by decide) (by decide)]; exact x.2.2.1 i i0 i1, fun i hi => by rw [oth 129 (by decide) (by decide)]; exact x.2.2.2 i hi⟩
      by_cases e : i = t
      · subst e
        have hm0 := hm f i f0 (by omega) t0 (by omega)
        have un := x.2.1 f i f0 f1 (Or.inl (by omega))
        rcases (show f = 0 ∨ f = 1 by omega) with rfl | rfl
        · rw [show (127 + 0 : Int) = 127 by decide] at hm0 un ⊢
          rw [v0, un, sMk_const (g := sFd ρ 0 i) (v := a) R _ hm0.1 (fun y hy => (show sFd ρ 0 i y = y.1 0 i from rfl).trans (hR y hy).1) hne]
        · rw [show (127 + 1 : Int) = 128 by decide] at hm0 un ⊢
          rw [v1, un, sMk_const (g := sFd ρ 1 i) (v := k) R _ hm0.1 (fun y hy => (show sFd ρ 1 i y = y.1 1 i from rfl).trans (hR y hy).2) hne]
      · rw [mf f i f0 f1 e]; exact x.1 f i f0 f1 (by omega) i1
theorem c_T_fill (hN : N ≤ 24) (htl : tl = 0 ∨ tl = 1) (hT : ∀ t : Int, 0 ≤ t → t < N → (T (2 * t) = -1 ∨ 0 ≤ T (2 * t) ∧ T (2 * t) < ρ 0) ∧ (T (2 * t + 1) = -1 ∨ 0 ≤ T (2 * t + 1) ∧ T (2 * t + 1) < ρ 1)) : ∀ (r : Nat) (b : sB) (μ : jm_M) (t : Int) (Q : Option jm_V → jm_M → Prop), b.2.1 + r = N → t = b.2.1 → tA μ ρ 37 p 400 b → wS T N tl en μ → μ 124 3 + (sFi ρ T r b).length < 2147483647 →
    (∀ ν, tA ν ρ 37 p 400 b → wS T N tl en ν → wG ρ N t tl en (sFi ρ T r b) μ ν → Q none ν) → jc E m_X9_fill (d + r + 6) [jm_R 124, jm_R 37, jm_I t] μ Q
  | 0, b, μ, t, Q, hn, ht, hA, hs, hl, h => by
    have hl' : μ 124 3 + 1 < 2147483647 := hl
    have tf := t_fill0 (E := E) (d := d + 1) (Q := Q) hA (show b.2.1 = N by omega) hN hs htl (by omega) (by rw [← ht]; exact h)
    refine e_X9_fill (d := d + 5) (fun _ => ?_)
    rw [hs.1]
    exact ⟨fun _ => tf, fun z => absurd (show (N : Int) ≤ t by omega) z⟩
  | r + 1, b, μ, t, Q, hn, ht, hA, hs, hl, h => by
    have hW := hA.2.2.1
    have hG := hA.2.2.2.2.2.1
    have hP := hW.1
    have hP8 := hW.2.1
    have hK := hW.2.2.1
    have hK10 := hW.2.2.2.1
    have t0 := hG.1
    have hTt := hT t (by omega) (by omega)
    have hTi := hs.2.2.2.1 t (by omega) (by omega)
    have hR := sFi_alt (r := r) ht hTt.1 hTt.2
    generalize sFi ρ T (r + 1) b = R at hR h hl
    generalize hFK : (fun a k : Int => if sWr ρ b a k = 0 then sFi ρ T r (sPush ρ b a k) else []) = FK at hR
    have hFK' : ∀ a k, FK a k = if sWr ρ b a k = 0 then sFi ρ T r (sPush ρ b a k) else [] := fun a k => by rw [← hFK]
    have hR' : R = sFl (fun a => sFl (FK a) (sCt (T (2 * t + 1)) (ρ 1)) (sLo (T (2 * t + 1)))) (sCt (T (2 * t)) (ρ 0)) (sLo (T (2 * t))) := by rw [hR, ← hFK]
    clear hR hFK
    generalize hu : T (2 * t) = u at hR' hTt hTi
    generalize hv : T (2 * t + 1) = v at hR' hTt hTi
    generalize hFA : (fun a : Int => sFl (FK a) (sCt v (ρ 1)) (sLo v)) = FA at hR'
    have hFA' : ∀ a, FA a = sFl (FK a) (sCt v (ρ 1)) (sLo v) := fun a => by rw [← hFA]
    clear hFA
    have key : ∀ (lw lk : Int), lw = sLo u + sCt u (ρ 0) - 1 → lk = sLo v + sCt v (ρ 1) - 1 → ∀ (m : Nat) (a : Int) (L : List sB) (ξ : jm_M), a + m = lw + 1 → 0 ≤ a → tA ξ ρ 37 p 400 b → wS T N tl en ξ → wG ρ N t tl en L μ ξ → R = L ++ sFl FA m a → jg E m_X9_fill (d + r + 6) 113 [some (jm_R 124), some (jm_R 37), some (jm_I t), some (jm_I lw), some (jm_I lk), some (jm_I a), none, none] [] ξ Q := by
      intro lw lk hlw hlk m
      have lw8 : lw < ρ 0 := by
        unfold sLo sCt at hlw
        by_cases e : u = -1
        · rw [if_pos e, if_pos e] at hlw; omega
        · rw [if_neg e, if_neg e] at hlw; omega
      have lk10 : lk < ρ 1 ∧ 0 ≤ sLo v := by
        unfold sLo sCt at *
        by_cases e : v = -1
        · rw [if_pos e, if_pos e] at hlk; rw [if_pos e]; omega
        · rw [if_neg e, if_neg e] at hlk; rw [if_neg e]; omega
      induction m with
      | zero =>
        intro a L ξ g1 g2 g3 g4 g5 g6
        have : R = L := by rw [g6]; exact List.append_nil L
        subst this
        exact r_X9_fill_113 (d := d + r + 6) ⟨fun _ => h ξ g3 g4 g5, fun z => absurd (show lw < a by omega) z⟩
      | succ m ih =>
        intro a L ξ g1 g2 g3 g4 g5 g6
        have g6' : R = L ++ (FA a ++ sFl FA m (a + 1)) := g6
        rw [hFA'] at g6'
        have inner : ∀ (m' : Nat) (k : Int) (L : List sB) (ξ : jm_M), k + m' = lk + 1 → 0 ≤ k → tA ξ ρ 37 p 400 b → wS T N tl en ξ → wG ρ N t tl en L μ ξ → R = L ++ (sFl (FK a) m' k ++ sFl FA m (a + 1)) → jg E m_X9_fill (d + r + 6) 137 [some (jm_R 124), some (jm_R 37), some (jm_I t), some (jm_I lw), some (jm_I lk), some (jm_I a), some (jm_I k), none] [] ξ Q := by
          intro m'
          induction m' with
          | zero =>
            intro k L ξ g1' g2' g3' g4' g5' g6'
            refine r_X9_fill_137 (d := d + r + 6) ⟨fun _ => ?_, fun z => absurd (show lk < k by omega) z⟩
            rw [jm_wr_id (a := a + 1) (by omega) (by omega)]
            exact ih (a + 1) L ξ (by omega) (by omega) g3' g4' g5' g6'
          | succ m' ih' =>
            intro k L ξ g1' g2' g3' g4' g5' g6'
            have g6 : R = L ++ (FK a k ++ sFl (FK a) m' (k + 1) ++ sFl FA m (a + 1)) := g6'
            rw [hFK'] at g6
            have a8 : a < ρ 0 := by omega
            have hcnt := g5'.2.2.2.1
            refine r_X9_fill_137 (d := d + r + 6) ⟨fun z => absurd z (by omega), fun _ => ?_⟩
            rw [g4'.2.2.1, jm_wr_id (a := k + 1) (by omega) (by omega), jm_wr_id (a := t + 1) (by omega) (by omega)]
            refine ⟨fun z => ?_, fun z => ⟨is_37, c_T_flaw g3' (jq_I ⟨fun z2 => ?_, fun z2 => ?_⟩)⟩⟩
            · have gS := g5'.trans (wG_skip (R := (if sWr ρ b a k = 0 then sFi ρ T r (sPush ρ b a k) else [])) z)
              exact ih' (k + 1) _ ξ (by omega) (by omega) g3' g4' gS (by rw [g6]; simp only [List.append_assoc])
            · rw [sFw_0 g2 a8 g2' (by omega) (by omega)] at z2
              rw [if_neg z2] at g6
              exact ih' (k + 1) L ξ (by omega) (by omega) g3' g4' g5' g6
            · rw [sFw_0 g2 a8 g2' (by omega) (by omega)] at z2
              have z2' := Decidable.not_not.mp z2
              rw [if_pos z2'] at g6
              have nb := (sPush_c (ρ := ρ) (b := b) (who := a) (k := k) rfl).1
              refine c_T_add g3' (by omega) g2 a8 g2' (by omega) z2' (fun ξ2 A2 f2 _ => ?_)
              have e2 := fun q (h1 : 52 < q) => f2.1 q (by omega) (by omega)
              have S2 := wS_fr f2 g4'
              have hlen : R.length = L.length + ((sFi ρ T r (sPush ρ b a k)).length + (sFl (FK a) m' (k + 1)).length + (sFl FA m (a + 1)).length) := by rw [g6]; simp only [List.length_append]
              refine c_T_fill hN htl hT r (sPush ρ b a k) ξ2 (t + 1) _ (by omega) (by omega) A2 S2 (by rw [e2 124 (by decide)]; omega) (fun ξ3 A3 S3 G3 _ => ?_)
              refine c_T_back A3 hG g2 a8 g2' (by omega) z2' (fun ξ4 A4 f4 _ => ?_)
              have S4 := wS_fr f4 S3
              have G4 : wG ρ N (t + 1) tl en (sFi ρ T r (sPush ρ b a k)) ξ ξ4 := by
                have := ((wG_fr (ρ := ρ) (N := N) (t := t + 1) (tl := tl) (en := en) f2).trans G3).trans (wG_fr f4)
                rw [List.append_nil, List.nil_append] at this
                exact this
              refine wG_mark (F := fun m => jg E m_X9_fill (d + r + 6) 137 [some (jm_R 124), some (jm_R 37), some (jm_I t), some (jm_I lw), some (jm_I lk), some (jm_I a), some (jm_I (k + 1)), none] [] m Q) (fun x hx => ⟨?_, ?_⟩) (by omega) (by omega) hN htl g2 (by omega) g2' (by omega) g4'.2.2.2.2.2 A4 S4 G4 (fun ξ5 A5 S5 G5 => ?_)
              · rw [sFi_keep (by decide) r _ (by omega) x hx, ht]; exact (sPush_n rfl).1
              · rw [sFi_keep (by decide) r _ (by omega) x hx, ht]; exact (sPush_n rfl).2.1
              · exact ih' (k + 1) _ ξ5 (by omega) (by omega) A5 S5 (g5'.trans G5) (by rw [g6]; simp only [List.append_assoc])
        refine r_X9_fill_113 (d := d + r + 6) ⟨fun z => absurd z (by omega), fun _ => ⟨by omega, ?_⟩⟩
        rw [(g4.2.2.2.1 t (by omega) (by omega)).2, hv]
        have hlo : (v ≠ -1 → sLo v = lk) ∧ (v = -1 → sLo v = 0) := by
          unfold sLo sCt at *
          by_cases e : v = -1
          · rw [if_pos e]; exact ⟨fun z => absurd e z, fun _ => rfl⟩
          · rw [if_neg e, if_neg e] at hlk; rw [if_neg e]; exact ⟨fun _ => by omega, fun z => absurd z e⟩
        refine ⟨fun z => ?_, fun z => ?_⟩
        · have := inner (sCt v (ρ 1)) (sLo v) L ξ (by omega) lk10.2 g3 g4 g5 g6'
          rw [hlo.1 z] at this
          exact this
        · have := inner (sCt v (ρ 1)) (sLo v) L ξ (by omega) lk10.2 g3 g4 g5 g6'
          rw [hlo.2 (Decidable.not_not.mp z)] at this
          exact this
    have g0 : wG ρ N t tl en [] μ μ := wG_fr tFr.rfl
    have start : ∀ lw lk a, lw = sLo u + sCt u (ρ 0) - 1 → lk = sLo v + sCt v (ρ 1) - 1 → a = sLo u → jg E m_X9_fill (d + r + 6) 113 [some (jm_R 124), some (jm_R 37), some (jm_I t), some (jm_I lw), some (jm_I lk), some (jm_I a), none, none] [] μ Q := by
      intro lw lk a e1 e2 e3
      subst e3
      exact key lw lk e1 e2 (sCt u (ρ 0)) (sLo u) [] μ (by omega) (by unfold sLo; split <;> omega) hA hs g0 hR'
    refine e_X9_fill (d := d + r + 6) (fun _ => ?_)
    rw [hs.1, hTi.1, hTi.2, hA.2.1, hA.2.2.2.1.1, hA.2.2.2.1.2.1]
    have cu : (u = -1 → sLo u = 0 ∧ (sCt u (ρ 0) : Int) = ρ 0) ∧ (u ≠ -1 → sLo u = u ∧ (sCt u (ρ 0) : Int) = 1) := by
      unfold sLo sCt
      exact ⟨fun e => by rw [if_pos e, if_pos e]; omega, fun e => by rw [if_neg e, if_neg e]; omega⟩
    have cv : (v = -1 → sLo v = 0 ∧ (sCt v (ρ 1) : Int) = ρ 1) ∧ (v ≠ -1 → sLo v = v ∧ (sCt v (ρ 1) : Int) = 1) := by
      unfold sLo sCt
      exact ⟨fun e => by rw [if_pos e, if_pos e]; omega, fun e => by rw [if_neg e, if_neg e]; omega⟩
    refine ⟨fun z => absurd z (by omega), fun _ => ⟨fun _ => ⟨by omega, fun zu x hx => ⟨fun zv y hy => ?_, fun zv => ⟨is_37, hA.1.i5, fun y hy => ?_⟩⟩, fun zu => ⟨is_37, hA.1.i5, fun x hx => ⟨fun zv y hy => ?_, fun zv y hy => ?_⟩⟩⟩, fun z => absurd (show t < 24 by omega) z⟩⟩
    · have := cu.2 zu; have := cv.2 zv
      exact start x y x (by omega) (by omega) (by omega)
    · have := cu.2 zu; have := cv.1 (Decidable.not_not.mp zv)
      rw [jm_wr_id (by omega) (by omega)] at hy
      exact start x y x (by omega) (by omega) (by omega)
    · have := cu.1 (Decidable.not_not.mp zu); have := cv.2 zv
      rw [jm_wr_id (by omega) (by omega)] at hx
      exact start x y 0 (by omega) (by omega) (by omega)
    · have := cu.1 (Decidable.not_not.mp zu); have := cv.1 (Decidable.not_not.mp zv)
      rw [jm_wr_id (by omega) (by omega)] at hx hy
      exact start x y 0 (by omega) (by omega) (by omega)
end WH
