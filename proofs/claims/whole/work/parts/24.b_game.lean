theorem sBest_or {mine c v : Int} : sBest mine c v = c ∨ sBest mine c v = v := by
  unfold sBest
  split
  · exact Or.inr rfl
  · split <;> split <;> simp
theorem sBest_mem {mine : Int} : ∀ (l : List Int) (c : Int), l.foldl (sBest mine) c = c ∨ l.foldl (sBest mine) c ∈ l
  | [], c => Or.inl rfl
  | x :: l, c => by
    rw [List.foldl_cons]
    rcases sBest_mem l (sBest mine c x) with h | h
    · rcases sBest_or (mine := mine) (c := c) (v := x) with q | q
      · rw [q] at h ⊢; exact Or.inl h
      · rw [q] at h ⊢; right; rw [h]; exact List.mem_cons_self
    · exact Or.inr (List.mem_cons_of_mem _ h)
theorem sPl_top {ρ : sR} {w st side : Int} (hW : sWR ρ) : ∀ (L : Nat) (mine : Int) (b : sB), L ≤ 8 → b.2.1 ≤ 400 → mine = 0 ∨ mine = 1 → sPl ρ w st side L mine b ≤ L ∨ sPl ρ w st side L mine b = 99
  | 0, mine, b, _, _, _ => by unfold sPl; split <;> omega
  | L + 1, mine, b, hL, hn, hm => by
    by_cases h1 : w < b.2.1 ∧ sSt ρ b w = st
    · rw [sPl, if_pos h1]; omega
    · by_cases h2 : b.2.1 = 400
      · rw [sPl, if_neg h1, if_pos h2]; omega
      · rw [sPl_vs h1 h2]
        have hl : ∀ v, v ∈ sVs ρ w st side L mine b → v ≤ ((L + 1 : Nat) : Int) ∨ v = 99 := by
          intro v hv
          obtain ⟨x, k, hLg, rfl⟩ := (sVs_mem (by omega) hW).mp hv
          have h8 : (sPush ρ b x k).2.1 ≤ 400 := by rw [(sPush_c rfl).1]; omega
          have q1 := sPl_in (w := w) (st := st) (side := side) hW L (1 - mine) _ h8 (by omega)
          rcases sPl_top (w := w) (st := st) (side := side) hW L (1 - mine) _ (by omega) h8 (by omega) with q | q
          · exact Or.inl ((sInc_le q1 (by omega)).mpr q)
          · rw [q]; exact Or.inr rfl
        rcases sBest_mem (mine := mine) (sVs ρ w st side L mine b) (-1) with q | q
        · rw [if_pos q]; exact Or.inr rfl
        · split
          · exact Or.inr rfl
          · exact hl _ q
section TG
variable {E : jm_E} {d : Nat} {μ : jm_M} {Q : Option jm_V → jm_M → Prop} {ρ : sR} {a p : Int} {b : sB} {w st side : Int}
theorem c_T_forces (w0 : 0 ≤ w) (s0 : 0 ≤ side) (s1 : side < 256) : ∀ (r : Nat) (b : sB) (μ : jm_M) (mine : Int) (Q : Option jm_V → jm_M → Prop), r ≤ 8 → mine = 0 ∨ mine = 1 → tA μ ρ a p 400 b → μ 121 0 = w → μ 121 1 = st → μ 121 3 = side →
    (∀ ν, tA ν ρ a p 400 b → tFr a μ ν → (sFo ρ w st side r mine b → Q (some (jm_I 1)) ν) ∧ (¬ sFo ρ w st side r mine b → Q (some (jm_I 0)) ν)) →
    jc E m_X3_forces (d + r + 6) [jm_R 121, jm_R a, jm_I r, jm_I mine] μ Q
  | 0, b, μ, mine, Q, hr8, hm, h0, e0, e1, e3, h => by
    have g := h μ h0 tFr.rfl
    refine e_X3_forces (d := d + 5) (fun _ => ⟨h0.1.i6, ?_⟩)
    rw [e0, e1]
    exact c_T_isSo h0 (fun _ q1 q2 => jq_Z (jb_f (by decide) (g.1 ⟨q1, q2⟩))) (fun q => jq_Z (jb_t rfl (jb_t (by omega) (g.2 (fun y => q ⟨⟨w0, y.1⟩, y.2⟩)))))
  | r + 1, b, μ, mine, Q, hr8, hm, h0, e0, e1, e3, h => by
    have hW := h0.2.2.1
    have hG := h0.2.2.2.2.2.1
    have hn4 := hG.2.1
    have hP := hW.1
    have hP8 := hW.2.1
    have hK := hW.2.2.1
    have hK10 := hW.2.2.2.1
    have ha := h0.1.a
    have g0 := h μ h0 tFr.rfl
    refine e_X3_forces (d := d + r + 6) (fun _ => ⟨h0.1.i6, ?_⟩)
    rw [e0, e1]
    refine c_T_isSo h0 (fun _ q1 q2 => jq_Z (jb_f (by decide) (g0.1 (Or.inl ⟨q1, q2⟩)))) (fun q => jq_Z (jb_t rfl (jb_f (by omega) ?_)))
    have hso : ¬ (w < b.2.1 ∧ sSt ρ b w = st) := fun y => q ⟨⟨w0, y.1⟩, y.2⟩
    rw [e0, e1]
    refine c_T_mayCome (mm := r + 1) h0 rfl (by omega) w0 (jq_Z (jb_t (by decide) ?_)) (fun hno => jq_Z (jb_f (by decide) (g0.2 ?_)))
    · have key : ∀ (m : Nat) (x sp : Int) (ξ : jm_M), ρ 0 - x = m → 0 ≤ x → (sp = 0 ∨ sp = 1) → tA ξ ρ a p 400 b → tFr a μ ξ → (sp = 1 ↔ ∃ y k, sLg ρ side mine b y k ∧ y < x) → (∀ y k, sLg ρ side mine b y k → y < x → (sFo ρ w st side r (1 - mine) (sPush ρ b y k) ↔ mine = 0)) →
          jg E m_X3_forces (d + r + 6) 45 [some (jm_R 121), some (jm_R a), some (jm_I ((r + 1 : Nat) : Int)), some (jm_I mine), some (jm_I sp), some (jm_I x), none, none, none, none] [] ξ Q := by
        intro m
        induction m with
        | zero =>
          intro x sp ξ g1 g2 g3 g4 g5 g6 g7
          have hh := h ξ g4 g5
          refine r_X3_forces_45 (d := d + r + 6) ⟨g4.1.i6, ?_⟩
          rw [g4.2.1, g4.2.2.2.1.1]
          refine ⟨g4.1.i5, fun _ => ⟨fun z => hh.2 ?_, fun z => ⟨fun z2 => hh.2 ?_, fun z2 => hh.1 ?_⟩⟩, fun z => absurd z (by omega)⟩
          · intro hf
            have none_y : ¬ ∃ y k, sLg ρ side mine b y k := fun ⟨y, k, hy⟩ => by
              have := g6.mpr ⟨y, k, hy, by have := hy.1.2; omega⟩
              omega
            rcases hf with hf | ⟨_, y, k, hf, _⟩ | ⟨_, hf, _⟩
            · exact hso hf
            · exact none_y ⟨y, k, hf⟩
            · exact none_y hf
          · intro hf
            rcases hf with hf | ⟨_, y, k, hf, hf2⟩ | ⟨hf, _, _⟩
            · exact hso hf
            · have := (g7 y k hf (by have := hf.1.2; omega)).mp hf2
              exact z2 this
            · exact hf (hm.resolve_left z2)
          · obtain ⟨y, k, hy, _⟩ := g6.mp (by omega)
            exact Or.inr (Or.inr ⟨by omega, ⟨y, k, hy⟩, fun y k hy => (g7 y k hy (by have := hy.1.2; omega)).mpr (by omega)⟩)
        | succ m ih =>
          intro x sp ξ g1 g2 g3 g4 g5 g6 g7
          refine r_X3_forces_45 (d := d + r + 6) ⟨g4.1.i6, ?_⟩
          rw [g4.2.1, g4.2.2.2.1.1]
          have inner : ∀ (bt : Int), 0 ≤ bt → bt < 1024 → (∀ k, 0 ≤ k → k < ρ 1 → (sbt bt k = true ↔ sLg ρ side mine b x k)) → ∀ (m' : Nat) (k sp : Int) (ξ : jm_M), ρ 1 - k = m' → 0 ≤ k → (sp = 0 ∨ sp = 1) → tA ξ ρ a p 400 b → tFr a μ ξ → (sp = 1 ↔ ∃ y j, sLg ρ side mine b y j ∧ (y < x ∨ y = x ∧ j < k)) → (∀ y j, sLg ρ side mine b y j → (y < x ∨ y = x ∧ j < k) → (sFo ρ w st side r (1 - mine) (sPush ρ b y j) ↔ mine = 0)) →
              jg E m_X3_forces (d + r + 6) 97 [some (jm_R 121), some (jm_R a), some (jm_I ((r + 1 : Nat) : Int)), some (jm_I mine), some (jm_I sp), some (jm_I x), none, some (jm_I bt), some (jm_I k), none] [] ξ Q := by
            intro bt b0 b1 hbt m'
            induction m' with
            | zero =>
              intro k sp ξ g1' g2' g3' g4' g5' g6' g7'
              refine r_X3_forces_97 (d := d + r + 6) ⟨g4'.1.i6, ?_⟩
              rw [g4'.2.1, g4'.2.2.2.1.2.1, jm_wr_id (a := x + 1) (by omega) (by omega)]
              refine ⟨g4'.1.i5, fun _ => ih (x + 1) sp ξ (by omega) (by omega) g3' g4' g5' ?_ ?_, fun z => absurd z (by omega)⟩
              · exact g6'.trans ⟨fun ⟨y, j, q1, q2⟩ => ⟨y, j, q1, by omega⟩, fun ⟨y, j, q1, q2⟩ => ⟨y, j, q1, by have := q1.2.1.2; omega⟩⟩
              · exact fun y j q1 q2 => g7' y j q1 (by have := q1.2.1.2; omega)
            | succ m' ih' =>
              intro k sp ξ g1' g2' g3' g4' g5' g6' g7'
              refine r_X3_forces_97 (d := d + r + 6) ⟨g4'.1.i6, ?_⟩
              rw [g4'.2.1, g4'.2.2.2.1.2.1, jm_bit b0 (by omega) g2' (by omega), jm_wr_id (a := k + 1) (by omega) (by omega), jm_wr_id (a := ((r + 1 : Nat) : Int) - 1) (by omega) (by omega), show ((r + 1 : Nat) : Int) - 1 = r by omega]
              have hk := hbt k g2' (by omega)
              refine ⟨g4'.1.i5, fun z => absurd z (by omega), fun _ => ⟨fun z => ?_, fun z => ?_⟩⟩
              · have z' : ¬ sLg ρ side mine b x k := fun q => by rw [if_pos (hk.mpr q)] at z; omega
                refine ih' (k + 1) sp ξ (by omega) (by omega) g3' g4' g5' ?_ ?_
                · refine g6'.trans ⟨fun ⟨y, j, q1, q2⟩ => ⟨y, j, q1, by omega⟩, fun ⟨y, j, q1, q2⟩ => ⟨y, j, q1, ?_⟩⟩
                  by_cases e : y = x ∧ j = k
                  · rw [e.1, e.2] at q1; exact absurd q1 z'
                  · omega
                · intro y j q1 q2
                  by_cases e : y = x ∧ j = k
                  · rw [e.1, e.2] at q1; exact absurd q1 z'
                  · exact g7' y j q1 (by omega)
              · have z' : sLg ρ side mine b x k := by
                  by_cases q : sbt bt k = true
                  · exact hk.mp q
                  · rw [if_neg q] at z; exact absurd rfl z
                have hGp := sGB_push hW hG z'.2.2.2.1 g2 (by omega) g2' (by omega) z'.2.2.2.2
                have step : ∀ ξ4, tA ξ4 ρ a p 400 b → tFr a μ ξ4 → (sFo ρ w st side r (1 - mine) (sPush ρ b x k) ↔ mine = 0) → jg E m_X3_forces (d + r + 6) 97 [some (jm_R 121), some (jm_R a), some (jm_I ((r + 1 : Nat) : Int)), some (jm_I mine), some (jm_I 1), some (jm_I x), none, some (jm_I bt), some (jm_I (k + 1)), none] [] ξ4 Q := by
                  intro ξ4 A4 f4 hfo
                  refine ih' (k + 1) 1 ξ4 (by omega) (by omega) (Or.inr rfl) A4 f4 ⟨fun _ => ⟨x, k, z', by omega⟩, fun _ => rfl⟩ (fun y j q1 q2 => ?_)
                  by_cases e : y = x ∧ j = k
                  · rw [e.1, e.2]; exact hfo
                  · exact g7' y j q1 (by omega)
                refine c_T_add g4' z'.2.2.2.1 g2 (by omega) g2' (by omega) z'.2.2.2.2 (fun ξ2 A2 f2 _ => ?_)
                have f2' := g5'.trans f2
                have k1 : ∀ j, ξ2 121 j = μ 121 j := fun j => by rw [f2'.1 121 (by omega) (by omega)]
                refine ⟨fun zm => ?_, fun zm => ?_⟩
                · have m1 : mine = 1 := hm.resolve_left zm
                  subst m1
                  refine c_T_forces w0 s0 s1 r (sPush ρ b x k) ξ2 0 _ (by omega) (Or.inl rfl) A2 (by rw [k1]; exact e0) (by rw [k1]; exact e1) (by rw [k1]; exact e3) (fun ξ3 A3 f3 => ⟨fun hf => jq_Z ?_, fun hf => jq_Z ?_⟩)
                  · refine c_T_back A3 hG g2 (by omega) g2' (by omega) z'.2.2.2.2 (fun ξ4 A4 f4 _ => jb_f (by decide) ?_)
                    exact (h ξ4 A4 ((f2'.trans f3).trans f4)).1 (Or.inr (Or.inl ⟨rfl, x, k, z', hf⟩))
                  · refine c_T_back A3 hG g2 (by omega) g2' (by omega) z'.2.2.2.2 (fun ξ4 A4 f4 _ => jb_t (by decide) ?_)
                    exact step ξ4 A4 ((f2'.trans f3).trans f4) ⟨fun q => absurd q hf, fun q => by omega⟩
                · have m1 : mine = 0 := Decidable.not_not.mp zm
                  subst m1
                  refine c_T_forces w0 s0 s1 r (sPush ρ b x k) ξ2 1 _ (by omega) (Or.inr rfl) A2 (by rw [k1]; exact e0) (by rw [k1]; exact e1) (by rw [k1]; exact e3) (fun ξ3 A3 f3 => ⟨fun hf => jq_Z ?_, fun hf => jq_Z ?_⟩)
                  · refine c_T_back A3 hG g2 (by omega) g2' (by omega) z'.2.2.2.2 (fun ξ4 A4 f4 _ => jb_t (by decide) ?_)
                    exact step ξ4 A4 ((f2'.trans f3).trans f4) ⟨fun _ => rfl, fun _ => hf⟩
                  · refine c_T_back A3 hG g2 (by omega) g2' (by omega) z'.2.2.2.2 (fun ξ4 A4 f4 _ => jb_f (by decide) ?_)
                    refine (h ξ4 A4 ((f2'.trans f3).trans f4)).2 (fun hff => ?_)
                    rcases hff with q | ⟨q, _⟩ | ⟨_, _, q⟩
                    · exact hso q
                    · omega
                    · exact hf (q x k z')
          have i0 : (sp = 1 ↔ ∃ y j, sLg ρ side mine b y j ∧ (y < x ∨ y = x ∧ j < 0)) := g6.trans ⟨fun ⟨y, j, q1, q2⟩ => ⟨y, j, q1, by omega⟩, fun ⟨y, j, q1, q2⟩ => ⟨y, j, q1, by have := q1.2.1.1; omega⟩⟩
          have i1 : ∀ y j, sLg ρ side mine b y j → (y < x ∨ y = x ∧ j < 0) → (sFo ρ w st side r (1 - mine) (sPush ρ b y j) ↔ mine = 0) := fun y j q1 q2 => g7 y j q1 (by have := q1.2.1.1; omega)
          have side' : ξ 121 3 = side := by rw [g5.1 121 (by omega) (by omega)]; exact e3
          have hsd : jm_and (jm_shr side x) 1 = sSd side x := jm_bit s0 (by omega) g2 (by omega)
          have off : sSd side x ≠ mine → jg E m_X3_forces (d + r + 6) 97 [some (jm_R 121), some (jm_R a), some (jm_I ((r + 1 : Nat) : Int)), some (jm_I mine), some (jm_I sp), some (jm_I x), none, some (jm_I 0), some (jm_I 0), none] [] ξ Q := fun q => inner 0 (by decide) (by decide) (fun k k0 k1 => by rw [sbt_0]; exact ⟨fun z => absurd z (by decide), fun z => absurd z.2.2.1 q⟩) (ρ 1).toNat 0 sp ξ (by omega) (by decide) g3 g4 g5 i0 i1
          have on : sSd side x = mine → jc E m_X6_choices (d + r + 6) [jm_R a, jm_I x] ξ (fun o m8 => ∀ r9 : Int, o = some (jm_I r9) → jg E m_X3_forces (d + r + 6) 97 [some (jm_R 121), some (jm_R a), some (jm_I ((r + 1 : Nat) : Int)), some (jm_I mine), some (jm_I sp), some (jm_I x), none, some (jm_I r9), some (jm_I 0), none] [] m8 Q) := fun q => by
            have ci := sCh_in (ρ := ρ) (b := b) (c := 400) (who := x) hW
            refine c_T_choices g4 g2 (by omega) (jq_I ?_)
            refine inner _ ci.1 ci.2 (fun k k0 k1 => ?_) (ρ 1).toNat 0 sp ξ (by omega) (by decide) g3 g4 g5 i0 i1
            rw [sCh_bt k0 k1, decide_eq_true_eq]
            exact ⟨fun z => ⟨⟨g2, by omega⟩, ⟨k0, k1⟩, q, (sFw_in z).2.2.1, (sFw_in z).2.2.2⟩, fun z => by rw [sFw_0 z.1.1 z.1.2 k0 k1 z.2.2.2.1]; exact z.2.2.2.2⟩
          rw [side', hsd]
          have s01 : sSd side x = 0 ∨ sSd side x = 1 := by unfold sSd; split <;> simp
          exact ⟨g4.1.i5, fun z => absurd z (by omega), fun _ => ⟨fun z => ⟨fun z2 => off (by omega), fun z2 => on (by omega)⟩, fun z => ⟨fun z2 => off (by omega), fun z2 => on (by omega)⟩⟩⟩
      exact key (ρ 0).toNat 0 0 μ (by omega) (by decide) (Or.inl rfl) h0 tFr.rfl ⟨fun q => by omega, fun ⟨y, k, q1, q2⟩ => by have := q1.1.1; omega⟩ (fun y k q1 q2 => by have := q1.1.1; omega)
    · intro hf
      have no : ∀ x k, sLg ρ side mine b x k → ∀ (m : Nat) (mn : Int) (b : sB), sGB ρ b → sNo ρ b w st m → ¬ sFo ρ w st side m mn b := by
        intro _ _ _ m
        induction m with
        | zero => exact fun mn b _ hno => sNo_so hno
        | succ m ih =>
          intro mn b hG hno hf
          rcases hf with hf | ⟨_, x, k, hl, hf⟩ | ⟨_, ⟨x, k, hl⟩, hf⟩
          · exact sNo_so hno hf
          · exact ih _ _ (sGB_push hW hG hl.2.2.2.1 hl.1.1 hl.1.2 hl.2.1.1 hl.2.1.2 hl.2.2.2.2) (sNo_push hW hG w0 hl.1.1 hl.1.2 hl.2.1.1 hl.2.1.2 hl.2.2.2.2 hno) hf
          · exact ih _ _ (sGB_push hW hG hl.2.2.2.1 hl.1.1 hl.1.2 hl.2.1.1 hl.2.1.2 hl.2.2.2.2) (sNo_push hW hG w0 hl.1.1 hl.1.2 hl.2.1.1 hl.2.1.2 hl.2.2.2.2 hno) (hf x k hl)
      have hfk := hf
      rcases hfk with hf2 | hf2 | hf2
      · exact hso hf2
      · obtain ⟨_, x, k, hl, _⟩ := hf2
        exact no x k hl (r + 1) mine b hG hno hf
      · obtain ⟨_, ⟨x, k, hl⟩, _⟩ := hf2
        exact no x k hl (r + 1) mine b hG hno hf
theorem c_T_forcedBy {k : Int} (w0 : 0 ≤ w) (s0 : 0 ≤ side) (s1 : side < 256) (k0 : 0 ≤ k) (k1 : k ≤ 8) (h0 : tA μ ρ a p 400 b) (e0 : μ 121 0 = w) (e1 : μ 121 1 = st)
    (h : ∀ ν, tA ν ρ a p 400 b → (∀ q, q ≠ 121 → q ≠ a → q < a + 10 ∨ a + 15 < q → ν q = μ q) → (∀ j, j ≠ 3 → ν 121 j = μ 121 j) → (∀ j, j ≠ 1 → j ≠ 2 → ν a j = μ a j) → Q (some (jm_I (if sPl ρ w st side k.toNat 1 b = 99 then -1 else sPl ρ w st side k.toNat 1 b))) ν) :
    jc E m_X3_forcedBy (d + 15) [jm_R 121, jm_R a, jm_I side, jm_I k] μ Q := by
  have ha := h0.1.a
  have hW := h0.2.2.1
  have hn4 := h0.2.2.2.2.2.1.2.1
  have pin := sPl_in (w := w) (st := st) (side := side) hW k.toNat 1 b hn4 (Or.inr rfl)
  have ptop := sPl_top (w := w) (st := st) (side := side) hW k.toNat 1 b (by omega) hn4 (Or.inr rfl)
  generalize hV : sPl ρ w st side k.toNat 1 b = V at pin ptop h
  refine e_X3_forcedBy (d := d + 14) (fun _ => ?_)
  have key : ∀ (m : Nat) (x : Int) (ξ : jm_M), x + m = k + 1 → 0 ≤ x → x ≤ V → tA ξ ρ a p 400 b → tFr a (jm_up μ 121 3 side) ξ → jg E m_X3_forcedBy (d + 14) 8 [some (jm_R 121), some (jm_R a), none, some (jm_I k), some (jm_I x)] [] ξ Q := by
    intro m
    induction m with
    | zero =>
      intro x ξ g1 g2 g3 g4 g5
      refine r_X3_forcedBy_8 (d := d + 14) ⟨fun _ => ?_, fun z => absurd (show k < x by omega) z⟩
      have := h ξ g4 (fun q q1 q2 q3 => by rw [g5.1 q q2 q3, jm_up_ne q1]) (fun j hj => by rw [g5.1 121 (by omega) (by omega), jm_up_i hj]) (fun j j1 j2 => by rw [g5.2 j j1 j2, jm_up_lj (by omega)])
      rw [if_pos (by omega)] at this
      exact this
    | succ m ih =>
      intro x ξ g1 g2 g3 g4 g5
      have k1 : ∀ j, ξ 121 j = jm_up μ 121 3 side 121 j := fun j => by rw [g5.1 121 (by omega) (by omega)]
      obtain ⟨r, rfl⟩ := jm_nat g2
      have hfo := sFo_pl (w := w) (st := st) (side := side) hW r k.toNat 1 b (by omega) (by omega) hn4 (Or.inr rfl)
      rw [hV] at hfo
      refine r_X3_forcedBy_8 (d := d + 14) ⟨fun z => absurd z (by omega), fun _ => ?_⟩
      have hd : d + 14 = (d + 8 - r) + r + 6 := by omega
      rw [hd]
      refine c_T_forces (w := w) (st := st) (side := side) w0 s0 s1 r b ξ 1 _ (by omega) (Or.inr rfl) g4 (by rw [k1, jm_up_i (by decide)]; exact e0) (by rw [k1, jm_up_i (by decide)]; exact e1) ((k1 3).trans jm_up_at) (fun ν A f => ⟨fun hf => jq_Z (jb_f (by decide) ?_), fun hf => jq_Z (jb_t rfl ?_)⟩)
      · have f' := g5.trans f
        have vr := hfo.mp hf
        have := h ν A (fun q q1 q2 q3 => by rw [f'.1 q q2 q3, jm_up_ne q1]) (fun j hj => by rw [f'.1 121 (by omega) (by omega), jm_up_i hj]) (fun j j1 j2 => by rw [f'.2 j j1 j2, jm_up_lj (by omega)])
        rw [if_neg (by omega), show V = (r : Int) by omega] at this
        exact this
      · rw [← hd, jm_wr_id (by omega) (by omega)]
        have : ¬ V ≤ (r : Int) := fun q => hf (hfo.mpr q)
        exact ih (r + 1) ν (by omega) (by omega) (by omega) A (g5.trans f)
  exact key (k.toNat + 1) 0 (jm_up μ 121 3 side) (by omega) (by decide) (by omega) (h0.up (by decide)) tFr.rfl
end TG
