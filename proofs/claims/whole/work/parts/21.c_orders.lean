/-! orders of the minutes -/
def sOr (ρ : sR) (mn : Nat) (mt : Int → Int) : Nat → Int → sB → List (List Int)
  | 0, _, _ => [[]]
  | r + 1, u, b => sFl (fun t => if sbt u t = true then [] else if sWr ρ b (mt (2 * t)) (mt (2 * t + 1)) = 0 then (sOr ρ mn mt r (sor u t) (sPush ρ b (mt (2 * t)) (mt (2 * t + 1)))).map (fun l => t :: l) else []) mn 0
theorem sOr_len {ρ : sR} {mn : Nat} {mt : Int → Int} (hn : mn ≤ 7) : ∀ (r : Nat) (u : Int) (b : sB), ((sOr ρ mn mt r u b).length : Int) ≤ 7 ^ r
  | 0, _, _ => by simp [sOr]
  | r + 1, u, b => by
    have c0 : (0 : Int) ≤ 7 ^ r := by exact_mod_cast Nat.zero_le (7 ^ r)
    have h := sFl_len (g := fun t => if sbt u t = true then [] else if sWr ρ b (mt (2 * t)) (mt (2 * t + 1)) = 0 then (sOr ρ mn mt r (sor u t) (sPush ρ b (mt (2 * t)) (mt (2 * t + 1)))).map (fun l => t :: l) else []) c0 mn 0 (fun t t0 t1 => by
      show ((if sbt u t = true then [] else if sWr ρ b (mt (2 * t)) (mt (2 * t + 1)) = 0 then (sOr ρ mn mt r (sor u t) (sPush ρ b (mt (2 * t)) (mt (2 * t + 1)))).map (fun l => t :: l) else [] : List (List Int)).length : Int) ≤ 7 ^ r
      split
      · simpa using c0
      · split
        · rw [List.length_map]
          exact sOr_len hn r _ _
        · simpa using c0)
    have h2 : (mn : Int) * 7 ^ r ≤ 7 * 7 ^ r := Int.mul_le_mul_of_nonneg_right (by omega) c0
    have e : (7 : Int) ^ (r + 1) = 7 * 7 ^ r := by rw [Int.pow_succ, Int.mul_comm]
    rw [e]
    exact Int.le_trans h h2
theorem sOr_each {ρ : sR} {mn : Nat} {mt : Int → Int} : ∀ (r : Nat) (u : Int) (b : sB) (l : List Int), l ∈ sOr ρ mn mt r u b → l.length = r
  | 0, _, _, l, h => by
    have : l = [] := by simpa [sOr] using h
    rw [this]; rfl
  | r + 1, u, b, l, h => by
    rw [sOr] at h
    refine sFl_mem (P := fun l => l.length = r + 1) mn 0 (fun t t0 t1 x hx => ?_) l h
    split at hx
    · cases hx
    · split at hx
      · obtain ⟨y, hy, rfl⟩ := List.mem_map.mp hx
        show y.length + 1 = r + 1
        rw [sOr_each r _ _ y hy]
      · cases hx
/-- orders have been found; the first one of all is kept -/
def mOg (i : Int) (n : Nat) (L : List (List Int)) (ξ ν : jm_M) : Prop :=
  (∀ p, p ≠ 133 → p < 144 ∨ (151 < p ∧ p < 159) ∨ 160 < p → ν p = ξ p) ∧ (∀ j, j ≠ 48 → j ≠ 49 → ν 133 j = ξ 133 j) ∧ (∀ j, j < i → ν 159 j = ξ 159 j) ∧ ν 133 48 = ξ 133 48 + L.length ∧
  ((ξ 133 48 ≠ 0 ∨ L = []) → ν 133 49 = ξ 133 49 ∧ ν 160 = ξ 160) ∧ (ξ 133 48 = 0 → ∀ l L', L = l :: L' → ν 133 49 = n ∧ (∀ j, 0 ≤ j → j < i → ν 160 j = ξ 159 j) ∧ sPt (ν 160) i l)
theorem mOg.trans {i : Int} {n : Nat} {L M : List (List Int)} {a b c : jm_M} (h0 : 0 ≤ a 133 48) (h1 : mOg i n L a b) (h2 : mOg i n M b c) : mOg i n (L ++ M) a c := by
  obtain ⟨p1, p2, p3, p4, p5, p6⟩ := h1
  obtain ⟨q1, q2, q3, q4, q5, q6⟩ := h2
  refine ⟨fun p hp hq => (q1 p hp hq).trans (p1 p hp hq), fun j j1 j2 => (q2 j j1 j2).trans (p2 j j1 j2), fun j hj => (q3 j hj).trans (p3 j hj), by rw [q4, p4, List.length_append]; omega, fun h => ?_, fun h l L' hl => ?_⟩
  · rcases h with h | h
    · have e1 := p5 (Or.inl h)
      have e2 := q5 (Or.inl (by omega))
      exact ⟨e2.1.trans e1.1, e2.2.trans e1.2⟩
    · obtain ⟨hL, hM⟩ := List.append_eq_nil_iff.mp h
      have e1 := p5 (Or.inr hL)
      have e2 := q5 (Or.inr hM)
      exact ⟨e2.1.trans e1.1, e2.2.trans e1.2⟩
  · cases L with
    | nil =>
      have e1 := p5 (Or.inr rfl)
      have hz : b 133 48 = 0 := by rw [p4, h]; rfl
      have g := q6 hz l L' hl
      exact ⟨g.1, fun j j0 j1 => (g.2.1 j j0 j1).trans (p3 j j1), g.2.2⟩
    | cons x L2 =>
      have hx : x = l := by
        have : x :: (L2 ++ M) = l :: L' := hl
        injection this
      subst hx
      have g := p6 h x L2 rfl
      have hz : b 133 48 ≠ 0 := by rw [p4, h, List.length_cons]; omega
      have e2 := q5 (Or.inl hz)
      exact ⟨e2.1.trans g.1, fun j j0 j1 => by rw [e2.2]; exact g.2.1 j j0 j1, by rw [e2.2]; exact g.2.2⟩
theorem mOg_fr {i : Int} {n : Nat} {a b : jm_M} (h : mFr 0 a b) : mOg i n [] a b :=
  ⟨fun p hp hq => h.1 p (by omega), fun j _ _ => by rw [h.1 133 (by decide)], fun j _ => by rw [h.1 159 (by decide)], by rw [h.1 133 (by decide)]; simp, fun _ => ⟨by rw [h.1 133 (by decide)], h.1 160 (by decide)⟩, fun _ l L' hl => by cases hl⟩
section MO
variable {E : jm_E} {d : Nat} {μ : jm_M} {Q : Option jm_V → jm_M → Prop} {ρ : sR} {mn : Nat} {mt : Int → Int}
theorem c_M_tryOrders (hW : sWR ρ) (hV : sVM ρ mn mt) (h0 : sTorn mn mt = 0) (hn : mn ≤ 7) : ∀ (r : Nat) (b : sB) (u : Int) (μ : jm_M) (Q : Option jm_V → jm_M → Prop), b.2.1 + r = mn → 0 ≤ u → u < 128 → mRu μ 0 ρ → mBd μ 0 b → sGB ρ b → mMn μ mn mt → 0 ≤ μ 133 48 → μ 133 48 + (sOr ρ mn mt r u b).length < 2147483648 →
    (∀ ν, mBd ν 0 b → mOg b.2.1 mn (sOr ρ mn mt r u b) μ ν → Q none ν) → jc E m_X11_tryOrders (d + r + 4) [jm_R 133, jm_I u] μ Q
  | 0, b, u, μ, Q, hb1, u0, u1, hr, hb, hG, hM, k0, k1, h => by
    have e150 := hb.1
    have hbn : b.2.1 = mn := by omega
    have k1' : μ 133 48 + 1 < 2147483648 := k1
    refine e_X11_tryOrders (d := d + 3) (fun _ x1 hx => ?_)
    rw [hM.1] at hx
    subst hx
    refine ⟨fun z => absurd (show μ 150 0 = mn by omega) z, fun _ => ⟨fun z => ?_, fun z => ?_⟩⟩
    · rw [jm_wr_id (by omega) (by omega)]
      refine h _ (mBd_up (by decide) hb) ⟨fun p p1 p2 => jm_up_ne p1, fun j j1 j2 => jm_up_i j1, fun j _ => jm_up_lj (by decide), jm_up_at, fun _ => ⟨jm_up_i (by decide), jm_up_ne (by decide)⟩, fun q => absurd q z⟩
    · have z' := Decidable.not_not.mp z
      have key : ∀ (m t : Nat) (ξ : jm_M), mn - t = m → t ≤ mn → (∀ p, p ≠ 160 → ξ p = μ p) → (∀ j : Int, 0 ≤ j → j < t → ξ 160 j = μ 159 j) → jg E m_X11_tryOrders (d + 3) 28 [some (jm_R 133), none, some (jm_I mn), some (jm_I t), none] [] ξ Q := by
        intro m
        induction m with
        | zero =>
          intro t ξ g1 g2 g3 g4
          have e133 := g3 133 (by decide)
          refine r_X11_tryOrders_28 (d := d + 3) ⟨fun _ => ?_, fun z => absurd (show (mn : Int) ≤ t by omega) z⟩
          rw [e133, jm_wr_id (by omega) (by omega)]
          refine h _ (mBd_up (by decide) (mBd_up (by decide) ⟨by rw [g3 150 (by decide)]; exact hb.1, by rw [g3 151 (by decide)]; exact hb.2.1, fun f t f0 f1 t0 t1 => by rw [g3 _ (by omega)]; exact hb.2.2 f t f0 f1 t0 t1⟩)) ⟨fun p p1 p2 => ?_, fun j j1 j2 => ?_, fun j j1 => ?_, ?_, fun q => ?_, fun _ l L' hl => ?_⟩
          · rw [jm_up_ne p1, jm_up_ne p1]; exact g3 p (by omega)
          · rw [jm_up_i j1, jm_up_i j2, e133]
          · rw [jm_up_lj (by decide), jm_up_lj (by decide), g3 159 (by decide)]
          · rw [jm_up_at]; rfl
          · rcases q with q | q
            · exact absurd z' q
            · cases q
          · have : l = [] := by
              have hl' : ([[]] : List (List Int)) = l :: L' := hl
              injection hl' with h1 _
              exact h1.symm
            subst this
            refine ⟨by rw [jm_up_i (by decide), jm_up_at], fun j j0 j1 => ?_, trivial⟩
            rw [jm_up_lj (by decide), jm_up_lj (by decide)]
            exact g4 j j0 (by omega)
        | succ m ih =>
          intro t ξ g1 g2 g3 g4
          refine r_X11_tryOrders_28 (d := d + 3) ⟨fun z => absurd z (by omega), fun _ => ⟨⟨by omega, by omega⟩, fun m3 h3 => ?_⟩⟩
          rw [jm_wr_id (by omega) (by omega)]
          refine ih (t + 1) m3 (by omega) (by omega) (fun p hp => by rw [h3, jm_up_ne hp]; exact g3 p hp) (fun j j0 j1 => ?_)
          by_cases hj : j = t
          · rw [hj, h3, jm_up_at, g3 159 (by decide)]
          · rw [h3, jm_up_i hj]; exact g4 j j0 (by omega)
      exact key mn 0 μ (by omega) (by omega) (fun _ _ => rfl) (fun j j0 j1 => by omega)
  | r + 1, b, u, μ, Q, hb1, u0, u1, hr, hb, hG, hM, k0, k1, h => by
    have e150 := hb.1
    have b0 := hG.1
    have hT := sTorn_0.mp h0
    obtain ⟨R, hR⟩ : ∃ R, R = sOr ρ mn mt (r + 1) u b := ⟨_, rfl⟩
    rw [← hR] at h k1
    rw [sOr] at hR
    generalize hF : (fun t : Int => if sbt u t = true then [] else if sWr ρ b (mt (2 * t)) (mt (2 * t + 1)) = 0 then (sOr ρ mn mt r (sor u t) (sPush ρ b (mt (2 * t)) (mt (2 * t + 1)))).map (fun l => t :: l) else []) = F at hR
    have hF' : ∀ t, F t = if sbt u t = true then [] else if sWr ρ b (mt (2 * t)) (mt (2 * t + 1)) = 0 then (sOr ρ mn mt r (sor u t) (sPush ρ b (mt (2 * t)) (mt (2 * t + 1)))).map (fun l => t :: l) else [] := fun t => by rw [← hF]
    clear hF
    refine e_X11_tryOrders (d := d + r + 4) (fun _ x1 hx => ⟨fun _ x3 hx3 => ?_, fun z => absurd (show μ 150 0 ≠ x1 by rw [hx, hM.1]; omega) z⟩)
    rw [hM.1] at hx
    rw [e150] at hx3
    subst hx hx3
    have key : ∀ (m : Nat) (t : Int) (L : List (List Int)) (ξ : jm_M), mn - t = m → 0 ≤ t → mBd ξ 0 b → mOg b.2.1 mn L μ ξ → R = L ++ sFl F m t → jg E m_X11_tryOrders (d + r + 4) 77 [some (jm_R 133), some (jm_I u), some (jm_I mn), some (jm_I b.2.1), some (jm_I t)] [] ξ Q := by
      intro m
      induction m with
      | zero =>
        intro t L ξ g1 g2 g3 g4 g5
        have : R = L := by rw [g5]; exact List.append_nil L
        subst this
        exact r_X11_tryOrders_77 (d := d + r + 4) ⟨fun _ => h ξ g3 g4, fun z => absurd (show (mn : Int) ≤ t by omega) z⟩
      | succ m ih =>
        intro t L ξ g1 g2 g3 g4 g5
        have e135 : ξ 135 = μ 135 := g4.1 135 (by decide) (by decide)
        have hr' : mRu ξ 0 ρ := fun j j0 j1 => by rw [g4.1 143 (by decide) (by decide)]; exact hr j j0 j1
        have a1 : jm_wr (2 * t) = 2 * t := jm_wr_id (by omega) (by omega)
        have a2 : jm_wr (862 + 2 * t) = 862 + 2 * t := jm_wr_id (by omega) (by omega)
        have a3 : jm_wr (862 + 2 * t + 1) = 862 + (2 * t + 1) := by rw [jm_wr_id (by omega) (by omega)]; omega
        have et : jm_wr (t + 1) = t + 1 := jm_wr_id (by omega) (by omega)
        have q1 : ξ 135 (862 + 2 * t) = mt (2 * t) := by rw [e135]; exact hM.2 _ (by omega) (by omega)
        have q2 : ξ 135 (862 + (2 * t + 1)) = mt (2 * t + 1) := by rw [e135]; exact hM.2 _ (by omega) (by omega)
        have v1 := hV.2.1 t g2 (by omega)
        have v2 := v1.1.resolve_left (hT (2 * t) (by omega) (by omega))
        have v3 := v1.2.resolve_left (hT (2 * t + 1) (by omega) (by omega))
        have g6 : R = L ++ (F t ++ sFl F m (t + 1)) := g5
        rw [hF'] at g6
        refine r_X11_tryOrders_77 (d := d + r + 4) ⟨fun z => absurd z (by omega), fun _ => c_M_has u0 (by omega) g2 (by omega) (fun z => jq_Z (jb_t (by decide) ?_)) (fun z => jq_Z (jb_f (by decide) ?_))⟩
        · rw [if_pos z] at g6
          rw [et]
          exact ih (t + 1) L ξ (by omega) (by omega) g3 g4 g6
        · rw [if_neg (by rw [z]; decide)] at g6
          rw [a1, a2, a3, q1, q2, et]
          refine ⟨⟨by omega, by omega⟩, ⟨by omega, by omega⟩, c_M_wrongOf (by decide) hW hr' g3 hG v2.1 v2.2 v3.1 v3.2 (jq_I ⟨fun z2 => ⟨⟨by omega, by omega⟩, fun m12 h12 => ?_⟩, fun z2 => ?_⟩)⟩
          · rw [if_pos z2] at g6
            have e12 : m12 135 = ξ 135 := by rw [h12, jm_up_ne (by decide)]
            rw [e12, q1, q2]
            have nb := (sPush_c (ρ := ρ) (b := b) (who := mt (2 * t)) (k := mt (2 * t + 1)) rfl).1
            have hGp := sGB_push hW hG (by omega) v2.1 v2.2 v3.1 v3.2 z2
            have hub := sor_lt (m := u) (k := t) (n := 7) u0 (by omega) g2 (by omega)
            rw [jm_or_bit u0 (by omega) g2 (by omega)]
            have og12 : mOg b.2.1 mn L μ m12 := by
              have og := mOg.trans (c := m12) (M := []) k0 g4 (by
                rw [h12]
                exact ⟨fun p p1 p2 => jm_up_ne (by omega), fun j _ _ => jm_up_lj (by decide), fun j hj => jm_up_i (by omega), by rw [jm_up_lj (by decide)]; simp, fun _ => ⟨jm_up_lj (by decide), jm_up_ne (by decide)⟩, fun _ l L' hl => by cases hl⟩)
              rw [List.append_nil] at og
              exact og
            refine c_M_push (by decide) hW (by rw [h12]; exact mRu_up (by decide) hr') (by rw [h12]; exact mBd_up (by decide) g3) b0 (by omega) (fun s s0 s1 => ?_) ⟨hG.2.2.1, by have := hG.2.2.2.1; omega⟩ v2.1 v2.2 v3.1 v3.2 (fun ξ2 bd2 f2 _ => ?_)
            · have := (hG.2.2.2.2 s s0 s1).2.2.2.2.1
              omega
            · have og2 := mOg.trans k0 og12 (mOg_fr f2)
              rw [List.append_nil] at og2
              have e135b : ξ2 135 = μ 135 := og2.1 135 (by decide) (by decide)
              have hM2 : mMn ξ2 mn mt := ⟨by rw [e135b]; exact hM.1, fun i i0 i1 => by rw [e135b]; exact hM.2 i i0 i1⟩
              have hr2 : mRu ξ2 0 ρ := fun j j0 j1 => by rw [og2.1 143 (by decide) (by decide)]; exact hr j j0 j1
              have at2 : ξ2 159 b.2.1 = t := by rw [f2.1 159 (by decide), h12, jm_up_at]
              have hlen : R.length = L.length + ((sOr ρ mn mt r (sor u t) (sPush ρ b (mt (2 * t)) (mt (2 * t + 1)))).length + (sFl F m (t + 1)).length) := by rw [g6]; simp only [List.length_append, List.length_map]
              have h48 := og2.2.2.2.1
              refine c_M_tryOrders hW hV h0 hn r (sPush ρ b (mt (2 * t)) (mt (2 * t + 1))) (sor u t) ξ2 _ (by omega) hub.1 (by omega) hr2 bd2 hGp hM2 (by omega) (by omega) (fun ξ3 bd3 og3 _ => ?_)
              have hr3 : mRu ξ3 0 ρ := fun j j0 j1 => by rw [og3.1 143 (by decide) (by decide)]; exact hr2 j j0 j1
              have og3' : mOg b.2.1 mn ((sOr ρ mn mt r (sor u t) (sPush ρ b (mt (2 * t)) (mt (2 * t + 1)))).map (fun l => t :: l)) ξ2 ξ3 := by
                rw [nb] at og3
                obtain ⟨o1, o2, o3, o4, o5, o6⟩ := og3
                refine ⟨o1, o2, fun j hj => o3 j (by omega), by rw [o4, List.length_map], fun q => o5 (q.imp id (fun q => List.map_eq_nil_iff.mp q)), fun q l L' hl => ?_⟩
                cases hS : sOr ρ mn mt r (sor u t) (sPush ρ b (mt (2 * t)) (mt (2 * t + 1))) with
                | nil => rw [hS] at hl; cases hl
                | cons x S =>
                  rw [hS] at hl
                  have hl' : (t :: x) :: S.map (fun l => t :: l) = l :: L' := hl
                  injection hl' with h1 _
                  subst h1
                  have g := o6 q x S hS
                  exact ⟨g.1, fun j j0 j1 => g.2.1 j j0 (by omega), by rw [g.2.1 b.2.1 b0 (by omega)]; exact at2, g.2.2⟩
              refine c_M_pop (by decide) hW hr3 bd3 hG (by omega) v2.1 v2.2 v3.1 v3.2 z2 (fun ξ4 bd4 f4 _ => ?_)
              have og4 := mOg.trans (by omega) og3' (mOg_fr f4)
              rw [List.append_nil] at og4
              refine ih (t + 1) _ ξ4 (by omega) (by omega) bd4 (mOg.trans k0 og2 og4) ?_
              rw [g6, List.append_assoc]
          · rw [if_neg z2] at g6
            exact ih (t + 1) L ξ (by omega) (by omega) g3 g4 g6
    have g0 : mOg b.2.1 mn [] μ μ := ⟨fun _ _ _ => rfl, fun _ _ _ => rfl, fun _ _ => rfl, by simp, fun _ => ⟨rfl, rfl⟩, fun _ l L' hl => by cases hl⟩
    exact key mn 0 [] μ (by omega) (by decide) hb g0 hR
theorem c_M_orders (hW : sWR ρ) (hρ : ∀ i, 0 ≤ i → i < 60 → μ 135 i = ρ i) (hM : mMn μ mn mt) (hV : sVM ρ mn mt)
    (h1 : ¬ (sTorn mn mt = 0 ∧ mn ≤ 7) → ∀ ν, mQ μ ν → Q (some (jm_I (-1))) ν)
    (h2 : sTorn mn mt = 0 → mn ≤ 7 → ∀ ν : jm_M, (∀ p, p ≠ 133 → p < 143 ∨ (151 < p ∧ p < 159) ∨ 160 < p → ν p = μ p) → (∀ i, i ≠ 0 → i ≠ 48 → i ≠ 49 → ν 133 i = μ 133 i) →
      (sOr ρ mn mt mn 0 sEmpty = [] → ν 133 49 = μ 133 49 ∧ ν 160 = μ 160) → (∀ l L', sOr ρ mn mt mn 0 sEmpty = l :: L' → l.length = mn → ν 133 49 = mn ∧ sPt (ν 160) 0 l) → Q (some (jm_I (sOr ρ mn mt mn 0 sEmpty).length)) ν) : jc E m_X11_orders (d + 12) [jm_R 133] μ Q := by
  have e0 : ∀ p, p ≠ 133 → jm_up μ 133 0 0 p = μ p := fun p hp => jm_up_ne hp
  have hM0 : mMn (jm_up μ 133 0 0) mn mt := ⟨by rw [e0 135 (by decide)]; exact hM.1, fun i i0 i1 => by rw [e0 135 (by decide)]; exact hM.2 i i0 i1⟩
  refine e_X11_orders (d := d + 11) (fun _ => c_M_isWhole hV.1 hM0 (fun z => jq_Z (jb_f (by decide) ?_)) (fun z => jq_Z (jb_t rfl (h1 (fun q => z q.1) _ mQ_0))))
  rw [hM0.1]
  refine ⟨fun y => ?_, fun y => h1 (fun q => y (by omega)) _ mQ_0⟩
  have hn : mn ≤ 7 := by omega
  have H := h2 z hn
  refine c_M_layRules (ρ := ρ) (by decide) (fun i i0 i1 => ⟨?_, ?_⟩) (by decide) (by decide) (fun ν hr hb hf _ _ _ => ?_)
  · rw [Int.zero_add]
    exact ixl_135 i0 (by omega)
  · rw [Int.zero_add, e0 135 (by decide)]
    exact hρ i i0 i1
  have e135 : ν 135 = μ 135 := by rw [hf 135 (by decide) (by decide) (by decide), e0 135 (by decide)]
  have hlen := sOr_len (ρ := ρ) (mt := mt) hn mn 0 sEmpty
  have hp7 : (7 : Int) ^ mn ≤ 7 ^ 7 := by exact_mod_cast Nat.pow_le_pow_right (by decide) hn
  have h77 : (7 : Int) ^ 7 = 823543 := by decide
  have hc := c_M_tryOrders (E := E) (d := d + 7 - mn) (mn := mn) (mt := mt) hW hV z hn mn sEmpty 0 (jm_up ν 133 48 0)
  rw [show d + 7 - mn + mn + 4 = d + 11 by omega] at hc
  refine hc _ (by show (0 : Int) + mn = mn; omega) (by decide) (by decide) (mRu_up (by decide) hr) (mBd_up (by decide) hb) sGB_empty ⟨by rw [jm_up_ne (by decide), e135]; exact hM.1, fun i i0 i1 => by rw [jm_up_ne (by decide), e135]; exact hM.2 i i0 i1⟩ (by rw [jm_up_at]; decide) (by rw [jm_up_at]; omega) (fun ξ bd og _ => ?_)
  obtain ⟨o1, o2, o3, o4, o5, o6⟩ := og
  rw [o4, jm_up_at, Int.zero_add]
  refine H ξ (fun p p1 p2 => ?_) (fun i i0 i1 i2 => ?_) (fun q => ?_) (fun l L' hl ll => ?_)
  · rw [o1 p p1 (by omega), jm_up_ne p1, hf p (by omega) (by omega) (by omega), e0 p p1]
  · rw [o2 i i1 i2, jm_up_i i1, hf 133 (by decide) (by decide) (by decide), jm_up_i i0]
  · have g := o5 (Or.inr q)
    exact ⟨by rw [g.1, jm_up_i (by decide), hf 133 (by decide) (by decide) (by decide), jm_up_i (by decide)], by rw [g.2, jm_up_ne (by decide), hf 160 (by decide) (by decide) (by decide), e0 160 (by decide)]⟩
  · have g := o6 jm_up_at l L' hl
    exact ⟨g.1, g.2.2⟩
theorem c_M_orderAt {i : Int} (h0 : μ 133 49 ≤ 7) (h : Q (some (jm_I (if 0 ≤ i ∧ i < μ 133 49 then μ 160 i else -1))) (jm_up μ 133 0 0)) : jc E m_X11_orderAt (d + 1) [jm_R 133, jm_I i] μ Q := by
  refine e_X11_orderAt (d := d) (fun _ => ?_)
  refine ⟨fun z => ?_, fun z => ⟨fun z2 => ?_, fun z2 => ⟨⟨by omega, by omega⟩, ?_⟩⟩⟩
  · rw [if_neg (show ¬ (0 ≤ i ∧ i < μ 133 49) from fun q => by omega)] at h
    exact h
  · rw [if_neg (show ¬ (0 ≤ i ∧ i < μ 133 49) from fun q => by omega)] at h
    exact h
  · rw [if_pos (show 0 ≤ i ∧ i < μ 133 49 by omega)] at h
    exact h
end MO
