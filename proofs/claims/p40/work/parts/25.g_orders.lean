def rOg (i : Int) (n : Nat) (L : List (List Int)) (ξ ν : jm_M) : Prop :=
  (∀ q, q ≠ 37 → q < 47 ∨ 52 < q → q < 130 ∨ 132 < q → ν q = ξ q) ∧ (∀ j, j ≠ 1 → j ≠ 2 → ν 37 j = ξ 37 j) ∧ (∀ j, j ≠ 3 → j ≠ 6 → ν 130 j = ξ 130 j) ∧ (∀ j, j < i → ν 131 j = ξ 131 j) ∧ ν 130 3 = ξ 130 3 + L.length ∧
  ((ξ 130 3 ≠ 0 ∨ L = []) → ν 130 6 = ξ 130 6 ∧ ν 132 = ξ 132) ∧ (ξ 130 3 = 0 → ∀ l L', L = l :: L' → ν 130 6 = n ∧ (∀ j, 0 ≤ j → j < i → ν 132 j = ξ 131 j) ∧ sPt (ν 132) i l)
theorem rOg.trans {i : Int} {n : Nat} {L M : List (List Int)} {a b c : jm_M} (h0 : 0 ≤ a 130 3) (h1 : rOg i n L a b) (h2 : rOg i n M b c) : rOg i n (L ++ M) a c := by
  obtain ⟨p1, p0, p2, p3, p4, p5, p6⟩ := h1
  obtain ⟨q1, q0, q2, q3, q4, q5, q6⟩ := h2
  refine ⟨fun p a1 a2 a3 => (q1 p a1 a2 a3).trans (p1 p a1 a2 a3), fun j j1 j2 => (q0 j j1 j2).trans (p0 j j1 j2), fun j j1 j2 => (q2 j j1 j2).trans (p2 j j1 j2), fun j hj => (q3 j hj).trans (p3 j hj), by rw [q4, p4, List.length_append]; omega, fun h => ?_, fun h l L' hl => ?_⟩
  · rcases h with h | h
    · have e1 := p5 (Or.inl h)
      have e2 := q5 (Or.inl (by omega))
      exact ⟨e2.1.trans e1.1, e2.2.trans e1.2⟩
    · obtain ⟨hL, hM⟩ := List.append_eq_nil_iff.mp h
      have e1 := p5 (Or.inr hL)
      have e2 := q5 (Or.inr hM)
      exact ⟨e2.1.trans e1.1, e2.2.trans e1.2⟩
  · cases L with
    | nil =>
      have hz : b 130 3 = 0 := by rw [p4, h]; rfl
      have g := q6 hz l L' hl
      exact ⟨g.1, fun j j0 j1 => (g.2.1 j j0 j1).trans (p3 j j1), g.2.2⟩
    | cons x L2 =>
      have hx : x = l := by
        have : x :: (L2 ++ M) = l :: L' := hl
        injection this
      subst hx
      have g := p6 h x L2 rfl
      have hz : b 130 3 ≠ 0 := by rw [p4, h, List.length_cons]; omega
      have e2 := q5 (Or.inl hz)
      exact ⟨e2.1.trans g.1, fun j j0 j1 => by rw [e2.2]; exact g.2.1 j j0 j1, by rw [e2.2]; exact g.2.2⟩
theorem rOg_fr {i : Int} {n : Nat} {a b : jm_M} (h : tFr 37 a b) : rOg i n [] a b := by
  have e := fun q (h1 : 52 < q) => h.1 q (by omega) (by omega)
  exact ⟨fun p p1 p2 _ => h.1 p p1 (by omega), h.2, fun j _ _ => by rw [e 130 (by decide)], fun j _ => by rw [e 131 (by decide)], by rw [e 130 (by decide)]; simp, fun _ => ⟨by rw [e 130 (by decide)], e 132 (by decide)⟩, fun _ l L' hl => by cases hl⟩
section WM
variable {E : jm_E} {d : Nat} {μ : jm_M} {Q : Option jm_V → jm_M → Prop} {ρ : sR} {p : Int} {mn : Nat} {mt : Int → Int}
theorem c_T_orderFrom (hV : sVM ρ mn mt) (h0 : sTorn mn mt = 0) (hn : mn ≤ 7) : ∀ (r : Nat) (b : sB) (u : Int) (μ : jm_M) (Q : Option jm_V → jm_M → Prop), b.2.1 + r = mn → 0 ≤ u → u < 128 → tA μ ρ 37 p 400 b → tMn μ 69 mn mt → 0 ≤ μ 130 3 → μ 130 3 + (sOr ρ mn mt r u b).length < 2147483648 →
    (∀ ν, tA ν ρ 37 p 400 b → rOg b.2.1 mn (sOr ρ mn mt r u b) μ ν → Q none ν) → jc E m_X2_orderFrom (d + r + 6) [jm_R 130, jm_R 69, jm_R 37, jm_I b.2.1, jm_I u] μ Q
  | 0, b, u, μ, Q, hb1, u0, u1, hA, hM, k0, k1, h => by
    have hbn : b.2.1 = mn := by omega
    have k1' : μ 130 3 + 1 < 2147483648 := k1
    refine e_X2_orderFrom (d := d + 5) (fun _ => ⟨is_69, ?_⟩)
    rw [hM.1]
    refine ⟨fun _ => r_X2_orderFrom_14 (d := d + 5) ⟨fun z => ?_, fun z m2 h2 => ?_⟩, fun z => absurd (by omega) z⟩
    · rw [jm_wr_id (by omega) (by omega)]
      exact h _ (hA.up (by decide)) ⟨fun q _ _ q3 => jm_up_ne (by omega), fun j _ _ => jm_up_lj (by decide), fun j j1 j2 => jm_up_i j1, fun j _ => jm_up_lj (by decide), jm_up_at, fun _ => ⟨jm_up_i (by decide), jm_up_ne (by decide)⟩, fun q => absurd q z⟩
    · have z' := Decidable.not_not.mp z
      have o2 : ∀ q, q ≠ 132 → m2 q = μ q := fun q hq => by rw [h2]; exact jm_cpy_ne hq
      have c2 : ∀ j, 0 ≤ j → j < 7 → m2 132 j = μ 131 j := fun j j0 j1 => by
        rw [h2]
        unfold jm_cpy
        rw [if_pos ⟨rfl, j0, by omega⟩, show 0 + (j - 0) = j by omega]
      rw [o2 130 (by decide), jm_wr_id (by omega) (by omega)]
      refine h _ (((hA.of (fun q hq => o2 q (by have := hA.1.p; omega))).up (by decide)).up (by decide)) ⟨fun q _ _ q3 => by rw [jm_up_ne (by omega), jm_up_ne (by omega)]; exact o2 q (by omega), fun j _ _ => by rw [jm_up_lj (by decide), jm_up_lj (by decide), o2 37 (by decide)], fun j j1 j2 => by rw [jm_up_i j1, jm_up_i j2, o2 130 (by decide)], fun j _ => by rw [jm_up_lj (by decide), jm_up_lj (by decide), o2 131 (by decide)], jm_up_at, fun q => ?_, fun _ l L' hl => ?_⟩
      · rcases q with q | q
        · exact absurd z' q
        · cases q
      · have : l = [] := by
          have hl' : ([[]] : List (List Int)) = l :: L' := hl
          injection hl' with h1 _
          exact h1.symm
        subst this
        refine ⟨by rw [jm_up_i (by decide), jm_up_at]; exact hbn, fun j j0 j1 => ?_, trivial⟩
        rw [jm_up_lj (by decide), jm_up_lj (by decide)]
        exact c2 j j0 (by omega)
  | r + 1, b, u, μ, Q, hb1, u0, u1, hA, hM, k0, k1, h => by
    have hW := hA.2.2.1
    have hG := hA.2.2.2.2.2.1
    have b0 := hG.1
    have hT := sTorn_0.mp h0
    have hn24 := hV.1
    obtain ⟨R, hR⟩ : ∃ R, R = sOr ρ mn mt (r + 1) u b := ⟨_, rfl⟩
    rw [← hR] at h k1
    rw [sOr] at hR
    generalize hF : (fun t : Int => if sbt u t = true then [] else if sWr ρ b (mt (2 * t)) (mt (2 * t + 1)) = 0 then (sOr ρ mn mt r (sor u t) (sPush ρ b (mt (2 * t)) (mt (2 * t + 1)))).map (fun l => t :: l) else []) = F at hR
    have hF' : ∀ t, F t = if sbt u t = true then [] else if sWr ρ b (mt (2 * t)) (mt (2 * t + 1)) = 0 then (sOr ρ mn mt r (sor u t) (sPush ρ b (mt (2 * t)) (mt (2 * t + 1)))).map (fun l => t :: l) else [] := fun t => by rw [← hF]
    clear hF
    have key : ∀ (m : Nat) (t : Int) (L : List (List Int)) (ξ : jm_M), mn - t = m → 0 ≤ t → tA ξ ρ 37 p 400 b → rOg b.2.1 mn L μ ξ → R = L ++ sFl F m t → jg E m_X2_orderFrom (d + r + 6) 55 [some (jm_R 130), some (jm_R 69), some (jm_R 37), some (jm_I b.2.1), some (jm_I u), some (jm_I t), none, none] [] ξ Q := by
      intro m
      induction m with
      | zero =>
        intro t L ξ g1 g2 g3 g4 g5
        have : R = L := by rw [g5]; exact List.append_nil L
        subst this
        have e69 : ξ 69 0 = mn := by rw [g4.1 69 (by decide) (by decide) (by decide)]; exact hM.1
        refine r_X2_orderFrom_55 (d := d + r + 6) ⟨is_69, ?_⟩
        rw [e69]
        exact ⟨fun _ => h ξ g3 g4, fun z => absurd (by omega) z⟩
      | succ m ih =>
        intro t L ξ g1 g2 g3 g4 g5
        have M' : tMn ξ 69 mn mt := tMn_of (fun x x0 x1 => g4.1 x (by omega) (by omega) (by omega)) hM
        have v1 := hV.2.1 t g2 (by omega)
        have v2 := v1.1.resolve_left (hT (2 * t) (by omega) (by omega))
        have v3 := v1.2.resolve_left (hT (2 * t + 1) (by omega) (by omega))
        have g6 : R = L ++ (F t ++ sFl F m (t + 1)) := g5
        rw [hF'] at g6
        refine r_X2_orderFrom_55 (d := d + r + 6) ⟨is_69, ?_⟩
        rw [M'.1, jm_wr_id (a := t + 1) (by omega) (by omega), jm_wr_id (a := b.2.1 + 1) (by omega) (by omega)]
        refine ⟨fun z => absurd z (by omega), fun _ => c_T_whoAt is_69 M' hn24 g2 (by omega) (jq_I (c_T_kindAt is_69 M' hn24 g2 (by omega) (jq_I ?_)))⟩
        rw [jm_bit u0 (by omega) g2 (by omega)]
        refine ⟨fun z => ?_, fun z => ?_⟩
        · have z' : sbt u t = true := by
            cases hx : sbt u t
            · rw [hx] at z; exact absurd rfl z
            · rfl
          rw [if_pos z'] at g6
          exact ih (t + 1) L ξ (by omega) (by omega) g3 g4 g6
        · have z' : ¬ sbt u t = true := fun q => by rw [if_pos q] at z; exact z (by decide)
          rw [if_neg z'] at g6
          refine ⟨is_37, c_T_flaw g3 (jq_I ?_)⟩
          rw [sFw_0 v2.1 v2.2 v3.1 v3.2 (by omega)]
          refine ⟨fun z2 => ?_, fun z2 => ⟨by omega, fun m13 h13 => ?_⟩⟩
          · rw [if_neg z2] at g6
            exact ih (t + 1) L ξ (by omega) (by omega) g3 g4 g6
          · have z2' := Decidable.not_not.mp z2
            rw [if_pos z2'] at g6
            have nb := (sPush_c (ρ := ρ) (b := b) (who := mt (2 * t)) (k := mt (2 * t + 1)) rfl).1
            have hub := sor_lt (m := u) (k := t) (n := 7) u0 (by omega) g2 (by omega)
            rw [jm_or_bit u0 (by omega) g2 (by omega)]
            have og13 : rOg b.2.1 mn L μ m13 := by
              have og := rOg.trans (c := m13) (M := []) k0 g4 (by
                rw [h13]
                exact ⟨fun q _ _ q3 => jm_up_ne (by omega), fun j _ _ => jm_up_lj (by decide), fun j _ _ => jm_up_lj (by decide), fun j hj => jm_up_i (by omega), by rw [jm_up_lj (by decide)]; simp, fun _ => ⟨jm_up_lj (by decide), jm_up_ne (by decide)⟩, fun _ l L' hl => by cases hl⟩)
              rw [List.append_nil] at og
              exact og
            have A13 : tA m13 ρ 37 p 400 b := by rw [h13]; exact g3.up (by decide)
            refine c_T_add A13 (by omega) v2.1 v2.2 v3.1 v3.2 z2' (fun ξ2 A2 f2 _ => ?_)
            have og2 := rOg.trans k0 og13 (rOg_fr f2)
            rw [List.append_nil] at og2
            have M2 : tMn ξ2 69 mn mt := tMn_of (fun x x0 x1 => og2.1 x (by omega) (by omega) (by omega)) hM
            have at2 : ξ2 131 b.2.1 = t := by rw [f2.1 131 (by decide) (by decide), h13, jm_up_at]
            have hlen : R.length = L.length + ((sOr ρ mn mt r (sor u t) (sPush ρ b (mt (2 * t)) (mt (2 * t + 1)))).length + (sFl F m (t + 1)).length) := by rw [g6]; simp only [List.length_append, List.length_map]
            have h48 := og2.2.2.2.2.1
            rw [← nb]
            refine c_T_orderFrom hV h0 hn r (sPush ρ b (mt (2 * t)) (mt (2 * t + 1))) (sor u t) ξ2 _ (by omega) hub.1 (by omega) A2 M2 (by omega) (by omega) (fun ξ3 A3 og3 _ => ?_)
            have og3' : rOg b.2.1 mn ((sOr ρ mn mt r (sor u t) (sPush ρ b (mt (2 * t)) (mt (2 * t + 1)))).map (fun l => t :: l)) ξ2 ξ3 := by
              rw [nb] at og3
              obtain ⟨o1, o0, o2, o3, o4, o5, o6⟩ := og3
              refine ⟨o1, o0, o2, fun j hj => o3 j (by omega), by rw [o4, List.length_map], fun q => o5 (q.imp id (fun q => List.map_eq_nil_iff.mp q)), fun q l L' hl => ?_⟩
              cases hS : sOr ρ mn mt r (sor u t) (sPush ρ b (mt (2 * t)) (mt (2 * t + 1))) with
              | nil => rw [hS] at hl; cases hl
              | cons x S =>
                rw [hS] at hl
                have hl' : (t :: x) :: S.map (fun l => t :: l) = l :: L' := hl
                injection hl' with h1 _
                subst h1
                have g := o6 q x S hS
                exact ⟨g.1, fun j j0 j1 => g.2.1 j j0 (by omega), by rw [g.2.1 b.2.1 b0 (by omega)]; exact at2, g.2.2⟩
            refine c_T_back A3 hG v2.1 v2.2 v3.1 v3.2 z2' (fun ξ4 A4 f4 _ => ?_)
            have og4 := rOg.trans (by omega) og3' (rOg_fr f4)
            rw [List.append_nil] at og4
            refine ih (t + 1) _ ξ4 (by omega) (by omega) A4 (rOg.trans k0 og2 og4) ?_
            rw [g6, List.append_assoc]
    have g0 : rOg b.2.1 mn [] μ μ := rOg_fr tFr.rfl
    refine e_X2_orderFrom (d := d + r + 6) (fun _ => ⟨is_69, ?_⟩)
    rw [hM.1]
    exact ⟨fun z => absurd z (by omega), fun _ => ⟨fun _ => key mn 0 [] μ (by omega) (by decide) hA g0 hR, fun z => absurd (by omega) z⟩⟩
theorem c_T_arrange (hA : tA μ ρ 37 p 400 sEmpty) (hM : tMn μ 69 mn mt) (hV : sVM ρ mn mt) (h0 : sTorn mn mt = 0) (hn : mn ≤ 7)
    (h : ∀ ν : jm_M, (∀ q, q ≠ 37 → q < 47 ∨ 52 < q → q < 130 ∨ 132 < q → ν q = μ q) → (∀ j, j ≠ 1 → j ≠ 2 → ν 37 j = μ 37 j) → (∀ j, j ≠ 3 → j ≠ 6 → ν 130 j = μ 130 j) →
      (sOr ρ mn mt mn 0 sEmpty = [] → ν 130 6 = μ 130 6 ∧ ν 132 = μ 132) → (∀ l L', sOr ρ mn mt mn 0 sEmpty = l :: L' → l.length = mn → ν 130 6 = mn ∧ sPt (ν 132) 0 l) → Q (some (jm_I (sOr ρ mn mt mn 0 sEmpty).length)) ν) :
    jc E m_X2_arrange (d + 15) [jm_R 130, jm_R 69, jm_R 37] μ Q := by
  have hlen := sOr_len (ρ := ρ) (mt := mt) hn mn 0 sEmpty
  have h7 : (7 : Int) ^ mn ≤ 823543 := by
    have : 7 ^ mn ≤ 7 ^ 7 := Nat.pow_le_pow_right (by decide) hn
    have e : ((7 ^ 7 : Nat) : Int) = 823543 := by decide
    have e2 : (7 : Int) ^ mn = ((7 ^ mn : Nat) : Int) := by rw [Int.natCast_pow]; rfl
    omega
  refine e_X2_arrange (d := d + 14) (fun _ => ?_)
  have e3 : jm_up μ 130 3 0 130 3 = 0 := jm_up_at
  have hc := c_T_orderFrom (E := E) (d := d + 8 - mn) (p := p) hV h0 hn mn sEmpty 0 (jm_up μ 130 3 0) (fun o m1 => o = none → Q (some (jm_I (m1 130 3))) m1) (by show (0 : Int) + mn = mn; omega) (by decide) (by decide) (hA.up (by decide)) (tMn_of (fun x x0 x1 => jm_up_ne (by omega)) hM) (by rw [e3]; decide) (by rw [e3]; omega) (fun ν A g _ => ?_)
  · rw [show d + 8 - mn + mn + 6 = d + 14 by omega] at hc
    exact hc
  obtain ⟨o1, o0, o2, o3, o4, o5, o6⟩ := g
  rw [e3] at o4 o5 o6
  have e4 : ν 130 3 = ((sOr ρ mn mt mn 0 sEmpty).length : Int) := by rw [o4]; omega
  rw [e4]
  refine h ν (fun q q1 q2 q3 => by rw [o1 q q1 q2 q3, jm_up_ne (by omega)]) (fun j j1 j2 => by rw [o0 j j1 j2, jm_up_ne (by decide)]) (fun j j3 j6 => by rw [o2 j j3 j6, jm_up_i j3]) (fun z => ?_) (fun l L' hl ll => ?_)
  · have := o5 (Or.inr z)
    exact ⟨by rw [this.1, jm_up_i (by decide)], by rw [this.2, jm_up_ne (by decide)]⟩
  · have := o6 rfl l L' hl
    exact ⟨this.1, this.2.2⟩
end WM
