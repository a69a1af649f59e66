/-! UNLIKE of the class -/
theorem jm_mx_s {x y : Int} : jm_mx x y = sMx x y := by unfold jm_mx sMx; split <;> split <;> omega
theorem tA.fr2 {μ ν : jm_M} {σ : sR} {a a' p p' c c' : Int} {b : sB} (h : tA μ σ a' p' c' b) (hP : tPl a p c) (hne : a ≠ a') (hf : tFr a μ ν) : tA ν σ a' p' c' b :=
  h.of (fun x hx => by
    have hs := (show tPl a p' c from ⟨hP.1, h.1.2.1, hP.2.2⟩).sep
    have h1 := hP.1
    have h2 := h.1.1
    rcases hx with hx | hx
    · exact hf.1 x (hs x hx.1 hx.2).1 (hs x hx.1 hx.2).2
    · exact hf.1 x (by omega) (by omega))
theorem sF1_nil {α : Type} {f : Int → Option α} : ∀ (m : Nat) (k : Int), sF1 f m k = none → ∀ j, k ≤ j → j < k + m → f j = none
  | 0, k, _, j, h0, h1 => absurd h1 (by omega)
  | m + 1, k, h, j, h0, h1 => by
    unfold sF1 at h
    cases hk : f k with
    | some x => rw [hk] at h; cases h
    | none =>
      rw [hk] at h
      by_cases hj : j = k
      · rw [hj]; exact hk
      · exact sF1_nil m (k + 1) h j (by omega) (by omega)
theorem sPa_one {ρ σ : sR} {P K : Nat} {b c : sB} (h : sPa ρ σ P K 1 b c = none) {a k : Int} (a0 : 0 ≤ a) (a1 : a < P) (k0 : 0 ≤ k) (k1 : k < K) : sMb ρ b a k = sMb σ c a k := by
  unfold sPa at h
  have h1 := sF1_nil _ _ (sF1_nil _ _ h a a0 (by omega)) k k0 (by omega)
  rw [if_pos rfl] at h1
  split at h1
  · assumption
  · cases h1
theorem sPa_sub {ρ σ : sR} {P K m : Nat} {b c : sB} (h : sPa ρ σ P K (m + 1) b c = none) {a k : Int} (a0 : 0 ≤ a) (a1 : a < P) (k0 : 0 ≤ k) (k1 : k < K) (h1 : sMb ρ b a k = true) (h2 : sMb σ c a k = true) : sPa ρ σ P K m (sPush ρ b a k) (sPush σ c a k) = none := by
  cases m with
  | zero => rfl
  | succ m =>
    unfold sPa at h
    have h3 := sF1_nil _ _ (sF1_nil _ _ h a a0 (by omega)) k k0 (by omega)
    rw [if_neg (by omega), if_pos ⟨h1, h2⟩] at h3
    generalize sPa ρ σ P K (m + 1) (sPush ρ b a k) (sPush σ c a k) = v at h3
    cases v
    · rfl
    · cases h3
theorem sMb_fw {ρ : sR} {b : sB} {c a k : Int} (a0 : 0 ≤ a) (k0 : 0 ≤ k) (hc : b.2.1 < c) : sMb ρ b a k = true ↔ sFw ρ b c a k = 0 := by
  unfold sMb
  rw [decide_eq_true_eq]
  exact ⟨fun h => by rw [sFw_0 a0 h.1 k0 h.2.1 hc]; exact h.2.2, fun h => by have := sFw_in h; exact ⟨this.1.2, this.2.1.2, this.2.2.2⟩⟩
def tPb (i : Int) (μ ν : jm_M) : Prop := (∀ q, q ≠ 122 → q ≠ 37 → q ≠ 53 → q < 47 ∨ 52 < q → q < 63 ∨ 68 < q → ν q = μ q) ∧ (∀ j, j ≠ 1 → j ≠ 2 → ν 37 j = μ 37 j ∧ ν 53 j = μ 53 j) ∧ ∀ j, j < i → ν 122 j = μ 122 j
theorem tPb.rfl {i : Int} {μ : jm_M} : tPb i μ μ := ⟨fun _ _ _ _ _ _ => Eq.refl _, fun _ _ _ => ⟨Eq.refl _, Eq.refl _⟩, fun _ _ => Eq.refl _⟩
theorem tPb.trans {i j : Int} {x y z : jm_M} (h1 : tPb i x y) (h2 : tPb j y z) (hj : i ≤ j) : tPb i x z := ⟨fun q q1 q2 q3 q4 q5 => (h2.1 q q1 q2 q3 q4 q5).trans (h1.1 q q1 q2 q3 q4 q5), fun s s1 s2 => ⟨(h2.2.1 s s1 s2).1.trans (h1.2.1 s s1 s2).1, (h2.2.1 s s1 s2).2.trans (h1.2.1 s s1 s2).2⟩, fun s hs => (h2.2.2 s (by omega)).trans (h1.2.2 s hs)⟩
theorem tPb_1 {i : Int} {μ ν : jm_M} (h : tFr 37 μ ν) : tPb i μ ν := ⟨fun q _ q2 _ q4 _ => h.1 q q2 (by omega), fun j j1 j2 => ⟨h.2 j j1 j2, by rw [h.1 53 (by decide) (by decide)]⟩, fun j _ => by rw [h.1 122 (by decide) (by decide)]⟩
theorem tPb_2 {i : Int} {μ ν : jm_M} (h : tFr 53 μ ν) : tPb i μ ν := ⟨fun q _ _ q3 _ q5 => h.1 q q3 (by omega), fun j j1 j2 => ⟨by rw [h.1 37 (by decide) (by decide)], h.2 j j1 j2⟩, fun j _ => by rw [h.1 122 (by decide) (by decide)]⟩
theorem tPb_up {i v : Int} {μ : jm_M} : tPb i μ (jm_up μ 122 i v) := ⟨fun q q1 _ _ _ _ => jm_up_ne q1, fun j _ _ => ⟨jm_up_lj (by decide), jm_up_lj (by decide)⟩, fun j hj => jm_up_i (by omega)⟩
section TH
variable {E : jm_E} {d : Nat} {μ : jm_M} {Q : Option jm_V → jm_M → Prop} {ρ σ : sR} {p q : Int}
theorem c_T_differs {P K : Nat} (hP : (P : Int) = sMx (ρ 0) (σ 0)) (hK : (K : Int) = sMx (ρ 1) (σ 1)) : ∀ (r : Nat) (b c : sB) (μ : jm_M) (i : Int) (Q : Option jm_V → jm_M → Prop), 0 ≤ i → i + r + 1 ≤ 8 → b.2.1 = i → c.2.1 = i → tA μ ρ 37 p 400 b → tA μ σ 53 q 8 c → (∀ m : Nat, m ≤ r → sPa ρ σ P K m b c = none) →
    (∀ ν, tA ν ρ 37 p 400 b → tA ν σ 53 q 8 c → tPb i μ ν → (∀ l, sPa ρ σ P K (r + 1) b c = some l → l.length = r + 1 → sPt (ν 122) i l → Q (some (jm_I 1)) ν) ∧ (sPa ρ σ P K (r + 1) b c = none → Q (some (jm_I 0)) ν)) →
    jc E m_X3_differs (d + r + 6) [jm_R 121, jm_R 37, jm_R 53, jm_I i, jm_I ((r + 1 : Nat) : Int)] μ Q := by
  intro r
  induction r with
  | zero =>
    intro b c μ i Q h1 h2 hbi hci hA hB hno h
    have hW := hA.2.2.1
    have hV := hB.2.2.1
    have P8 := sMx_in (x := ρ 0) (y := σ 0) (z := 8) ⟨hW.1, hW.2.1⟩ ⟨hV.1, hV.2.1⟩
    have K10 := sMx_in (x := ρ 1) (y := σ 1) (z := 10) ⟨hW.2.2.1, hW.2.2.2.1⟩ ⟨hV.2.2.1, hV.2.2.2.1⟩
    obtain ⟨R, hR⟩ : ∃ R, R = sPa ρ σ P K (0 + 1) b c := ⟨_, rfl⟩
    rw [← hR] at h
    rw [sPa] at hR
    generalize hFK : (fun a k : Int => if 0 = 0 then (if sMb ρ b a k = sMb σ c a k then none else some [16 * a + k]) else if sMb ρ b a k = true ∧ sMb σ c a k = true then (sPa ρ σ P K 0 (sPush ρ b a k) (sPush σ c a k)).map (fun l => (16 * a + k) :: l) else none) = FK at hR
    have hFK' : ∀ a k, FK a k = if sMb ρ b a k = sMb σ c a k then none else some [16 * a + k] := fun a k => by rw [← hFK]; exact if_pos rfl
    have hR' : sF1 (fun a => sF1 (FK a) K 0) P 0 = R := by rw [hR, ← hFK]
    clear hR hFK
    refine e_X3_differs (d := d + 5) (fun _ => ⟨fun _ => ⟨hA.1.i6, ?_⟩, fun z => absurd (show i < 8 by omega) z⟩)
    rw [hA.2.1, hA.2.2.2.1.1, hB.2.1, hB.2.2.2.1.1, hA.2.2.2.1.2.1, hB.2.2.2.1.2.1]
    refine ⟨hA.1.i5, hB.1.i6, hB.1.i5, fun x6 hx6 x7 hx7 => ?_⟩
    rw [jm_mx_s, ← hP] at hx6
    rw [jm_mx_s, ← hK] at hx7
    subst hx6 hx7
    have key : ∀ (m : Nat) (a : Int) (ξ : jm_M), P - a = m → 0 ≤ a → tA ξ ρ 37 p 400 b → tA ξ σ 53 q 8 c → tPb i μ ξ → sF1 (fun a => sF1 (FK a) K 0) m a = R → jg E m_X3_differs (d + 5) 49 [some (jm_R 121), some (jm_R 37), some (jm_R 53), some (jm_I i), some (jm_I ((0 + 1 : Nat) : Int)), some (jm_I P), some (jm_I K), some (jm_I a), none, none, none] [] ξ Q := by
      intro m
      induction m with
      | zero => exact fun a ξ g1 g2 g3 g4 g5 g6 => r_X3_differs_49 (d := d + 5) ⟨fun _ => (h ξ g3 g4 g5).2 g6.symm, fun z => absurd (show (P : Int) ≤ a by omega) z⟩
      | succ m ih =>
        intro a ξ g1 g2 g3 g4 g5 g6
        refine r_X3_differs_49 (d := d + 5) ⟨fun z => absurd z (by omega), fun _ => ?_⟩
        have inner : ∀ (m' : Nat) (k : Int) (ξ : jm_M), K - k = m' → 0 ≤ k → tA ξ ρ 37 p 400 b → tA ξ σ 53 q 8 c → tPb i μ ξ → (sF1 (FK a) m' k).or (sF1 (fun a => sF1 (FK a) K 0) m (a + 1)) = R → jg E m_X3_differs (d + 5) 59 [some (jm_R 121), some (jm_R 37), some (jm_R 53), some (jm_I i), some (jm_I ((0 + 1 : Nat) : Int)), some (jm_I P), some (jm_I K), some (jm_I a), some (jm_I k), none, none] [] ξ Q := by
          intro m'
          induction m' with
          | zero =>
            intro k ξ g1' g2' g3' g4' g5' g6'
            refine r_X3_differs_59 (d := d + 5) ⟨fun _ => ?_, fun z => absurd (show (K : Int) ≤ k by omega) z⟩
            rw [jm_wr_id (a := a + 1) (by omega) (by omega)]
            exact ih (a + 1) ξ (by omega) (by omega) g3' g4' g5' g6'
          | succ m' ih' =>
            intro k ξ g1' g2' g3' g4' g5' g6'
            rw [sF1, hFK'] at g6'
            have f1 := sMb_fw (ρ := ρ) (b := b) (c := 400) (a := a) (k := k) g2 g2' (by omega)
            have f2 := sMb_fw (ρ := σ) (b := c) (c := 8) (a := a) (k := k) g2 g2' (by omega)
            have pa9 : tPb i μ (jm_up ξ 122 i (16 * a + k)) := g5'.trans tPb_up (Int.le_refl _)
            have A9 := g3'.up (q := 122) (i := i) (v := 16 * a + k) (by decide)
            have B9 := g4'.up (q := 122) (i := i) (v := 16 * a + k) (by decide)
            have on : sMb ρ b a k = sMb σ c a k → jg E m_X3_differs (d + 5) 59 [some (jm_R 121), some (jm_R 37), some (jm_R 53), some (jm_I i), some (jm_I ((0 + 1 : Nat) : Int)), some (jm_I P), some (jm_I K), some (jm_I a), some (jm_I (k + 1)), none, none] [] (jm_up ξ 122 i (16 * a + k)) Q := fun z => by
              rw [if_pos z] at g6'
              exact ih' (k + 1) _ (by omega) (by omega) A9 B9 pa9 g6'
            have off : sMb ρ b a k ≠ sMb σ c a k → Q (some (jm_I 1)) (jm_up ξ 122 i (16 * a + k)) := fun z => by
              rw [if_neg z] at g6'
              exact (h _ A9 B9 pa9).1 [16 * a + k] g6'.symm rfl ⟨jm_up_at, trivial⟩
            refine r_X3_differs_59 (d := d + 5) ⟨fun z => absurd z (by omega), fun _ => ⟨g3'.1.i6, c_T_flaw g3' (jq_I ?_)⟩⟩
            rw [jm_wr_id (a := 16 * a) (by omega) (by omega), jm_wr_id (a := 16 * a + k) (by omega) (by omega), jm_wr_id (a := k + 1) (by omega) (by omega)]
            refine ⟨fun z => ⟨⟨by omega, by omega⟩, fun m7 hm => ⟨fun z2 => absurd z2 (by omega), fun _ => ⟨hB.1.i6, ?_⟩⟩⟩, fun z => ⟨⟨by omega, by omega⟩, fun m7 hm => ⟨fun z2 => absurd z2 (by omega), fun _ => ⟨hB.1.i6, ?_⟩⟩⟩⟩
            · subst hm
              have n1 : sMb ρ b a k = false := by
                cases hh : sMb ρ b a k
                · rfl
                · exact absurd (f1.mp hh) z
              refine c_T_flaw B9 (jq_I ⟨fun y => on ?_, fun y => off ?_⟩)
              · cases hh : sMb σ c a k
                · exact n1
                · exact absurd (f2.mp hh) y
              · rw [n1, f2.mpr (Decidable.not_not.mp y)]; decide
            · subst hm
              have n1 : sMb ρ b a k = true := f1.mpr (Decidable.not_not.mp z)
              refine c_T_flaw B9 (jq_I ⟨fun y => off ?_, fun y => on ?_⟩)
              · cases hh : sMb σ c a k
                · rw [n1]; decide
                · exact absurd (f2.mp hh) y
              · rw [n1, f2.mpr (Decidable.not_not.mp y)]
        exact inner K 0 ξ (by omega) (by decide) g3 g4 g5 g6
    exact key P 0 μ (by omega) (by decide) hA hB tPb.rfl hR'
  | succ r ihr =>
    intro b c μ i Q h1 h2 hbi hci hA hB hno h
    have hW := hA.2.2.1
    have hV := hB.2.2.1
    have P8 := sMx_in (x := ρ 0) (y := σ 0) (z := 8) ⟨hW.1, hW.2.1⟩ ⟨hV.1, hV.2.1⟩
    have K10 := sMx_in (x := ρ 1) (y := σ 1) (z := 10) ⟨hW.2.2.1, hW.2.2.2.1⟩ ⟨hV.2.2.1, hV.2.2.2.1⟩
    have hG := hA.2.2.2.2.2.1
    have hH := hB.2.2.2.2.2.1
    obtain ⟨R, hR⟩ : ∃ R, R = sPa ρ σ P K (r + 1 + 1) b c := ⟨_, rfl⟩
    rw [← hR] at h
    rw [sPa] at hR
    generalize hFK : (fun a k : Int => if r + 1 = 0 then (if sMb ρ b a k = sMb σ c a k then none else some [16 * a + k]) else if sMb ρ b a k = true ∧ sMb σ c a k = true then (sPa ρ σ P K (r + 1) (sPush ρ b a k) (sPush σ c a k)).map (fun l => (16 * a + k) :: l) else none) = FK at hR
    have hFK' : ∀ a k, FK a k = if sMb ρ b a k = true ∧ sMb σ c a k = true then (sPa ρ σ P K (r + 1) (sPush ρ b a k) (sPush σ c a k)).map (fun l => (16 * a + k) :: l) else none := fun a k => by rw [← hFK]; exact if_neg (by omega)
    have hR' : sF1 (fun a => sF1 (FK a) K 0) P 0 = R := by rw [hR, ← hFK]
    clear hR hFK
    refine e_X3_differs (d := d + r + 6) (fun _ => ⟨fun _ => ⟨hA.1.i6, ?_⟩, fun z => absurd (show i < 8 by omega) z⟩)
    rw [hA.2.1, hA.2.2.2.1.1, hB.2.1, hB.2.2.2.1.1, hA.2.2.2.1.2.1, hB.2.2.2.1.2.1]
    refine ⟨hA.1.i5, hB.1.i6, hB.1.i5, fun x6 hx6 x7 hx7 => ?_⟩
    rw [jm_mx_s, ← hP] at hx6
    rw [jm_mx_s, ← hK] at hx7
    subst hx6 hx7
    have key : ∀ (m : Nat) (a : Int) (ξ : jm_M), P - a = m → 0 ≤ a → tA ξ ρ 37 p 400 b → tA ξ σ 53 q 8 c → tPb i μ ξ → sF1 (fun a => sF1 (FK a) K 0) m a = R → jg E m_X3_differs (d + r + 6) 49 [some (jm_R 121), some (jm_R 37), some (jm_R 53), some (jm_I i), some (jm_I ((r + 1 + 1 : Nat) : Int)), some (jm_I P), some (jm_I K), some (jm_I a), none, none, none] [] ξ Q := by
      intro m
      induction m with
      | zero => exact fun a ξ g1 g2 g3 g4 g5 g6 => r_X3_differs_49 (d := d + r + 6) ⟨fun _ => (h ξ g3 g4 g5).2 g6.symm, fun z => absurd (show (P : Int) ≤ a by omega) z⟩
      | succ m ih =>
        intro a ξ g1 g2 g3 g4 g5 g6
        refine r_X3_differs_49 (d := d + r + 6) ⟨fun z => absurd z (by omega), fun _ => ?_⟩
        have inner : ∀ (m' : Nat) (k : Int) (ξ : jm_M), K - k = m' → 0 ≤ k → tA ξ ρ 37 p 400 b → tA ξ σ 53 q 8 c → tPb i μ ξ → (sF1 (FK a) m' k).or (sF1 (fun a => sF1 (FK a) K 0) m (a + 1)) = R → jg E m_X3_differs (d + r + 6) 59 [some (jm_R 121), some (jm_R 37), some (jm_R 53), some (jm_I i), some (jm_I ((r + 1 + 1 : Nat) : Int)), some (jm_I P), some (jm_I K), some (jm_I a), some (jm_I k), none, none] [] ξ Q := by
          intro m'
          induction m' with
          | zero =>
            intro k ξ g1' g2' g3' g4' g5' g6'
            refine r_X3_differs_59 (d := d + r + 6) ⟨fun _ => ?_, fun z => absurd (show (K : Int) ≤ k by omega) z⟩
            rw [jm_wr_id (a := a + 1) (by omega) (by omega)]
            exact ih (a + 1) ξ (by omega) (by omega) g3' g4' g5' g6'
          | succ m' ih' =>
            intro k ξ g1' g2' g3' g4' g5' g6'
            rw [sF1, hFK'] at g6'
            have f1 := sMb_fw (ρ := ρ) (b := b) (c := 400) (a := a) (k := k) g2 g2' (by omega)
            have eq := sPa_one (hno 1 (by omega)) g2 (by omega) g2' (show k < (K : Int) by omega)
            have pa9 : tPb i μ (jm_up ξ 122 i (16 * a + k)) := g5'.trans tPb_up (Int.le_refl _)
            have A9 := g3'.up (q := 122) (i := i) (v := 16 * a + k) (by decide)
            have B9 := g4'.up (q := 122) (i := i) (v := 16 * a + k) (by decide)
            refine r_X3_differs_59 (d := d + r + 6) ⟨fun z => absurd z (by omega), fun _ => ⟨g3'.1.i6, c_T_flaw g3' (jq_I ?_)⟩⟩
            rw [jm_wr_id (a := 16 * a) (by omega) (by omega), jm_wr_id (a := 16 * a + k) (by omega) (by omega), jm_wr_id (a := k + 1) (by omega) (by omega), jm_wr_id (a := i + 1) (by omega) (by omega), jm_wr_id (a := ((r + 1 + 1 : Nat) : Int) - 1) (by omega) (by omega), show ((r + 1 + 1 : Nat) : Int) - 1 = ((r + 1 : Nat) : Int) by omega]
            refine ⟨fun z => ⟨⟨by omega, by omega⟩, fun m7 hm => ⟨fun _ => ?_, fun z2 => absurd (show 1 < ((r + 1 + 1 : Nat) : Int) by omega) z2⟩⟩, fun z => ⟨⟨by omega, by omega⟩, fun m17 hm => ⟨fun _ => ?_, fun z2 => absurd (show 1 < ((r + 1 + 1 : Nat) : Int) by omega) z2⟩⟩⟩
            · subst hm
              rw [if_neg (fun y => z (f1.mp y.1))] at g6'
              exact ih' (k + 1) _ (by omega) (by omega) A9 B9 pa9 g6'
            · subst hm
              have t1 : sMb ρ b a k = true := f1.mpr (Decidable.not_not.mp z)
              have t2 : sMb σ c a k = true := eq ▸ t1
              have hz := of_decide_eq_true t1
              have hy := of_decide_eq_true t2
              rw [if_pos ⟨t1, t2⟩] at g6'
              have hGp := sGB_push hW hG (by omega) g2 hz.1 g2' hz.2.1 hz.2.2
              have nb := (sPush_c (ρ := ρ) (b := b) (who := a) (k := k) rfl).1
              have nc := (sPush_c (ρ := σ) (b := c) (who := a) (k := k) rfl).1
              refine c_T_add A9 (by omega) g2 hz.1 g2' hz.2.1 hz.2.2 (fun ξ2 A2 f2 _ => ⟨hB.1.i6, ?_⟩)
              have B2 := B9.fr2 A9.1 (by decide) f2
              have pa2 := pa9.trans (tPb_1 (i := i) f2) (Int.le_refl _)
              refine c_T_add B2 (by omega) g2 hy.1 g2' hy.2.1 hy.2.2 (fun ξ3 B3 f3 _ => ?_)
              have A3 := A2.fr2 B2.1 (by decide) f3
              have pa3 := pa2.trans (tPb_2 (i := i) f3) (Int.le_refl _)
              have at3 : ξ3 122 i = 16 * a + k := by rw [f3.1 122 (by decide) (by decide), f2.1 122 (by decide) (by decide)]; exact jm_up_at
              have fin : ∀ ξ4, tA ξ4 ρ 37 p 400 (sPush ρ b a k) → tA ξ4 σ 53 q 8 (sPush σ c a k) → tPb (i + 1) ξ3 ξ4 → ∀ F : jm_M → Prop, (∀ ξ6, tA ξ6 ρ 37 p 400 b → tA ξ6 σ 53 q 8 c → tPb i μ ξ6 → ξ6 122 = ξ4 122 → ξ6 122 i = 16 * a + k → F ξ6) → jc E m_X6_takeBack (d + r + 6) [jm_R 37] ξ4 (fun o m26 => o = none → jc E m_X6_takeBack (d + r + 6) [jm_R 53] m26 (fun o m27 => o = none → F m27)) := by
                intro ξ4 A4 B4 pa4 F hF
                have pa4' := pa3.trans pa4 (by omega)
                refine c_T_back A4 hG g2 hz.1 g2' hz.2.1 hz.2.2 (fun ξ5 A5 f5 _ => ?_)
                have B5 := B4.fr2 A4.1 (by decide) f5
                refine c_T_back B5 hH g2 hy.1 g2' hy.2.1 hy.2.2 (fun ξ6 B6 f6 _ => ?_)
                have A6 := A5.fr2 B5.1 (by decide) f6
                have e6 : ξ6 122 = ξ4 122 := by rw [f6.1 122 (by decide) (by decide), f5.1 122 (by decide) (by decide)]
                exact hF ξ6 A6 B6 ((pa4'.trans (tPb_1 (i := i) f5) (Int.le_refl _)).trans (tPb_2 (i := i) f6) (Int.le_refl _)) e6 (by rw [e6, pa4.2.2 i (by omega)]; exact at3)
              refine ihr (sPush ρ b a k) (sPush σ c a k) ξ3 (i + 1) _ (by omega) (by omega) (by omega) (by omega) A3 B3 (fun m hm => sPa_sub (hno (m + 1) (by omega)) g2 (by omega) g2' (by omega) t1 t2) (fun ξ4 A4 B4 pa4 => ⟨fun l hl ll hp => jq_Z ?_, fun hl => jq_Z ?_⟩)
              · refine fin ξ4 A4 B4 pa4 _ (fun ξ6 A6 B6 p6 e6 a6 => jb_f (by decide) ?_)
                rw [hl] at g6'
                exact (h ξ6 A6 B6 p6).1 ((16 * a + k) :: l) g6'.symm (by simp only [List.length_cons]; omega) ⟨a6, by rw [e6]; exact hp⟩
              · refine fin ξ4 A4 B4 pa4 _ (fun ξ6 A6 B6 p6 e6 a6 => jb_t rfl ?_)
                rw [hl] at g6'
                exact ih' (k + 1) ξ6 (by omega) (by omega) A6 B6 p6 g6'
        exact inner K 0 ξ (by omega) (by decide) g3 g4 g5 g6
    exact key P 0 μ (by omega) (by decide) hA hB tPb.rfl hR'
theorem c_T_difference {P K : Nat} {n : Int} (hP : (P : Int) = sMx (ρ 0) (σ 0)) (hK : (K : Int) = sMx (ρ 1) (σ 1)) (n0 : 1 ≤ n) (n1 : n ≤ 6) (hA : tA μ ρ 37 p 400 sEmpty) (hB : tA μ σ 53 q 8 sEmpty)
    (h : ∀ ν, tA ν ρ 37 p 400 sEmpty → tA ν σ 53 q 8 sEmpty → tPb 0 μ ν → (∀ l, sF1 (fun l => sPa ρ σ P K l.toNat sEmpty sEmpty) n.toNat 1 = some l → 1 ≤ l.length → l.length ≤ 6 → sPt (ν 122) 0 l → Q (some (jm_I l.length)) ν) ∧ (sF1 (fun l => sPa ρ σ P K l.toNat sEmpty sEmpty) n.toNat 1 = none → Q (some (jm_I 0)) ν)) :
    jc E m_X3_difference (d + 15) [jm_R 121, jm_R 37, jm_R 53, jm_I n] μ Q := by
  refine e_X3_difference (d := d + 14) (fun _ => ?_)
  have key : ∀ (m : Nat) (x : Int) (ξ : jm_M), x + m = n + 1 → 1 ≤ x → tA ξ ρ 37 p 400 sEmpty → tA ξ σ 53 q 8 sEmpty → tPb 0 μ ξ → (∀ j : Nat, j < x → sPa ρ σ P K j sEmpty sEmpty = none) → sF1 (fun l => sPa ρ σ P K l.toNat sEmpty sEmpty) m x = sF1 (fun l => sPa ρ σ P K l.toNat sEmpty sEmpty) n.toNat 1 → jg E m_X3_difference (d + 14) 3 [some (jm_R 121), some (jm_R 37), some (jm_R 53), some (jm_I n), some (jm_I x)] [] ξ Q := by
    intro m
    induction m with
    | zero => exact fun x ξ g1 g2 g3 g4 g5 g6 g7 => r_X3_difference_3 (d := d + 14) ⟨fun _ => (h ξ g3 g4 g5).2 g7.symm, fun z => absurd (show n < x by omega) z⟩
    | succ m ih =>
      intro x ξ g1 g2 g3 g4 g5 g6 g7
      obtain ⟨r, rfl⟩ : ∃ r : Nat, x = ((r + 1 : Nat) : Int) := ⟨(x - 1).toNat, by omega⟩
      refine r_X3_difference_3 (d := d + 14) ⟨fun z => absurd z (by omega), fun _ => ?_⟩
      have hd : d + 14 = (d + 8 - r) + r + 6 := by omega
      rw [hd]
      refine c_T_differs hP hK r sEmpty sEmpty ξ 0 _ (by decide) (by omega) rfl rfl g3 g4 (fun j hj => g6 j (by omega)) (fun ν A B pa => ⟨fun l hl ll hpt => jq_Z (jb_f (by decide) ?_), fun hl => jq_Z (jb_t rfl ?_)⟩)
      · rw [sF1, Int.toNat_natCast, hl] at g7
        have := (h ν A B (g5.trans pa (Int.le_refl _))).1 l g7.symm (by omega) (by omega) hpt
        rw [ll] at this
        exact this
      · rw [← hd, jm_wr_id (by omega) (by omega)]
        rw [sF1, Int.toNat_natCast, hl] at g7
        refine ih _ ν (by omega) (by omega) A B (g5.trans pa (Int.le_refl _)) (fun j hj => ?_) g7
        by_cases e : j = r + 1
        · rw [e]; exact hl
        · exact g6 j (by omega)
  refine key n.toNat 1 μ (by omega) (by decide) hA hB tPb.rfl (fun j hj => ?_) rfl
  have : j = 0 := by omega
  subst this
  rfl
end TH
