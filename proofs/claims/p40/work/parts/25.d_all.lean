/-- what the class holds of fillings alone has changed -/
def wQ (μ ν : jm_M) : Prop := (∀ q, q ≠ 37 → q < 47 ∨ 52 < q → q < 124 ∨ 129 < q → ν q = μ q) ∧ ∀ j, j ≠ 0 → j ≠ 1 → j ≠ 2 → ν 37 j = μ 37 j
theorem wQ.rfl {μ : jm_M} : wQ μ μ := ⟨fun _ _ _ _ => Eq.refl _, fun _ _ _ _ => Eq.refl _⟩
theorem wQ.trans {a b c : jm_M} (h1 : wQ a b) (h2 : wQ b c) : wQ a c := ⟨fun q q1 q2 q3 => (h2.1 q q1 q2 q3).trans (h1.1 q q1 q2 q3), fun j j0 j1 j2 => (h2.2 j j0 j1 j2).trans (h1.2 j j0 j1 j2)⟩
theorem wQ_o {μ ν : jm_M} (h : ∀ x, x < 124 ∨ 129 < x → ν x = μ x) : wQ μ ν := ⟨fun q _ _ q3 => h q q3, fun j _ _ _ => by rw [h 37 (by decide)]⟩
section WJ
variable {E : jm_E} {d : Nat} {μ : jm_M} {Q : Option jm_V → jm_M → Prop} {ρ : sR} {p : Int} {mn : Nat} {mt : Int → Int}
theorem sTq_in {wo sw : Int} (hV : sVM ρ mn mt) (w0 : -1 ≤ wo) (w1 : wo < mn) (s0 : -1 ≤ sw) (s1 : sw = -1 ∨ sw + 1 < mn) (hx : wo = -1 ∨ sw = -1) : ∀ t : Int, 0 ≤ t → t < sTn mn wo → (sTq mt wo sw (2 * t) = -1 ∨ 0 ≤ sTq mt wo sw (2 * t) ∧ sTq mt wo sw (2 * t) < ρ 0) ∧ (sTq mt wo sw (2 * t + 1) = -1 ∨ 0 ≤ sTq mt wo sw (2 * t + 1) ∧ sTq mt wo sw (2 * t + 1) < ρ 1) := by
  intro t t0 t1
  rw [sTq_0 t0, sTq_1 t0]
  have hd : 0 ≤ sDp wo t ∧ sDp wo t < mn ∧ (wo = -1 → sDp wo t = t) := by
    unfold sDp sTn at *
    split at t1 <;> split <;> omega
  have hs : 0 ≤ sSw sw (sDp wo t) ∧ sSw sw (sDp wo t) < mn := by
    unfold sSw
    split
    · omega
    · split <;> omega
  exact hV.2.1 _ hs.1 hs.2
theorem t_rowF {T : Int → Int} {N : Nat} {tl en : Int} (hN : N ≤ 24) (htl : tl = 0 ∨ tl = 1) (hT : ∀ t : Int, 0 ≤ t → t < N → (T (2 * t) = -1 ∨ 0 ≤ T (2 * t) ∧ T (2 * t) < ρ 0) ∧ (T (2 * t + 1) = -1 ∨ 0 ≤ T (2 * t + 1) ∧ T (2 * t + 1) < ρ 1)) (hA : tA μ ρ 37 p 400 sEmpty) (hs : wS T N tl en μ) (hl : μ 124 3 + (sFi ρ T N sEmpty).length < 2147483647)
    (h : ∀ ν, tA ν ρ 37 p 400 sEmpty → wS T N tl en ν → wG ρ N 0 tl en (sFi ρ T N sEmpty) μ ν → Q none ν) : jc E m_X9_fill (d + 39) [jm_R 124, jm_R 37, jm_I 0] μ Q := by
  have hc := c_T_fill (E := E) (d := d + 33 - N) (p := p) hN htl hT N sEmpty μ 0 Q (by show (0 : Int) + N = N; omega) rfl hA hs hl h
  rwa [show d + 33 - N + N + 6 = d + 39 by omega] at hc
/-- what a row of minutes is laid and filled for -/
def wR (ρ : sR) (N : Nat) (tl en : Int) (R : List sB) (μ ν : jm_M) : Prop :=
  wQ μ ν ∧ ν 124 0 = N ∧ (∀ j, j ≠ 0 → j ≠ 3 → ν 124 j = μ 124 j) ∧ (∀ f i : Int, 0 ≤ f → f ≤ 2 → 0 ≤ i → i < 24 → 0 ≤ ν (127 + f) i ∧ ν (127 + f) i < 1024) ∧
  (μ 124 3 ≤ ν 124 3 ∧ ν 124 3 ≤ μ 124 3 + R.length) ∧ (μ 124 3 + R.length ≤ en → ν 124 3 = μ 124 3 + R.length) ∧ (en < μ 124 3 + R.length → en < ν 124 3) ∧
  (tl = 0 → ν 127 = μ 127 ∧ ν 128 = μ 128 ∧ ν 129 = μ 129) ∧
  (tl = 1 → μ 124 3 + R.length ≤ en → ∀ f i : Int, 0 ≤ f → f ≤ 2 → 0 ≤ i → i < N → ν (127 + f) i = sMk (sFd ρ f i) R (μ (127 + f) i))
theorem wR_of {T : Int → Int} {N : Nat} {tl en : Int} {R : List sB} {m ν : jm_M} (h1 : ∀ x, x < 124 ∨ 126 < x → m x = μ x) (h2 : ∀ i, i ≠ 0 → m 124 i = μ 124 i) (hs : wS T N tl en ν) (hg : wG ρ N 0 tl en R m ν) : wR ρ N tl en R μ ν := by
  obtain ⟨a1, a2, a3, a4, a5, a6, a7, a8⟩ := hg
  have e3 := h2 3 (by decide)
  rw [e3] at a4 a5 a6
  refine ⟨(wQ_o (fun x hx => h1 x (by omega))).trans ⟨fun q q1 q2 q3 => a1 q q1 q2 (by omega) (by omega), fun j _ j1 j2 => a2 j j1 j2⟩, hs.1, fun j j0 j3 => (a3 j j3).trans (h2 j j0), hs.2.2.2.2.2, a4, a5, a6, fun z => ?_, fun z z2 f i f0 f1 i0 i1 => ?_⟩
  · have := a7 z
    exact ⟨this.1.trans (h1 127 (by decide)), this.2.1.trans (h1 128 (by decide)), this.2.2.trans (h1 129 (by decide))⟩
  · have x := a8 z (by rw [e3]; exact z2)
    rw [← h1 (127 + f) (by omega)]
    by_cases hf : f = 2
    · subst hf
      exact x.2.2.1 i i0 i1
    · exact x.1 f i f0 (by omega) i0 i1
theorem t_row1 {wo tl en : Int} {F : Option jm_V → jm_M → Prop} (hV : sVM ρ mn mt) (htl : tl = 0 ∨ tl = 1) (w0 : -1 ≤ wo) (w1 : wo < mn) (hA : tA μ ρ 37 p 400 sEmpty) (hM : tMn μ 69 mn mt) (h5 : μ 124 5 = tl) (h4 : μ 124 4 = en) (h3 : 0 ≤ μ 124 3) (hm : ∀ f i : Int, 0 ≤ f → f ≤ 2 → 0 ≤ i → i < 24 → 0 ≤ μ (127 + f) i ∧ μ (127 + f) i < 1024) (hl : μ 124 3 + (sFi ρ (sTq mt wo (-1)) (sTn mn wo) sEmpty).length < 2147483647)
    (h : ∀ ν, tA ν ρ 37 p 400 sEmpty → wR ρ (sTn mn wo) tl en (sFi ρ (sTq mt wo (-1)) (sTn mn wo) sEmpty) μ ν → F none ν) :
    jc E m_X9_take (d + 39) [jm_R 124, jm_R 69, jm_I wo] μ (fun o m4 => o = none → jc E m_X9_fill (d + 39) [jm_R 124, jm_R 37, jm_I 0] m4 F) := by
  have hN : sTn mn wo ≤ 24 := by have := hV.1; unfold sTn; split <;> omega
  refine c_T_take (d := d + 37) is_69 (by decide) hM hV.1 w0 w1 (fun m v1 v2 v3 v4 _ => ?_)
  have hs : wS (sTq mt wo (-1)) (sTn mn wo) tl en m := ⟨v3, by rw [v2 5 (by decide)]; exact h5, by rw [v2 4 (by decide)]; exact h4, v4, by rw [v2 3 (by decide)]; exact h3, fun f i f0 f1 i0 i1 => by rw [v1 _ (by omega) (by omega) (by omega)]; exact hm f i f0 f1 i0 i1⟩
  exact t_rowF hN htl (sTq_in hV w0 w1 (by decide) (Or.inl rfl) (Or.inr rfl)) (hA.of (fun q hq => v1 q (by have := hA.1.p; omega) (by have := hA.1.p; omega) (by have := hA.1.p; omega))) hs (by rw [v2 3 (by decide)]; exact hl) (fun ν A S G => h ν A (wR_of (fun x hx => v1 x (by omega) (by omega) (by omega)) v2 S G))
theorem t_row2 {sw tl en : Int} {F : Option jm_V → jm_M → Prop} (hV : sVM ρ mn mt) (htl : tl = 0 ∨ tl = 1) (s0 : 0 ≤ sw) (s1 : sw + 1 < mn) (hA : tA μ ρ 37 p 400 sEmpty) (hM : tMn μ 69 mn mt) (h5 : μ 124 5 = tl) (h4 : μ 124 4 = en) (h3 : 0 ≤ μ 124 3) (hm : ∀ f i : Int, 0 ≤ f → f ≤ 2 → 0 ≤ i → i < 24 → 0 ≤ μ (127 + f) i ∧ μ (127 + f) i < 1024) (hl : μ 124 3 + (sFi ρ (sTq mt (-1) sw) mn sEmpty).length < 2147483647)
    (h : ∀ ν, tA ν ρ 37 p 400 sEmpty → wR ρ mn tl en (sFi ρ (sTq mt (-1) sw) mn sEmpty) μ ν → F none ν) :
    jc E m_X9_take (d + 39) [jm_R 124, jm_R 69, jm_I (-1)] μ (fun o m4 => o = none → jc E m_X9_exchange (d + 39) [jm_R 124, jm_I sw] m4 (fun o m7 => o = none → jc E m_X9_fill (d + 39) [jm_R 124, jm_R 37, jm_I 0] m7 F)) := by
  refine c_T_take (d := d + 37) is_69 (by decide) hM hV.1 (by decide) (by omega) (fun m v1 v2 v3 v4 _ => ?_)
  have e : sTn mn (-1) = mn := rfl
  rw [e] at v3 v4
  refine c_T_exchange (d := d + 38) hV.1 s0 s1 v3 v4 (fun m' u1 u2 _ => ?_)
  have o1 : ∀ x, x < 124 ∨ 126 < x → m' x = μ x := fun x hx => by rw [u1 x (by omega) (by omega), v1 x (by omega) (by omega) (by omega)]
  have o2 : ∀ i, i ≠ 0 → m' 124 i = μ 124 i := fun i hi => by rw [u1 124 (by decide) (by decide)]; exact v2 i hi
  have hs : wS (sTq mt (-1) sw) mn tl en m' := ⟨by rw [u1 124 (by decide) (by decide)]; exact v3, by rw [o2 5 (by decide)]; exact h5, by rw [o2 4 (by decide)]; exact h4, u2, by rw [o2 3 (by decide)]; exact h3, fun f i f0 f1 i0 i1 => by rw [o1 _ (by omega)]; exact hm f i f0 f1 i0 i1⟩
  exact t_rowF hV.1 htl (fun t t0 t1 => sTq_in hV (by decide) (by omega) (by omega) (Or.inr s1) (Or.inl rfl) t t0 (by rw [e]; exact t1)) (hA.of (fun q hq => o1 q (by have := hA.1.p; omega))) hs (by rw [o2 3 (by decide)]; exact hl) (fun ν A S G => h ν A (wR_of o1 o2 S G))
theorem tMn_w {ν : jm_M} (hq : wQ μ ν) (h : tMn μ 69 mn mt) : tMn ν 69 mn mt := tMn_of (fun x x0 x1 => hq.1 x (by omega) (by omega) (by omega)) h
theorem c_T_all {w : Int} (hA : tA μ ρ 37 p 400 sEmpty) (hM : tMn μ 69 mn mt) (hV : sVM ρ mn mt) (hw : 0 ≤ w ∧ w ≤ 2) (hB : sWays ρ mt mn ≤ 20000)
    (h : ∀ ν, wQ μ ν → ν 37 0 = μ 37 0 → ν 124 6 = (if (sWl ρ mn mt w).length = 0 then 0 else sWn mn w : Nat) → (∀ f i : Int, 0 ≤ f → f ≤ 2 → 0 ≤ i → i < (if (sWl ρ mn mt w).length = 0 then 0 else sWn mn w : Nat) → ν (127 + f) i = sMk (sFd ρ f i) (sWl ρ mn mt w) 0) → (∀ f i : Int, 0 ≤ f → f ≤ 2 → 0 ≤ i → i < 24 → 0 ≤ ν (127 + f) i ∧ ν (127 + f) i < 1024) → Q (some (jm_I (sWl ρ mn mt w).length)) ν) :
    jc E m_X9_all (d + 40) [jm_R 124, jm_R 69, jm_R 37, jm_I w] μ Q := by
  have hW := hA.2.2.1
  have hlen := sWl_len hW hV.1 hw hB
  have each := sWl_each hW hw hB
  have halt := sWl_alt (ρ := ρ) (mn := mn) (mt := mt) hw
  generalize sWl ρ mn mt w = R at h hlen halt
  refine e_X9_all (d := d + 39) (fun _ => ?_)
  refine e_X9_start (d := d + 38) (fun _ => ⟨Or.inr rfl, fun _ => ?_⟩)
  -- the rows
  have rows : ∀ (nr : Nat), nr = (if w = 0 then 1 else if w = 2 then mn - 1 else mn : Nat) → ∀ (rr : Int), (rr = nr ∨ rr = -1 ∧ nr = 0) → ∀ (m : Nat) (i : Int) (L : List sB) (ξ : jm_M), i + m = nr → 0 ≤ i → tA ξ ρ 37 p 400 sEmpty → wQ μ ξ → ξ 37 0 = μ 37 0 → ξ 124 5 = 1 → ξ 124 4 = 1000000 → ξ 124 3 = L.length → (∀ f i : Int, 0 ≤ f → f ≤ 2 → 0 ≤ i → i < 24 → 0 ≤ ξ (127 + f) i ∧ ξ (127 + f) i < 1024) → (∀ f i : Int, 0 ≤ f → f ≤ 2 → 0 ≤ i → i < sWn mn w → ξ (127 + f) i = sMk (sFd ρ f i) L 0) → (L ≠ [] → ξ 124 0 = sWn mn w) →
      R = L ++ sFl (fun i => sFi ρ (sTq mt (if w = 1 then i else -1) (if w = 2 then i else -1)) (sTn mn (if w = 1 then i else -1)) sEmpty) m i → jg E m_X9_all (d + 39) 76 [some (jm_R 124), some (jm_R 69), some (jm_R 37), some (jm_I w), some (jm_I rr), some (jm_I i)] [] ξ Q := by
    intro nr hnr rr hrr m
    have hnr24 : nr ≤ 24 := by
      have := hV.1
      rw [hnr]
      split
      · decide
      · split <;> omega
    induction m with
    | zero =>
      intro i L ξ g1 g2 g3 g4 g5 g6 g7 g8 g9 g10 g11 g12
      have eR : R = L := by rw [g12]; exact List.append_nil L
      subst eR
      refine r_X9_all_76 (d := d + 39) ⟨fun _ => ?_, fun z => absurd (show rr ≤ i by omega) z⟩
      rw [g8]
      refine ⟨fun z => ?_, fun z => ?_⟩
      · have l0 : R.length = 0 := by omega
        refine h _ (g4.trans (wQ_o (fun x hx => jm_up_ne (by omega)))) (by rw [jm_up_ne (by decide)]; exact g5) (by rw [if_pos l0]; exact jm_up_at) (fun f i f0 f1 i0 i1 => ?_) (fun f i f0 f1 i0 i1 => by rw [jm_up_ne (by omega)]; exact g9 f i f0 f1 i0 i1)
        rw [if_pos l0] at i1
        omega
      · have l0 : R.length ≠ 0 := by omega
        refine h _ (g4.trans (wQ_o (fun x hx => jm_up_ne (by omega)))) (by rw [jm_up_ne (by decide)]; exact g5) (by rw [if_neg l0, jm_up_at]; exact g11 (fun e => l0 (by rw [e]; rfl))) (fun f i f0 f1 i0 i1 => ?_) (fun f i f0 f1 i0 i1 => by rw [jm_up_ne (by omega)]; exact g9 f i f0 f1 i0 i1)
        rw [if_neg l0] at i1
        rw [jm_up_ne (by omega)]
        exact g10 f i f0 f1 i0 i1
    | succ m ih =>
      intro i L ξ g1 g2 g3 g4 g5 g6 g7 g8 g9 g10 g11 g12
      have g12' : R = L ++ (sFi ρ (sTq mt (if w = 1 then i else -1) (if w = 2 then i else -1)) (sTn mn (if w = 1 then i else -1)) sEmpty ++ sFl (fun i => sFi ρ (sTq mt (if w = 1 then i else -1) (if w = 2 then i else -1)) (sTn mn (if w = 1 then i else -1)) sEmpty) m (i + 1)) := g12
      have ei := each i g2 (by rw [← hnr]; omega)
      have lenR : R.length = L.length + ((sFi ρ (sTq mt (if w = 1 then i else -1) (if w = 2 then i else -1)) (sTn mn (if w = 1 then i else -1)) sEmpty).length + (sFl (fun i => sFi ρ (sTq mt (if w = 1 then i else -1) (if w = 2 then i else -1)) (sTn mn (if w = 1 then i else -1)) sEmpty) m (i + 1)).length) := by rw [g12']; simp only [List.length_append]
      have rn : sTn mn (if w = 1 then i else -1) = sWn mn w := by
        unfold sTn sWn
        by_cases h1 : w = 1
        · rw [if_pos h1, if_pos g2, if_pos h1]
        · rw [if_neg h1, if_neg (by decide), if_neg h1]
      rw [rn] at ei lenR
      rw [rn] at g12'
      have go : ∀ ν, tA ν ρ 37 p 400 sEmpty → wR ρ (sWn mn w) 1 1000000 (sFi ρ (sTq mt (if w = 1 then i else -1) (if w = 2 then i else -1)) (sWn mn w) sEmpty) ξ ν → jg E m_X9_all (d + 39) 76 [some (jm_R 124), some (jm_R 69), some (jm_R 37), some (jm_I w), some (jm_I rr), some (jm_I (jm_wr (i + 1)))] [] ν Q := by
        intro ν A ⟨r1, r2, r3, r4, r5, r6, r7, r8, r9⟩
        rw [jm_wr_id (by omega) (by omega)]
        have hle : ξ 124 3 + (sFi ρ (sTq mt (if w = 1 then i else -1) (if w = 2 then i else -1)) (sWn mn w) sEmpty).length ≤ 1000000 := by rw [g8]; omega
        refine ih (i + 1) (L ++ sFi ρ (sTq mt (if w = 1 then i else -1) (if w = 2 then i else -1)) (sWn mn w) sEmpty) ν (by omega) (by omega) A (g4.trans r1) (by rw [A.2.1, ← g3.2.1]; exact g5) ((r3 5 (by decide) (by decide)).trans g6) ((r3 4 (by decide) (by decide)).trans g7) ?_ r4 (fun f i' f0 f1 i0 i1 => ?_) (fun _ => r2) ?_
        · rw [r6 hle, g8, List.length_append]; omega
        · rw [r9 rfl hle f i' f0 f1 i0 i1, g10 f i' f0 f1 i0 i1, sMk_app]
        · rw [g12', List.append_assoc]
      have M' := tMn_w g4 hM
      have l3 : 0 ≤ ξ 124 3 := by rw [g8]; omega
      refine r_X9_all_76 (d := d + 39) ⟨fun z => absurd z (by omega), fun _ => ⟨fun z1 => ?_, fun z1 => ?_⟩⟩
      · rw [if_neg z1] at ei go lenR
        by_cases z2 : w = 2
        · rw [if_pos z2] at ei go lenR
          have s1 : i + 1 < mn := by rw [if_neg (by omega), if_pos z2] at hnr; omega
          have en : sWn mn w = mn := by unfold sWn; rw [if_neg z1]
          rw [en] at ei go lenR
          have t2 := t_row2 (E := E) (d := d) (tl := 1) (en := 1000000) (F := fun o m8 => o = none → jg E m_X9_all (d + 39) 76 [some (jm_R 124), some (jm_R 69), some (jm_R 37), some (jm_I w), some (jm_I rr), some (jm_I (jm_wr (i + 1)))] [] m8 Q) hV (Or.inr rfl) g2 s1 g3 M' g6 g7 l3 g9 (by rw [g8]; omega) (fun ν A r _ => go ν A r)
          refine jm_Cl.mono t2 (fun o m hq _ ho => ⟨fun y => absurd z2 y, fun _ => hq ho⟩)
        · rw [if_neg z2] at ei go lenR
          have en : sTn mn (-1) = sWn mn w := by unfold sWn; rw [if_neg z1]; rfl
          rw [← en] at ei go lenR
          have t1 := t_row1 (E := E) (d := d) (wo := -1) (tl := 1) (en := 1000000) (F := fun o m6 => o = none → jg E m_X9_all (d + 39) 76 [some (jm_R 124), some (jm_R 69), some (jm_R 37), some (jm_I w), some (jm_I rr), some (jm_I (jm_wr (i + 1)))] [] m6 Q) hV (Or.inr rfl) (by decide) (by omega) g3 M' g6 g7 l3 g9 (by rw [g8]; omega) (fun ν A r _ => go ν A r)
          refine jm_Cl.mono t1 (fun o m hq _ ho => ⟨fun _ => hq ho, fun y => absurd z2 y⟩)
      · have w1 : w = 1 := Decidable.not_not.mp z1
        rw [if_pos w1, if_neg (by omega)] at ei go lenR
        have en : sTn mn i = sWn mn w := by unfold sWn sTn; rw [if_pos w1, if_pos g2]
        rw [← en] at ei go lenR
        have hi : i < mn := by rw [if_neg (by omega), if_neg (by omega)] at hnr; omega
        have t1 := t_row1 (E := E) (d := d) (wo := i) (tl := 1) (en := 1000000) (F := fun o m11 => o = none → jg E m_X9_all (d + 39) 76 [some (jm_R 124), some (jm_R 69), some (jm_R 37), some (jm_I w), some (jm_I rr), some (jm_I (jm_wr (i + 1)))] [] m11 Q) hV (Or.inr rfl) (by omega) hi g3 M' g6 g7 l3 g9 (by rw [g8]; omega) (fun ν A r _ => go ν A r)
        refine jm_Cl.mono t1 (fun o m hq _ ho => ⟨fun _ => hq ho, fun y => absurd (by omega) y⟩)
  -- the rows of bits, cleared
  have zero : ∀ (m : Nat) (i : Int) (ξ : jm_M), i + m = 24 → 0 ≤ i → (∀ x, x < 124 ∨ 129 < x → ξ x = μ x) → ξ 124 5 = 1 → ξ 124 4 = 1000000 → ξ 124 3 = 0 → (∀ f j : Int, 0 ≤ f → f ≤ 2 → 0 ≤ j → j < i → ξ (127 + f) j = 0) → jg E m_X9_all (d + 39) 8 [some (jm_R 124), some (jm_R 69), some (jm_R 37), some (jm_I w), some (jm_I i), none] [] ξ Q := by
    intro m
    induction m with
    | zero =>
      intro i ξ g1 g2 g3 g4 g5 g6 g7
      have A : tA ξ ρ 37 p 400 sEmpty := hA.of (fun q hq => g3 q (by have := hA.1.p; omega))
      have go : ∀ (nr : Nat), nr = (if w = 0 then 1 else if w = 2 then mn - 1 else mn : Nat) → ∀ (rr : Int), (rr = nr ∨ rr = -1 ∧ nr = 0) → jg E m_X9_all (d + 39) 76 [some (jm_R 124), some (jm_R 69), some (jm_R 37), some (jm_I w), some (jm_I rr), some (jm_I 0)] [] ξ Q := by
        intro nr hnr rr hrr
        refine rows nr hnr rr hrr nr 0 [] ξ (by omega) (by decide) A (wQ_o g3) (by rw [g3 37 (by decide)]) g4 g5 g6 (fun f i f0 f1 i0 i1 => by rw [g7 f i f0 f1 i0 (by omega)]; omega) (fun f i f0 f1 i0 i1 => ?_) (fun e => absurd rfl e) ?_
        · have : sWn mn w ≤ 24 := by have := hV.1; unfold sWn; split <;> omega
          exact g7 f i f0 f1 i0 (by omega)
        · rw [halt, hnr]; rfl
      have e69 : ξ 69 0 = mn := by rw [g3 69 (by decide)]; exact hM.1
      have hn := hV.1
      refine r_X9_all_8 (d := d + 39) ⟨fun _ => ⟨fun z0 => ⟨fun z1 => ⟨is_69, fun x hx => ?_⟩, fun z1 => ⟨is_69, ?_⟩⟩, fun z0 => ?_⟩, fun z => absurd (show 24 ≤ i by omega) z⟩
      · rw [e69, jm_wr_id (by omega) (by omega)] at hx
        exact go (mn - 1) (by rw [if_neg z0, if_pos (by omega)]) x (by omega)
      · rw [e69]
        exact go mn (by rw [if_neg z0, if_neg (by omega)]) mn (Or.inl rfl)
      · exact go 1 (by rw [if_pos (Decidable.not_not.mp z0)]) 1 (Or.inl rfl)
    | succ m ih =>
      intro i ξ g1 g2 g3 g4 g5 g6 g7
      refine r_X9_all_8 (d := d + 39) ⟨fun z => absurd z (by omega), fun _ => ⟨by omega, fun m8 h8 m9 h9 m10 h10 => ?_⟩⟩
      rw [jm_wr_id (by omega) (by omega)]
      have oth : ∀ x, x ≠ 127 → x ≠ 128 → x ≠ 129 → m10 x = ξ x := fun x x1 x2 x3 => by rw [h10, jm_up_ne x3, h9, jm_up_ne x2, h8, jm_up_ne x1]
      refine ih (i + 1) m10 (by omega) (by omega) (fun x hx => by rw [oth x (by omega) (by omega) (by omega)]; exact g3 x hx) (by rw [oth 124 (by decide) (by decide) (by decide)]; exact g4) (by rw [oth 124 (by decide) (by decide) (by decide)]; exact g5) (by rw [oth 124 (by decide) (by decide) (by decide)]; exact g6) (fun f j f0 f1 j0 j1 => ?_)
      by_cases e : j = i
      · subst e
        rcases (show f = 0 ∨ f = 1 ∨ f = 2 by omega) with rfl | rfl | rfl
        · rw [h10, jm_up_ne (by decide), h9, jm_up_ne (by decide), h8]; exact jm_up_at
        · rw [h10, jm_up_ne (by decide), h9]; exact jm_up_at
        · rw [h10]; exact jm_up_at
      · rw [h10, jm_up_i e, h9, jm_up_i e, h8, jm_up_i e]
        exact g7 f j f0 f1 j0 (by omega)
  refine zero 24 0 _ (by decide) (by decide) (fun x hx => ?_) ?_ ?_ ?_ (fun f j _ _ j0 j1 => by omega)
  · rw [jm_up_ne (by omega), jm_up_ne (by omega), jm_up_ne (by omega), jm_up_ne (by omega)]
  · rw [jm_up_i (by decide), jm_up_i (by decide), jm_up_i (by decide), jm_up_at]
  · rw [jm_up_at]
  · rw [jm_up_i (by decide), jm_up_at]
end WJ
