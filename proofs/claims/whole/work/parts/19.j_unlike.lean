/-! what two tables have unlike -/
def sMb (ρ : sR) (b : sB) (a k : Int) : Bool := decide (a < ρ 0 ∧ k < ρ 1 ∧ sWr ρ b a k = 0)
def sPa (ρ σ : sR) (P K : Nat) : Nat → sB → sB → Option (List Int)
  | 0, _, _ => none
  | m + 1, b, c => sF1 (fun a => sF1 (fun k =>
      if m = 0 then (if sMb ρ b a k = sMb σ c a k then none else some [16 * a + k])
      else if sMb ρ b a k = true ∧ sMb σ c a k = true then (sPa ρ σ P K m (sPush ρ b a k) (sPush σ c a k)).map (fun l => (16 * a + k) :: l) else none) K 0) P 0
def sMx (x y : Int) : Int := if x ≤ y then y else x
def sUnl (ρ σ : sR) (n : Int) : Int × List Int :=
  if sTM (sMx (ρ 0) (σ 0) * sMx (ρ 1) (σ 1)) n.toNat 1 = true then (-2, [])
  else match sF1 (fun l => sPa ρ σ (sMx (ρ 0) (σ 0)).toNat (sMx (ρ 1) (σ 1)).toNat l.toNat sEmpty sEmpty) n.toNat 1 with
    | some l => (l.length, l)
    | none => (0, [])
theorem sPa_len {ρ σ : sR} {P K : Nat} : ∀ (m : Nat) (b c : sB) (l : List Int), sPa ρ σ P K m b c = some l → l.length = m
  | 0, b, c, l, h => by cases h
  | m + 1, b, c, l, h => by
    rw [sPa] at h
    refine sF1_some (P := fun l => l.length = m + 1) (fun a l h => ?_) _ _ l h
    refine sF1_some (P := fun l => l.length = m + 1) (fun k l h => ?_) _ _ l h
    by_cases hm : m = 0
    · rw [if_pos hm] at h
      split at h
      · cases h
      · cases h; rw [hm]; rfl
    · rw [if_neg hm] at h
      split at h
      · cases hc : sPa ρ σ P K m (sPush ρ b a k) (sPush σ c a k) with
        | none => rw [hc] at h; cases h
        | some l' =>
          rw [hc] at h
          cases h
          show l'.length + 1 = m + 1
          rw [sPa_len m _ _ l' hc]
      · cases h
theorem sGB_empty {ρ : sR} : sGB ρ sEmpty := ⟨by decide, by decide, by decide, by decide, fun t t0 t1 => absurd (show t < 0 from t1) (by omega)⟩
section MJ
variable {E : jm_E} {d : Nat} {μ : jm_M} {Q : Option jm_V → jm_M → Prop} {ρ σ : sR} {b c : sB} {e : Int}
theorem mFr.bd {ν : jm_M} {e' : Int} (h : mFr e μ ν) (h0 : 0 ≤ e' ∧ e' < 2) (hne : e' ≠ e) (hn : b.2.1 ≤ 400) (hb : mBd μ e' b) : mBd ν e' b := h.2 e' b h0.1 h0.2 hne hn hb
theorem c_M_mayBeSaid {a k : Int} (he : 0 ≤ e ∧ e < 2) (hW : sWR ρ) (hr : mRu μ e ρ) (hb : mBd μ e b) (hG : sGB ρ b) (a0 : 0 ≤ a) (k0 : 0 ≤ k) (ht : sMb ρ b a k = true → Q (some (jm_I 1)) μ) (hf : sMb ρ b a k = false → Q (some (jm_I 0)) μ) : jc E m_X11_mayBeSaid (d + 4) [jm_R 133, jm_I e, jm_I a, jm_I k] μ Q := by
  unfold sMb at ht hf
  refine e_X11_mayBeSaid (d := d + 3) (fun _ => c_M_rule he (by decide) hr (jq_I ⟨fun z => hf (decide_eq_false (fun q => by omega)), fun z => c_M_rule he (by decide) hr (jq_I ⟨fun z2 => hf (decide_eq_false (fun q => by omega)), fun z2 => ?_⟩)⟩))
  exact c_M_wrongOf he hW hr hb hG a0 (by omega) k0 (by omega) (jq_I ⟨fun z3 => hf (decide_eq_false (fun q => z3 q.2.2)), fun z3 => ht (decide_eq_true ⟨by omega, by omega, Decidable.not_not.mp z3⟩)⟩)
theorem c_M_parts (hW : sWR ρ) (hV : sWR σ) {P K : Nat} (hP : P ≤ 8) (hK : K ≤ 10) : ∀ (r : Nat) (b c : sB) (μ : jm_M) (i n : Int) (Q : Option jm_V → jm_M → Prop), n - i = r + 1 → 0 ≤ i → n ≤ 8 → mRu μ 0 ρ → mRu μ 1 σ → mBd μ 0 b → mBd μ 1 c → sGB ρ b → sGB σ c → b.2.1 ≤ i → c.2.1 ≤ i →
    (∀ ν, mBd ν 0 b → mBd ν 1 c → mPa i μ ν → (∀ l, sPa ρ σ P K (r + 1) b c = some l → l.length = r + 1 → sPt (ν 161) i l → Q (some (jm_I 1)) ν) ∧ (sPa ρ σ P K (r + 1) b c = none → Q (some (jm_I 0)) ν)) →
    jc E m_X11_parts (d + r + 5) [jm_R 133, jm_I P, jm_I K, jm_I n, jm_I i] μ Q := by
  intro r
  induction r with
  | zero =>
    intro b c μ i n Q h1 h2 h3 hr hs hb hc hG hH bi ci h
    obtain ⟨R, hR⟩ : ∃ R, R = sPa ρ σ P K (0 + 1) b c := ⟨_, rfl⟩
    rw [← hR] at h
    rw [sPa] at hR
    generalize hFK : (fun a k : Int => if (0 : Nat) = 0 then (if sMb ρ b a k = sMb σ c a k then none else some [16 * a + k]) else if sMb ρ b a k = true ∧ sMb σ c a k = true then (sPa ρ σ P K 0 (sPush ρ b a k) (sPush σ c a k)).map (fun l => (16 * a + k) :: l) else none) = FK at hR
    have hFK' : ∀ a k, FK a k = if sMb ρ b a k = sMb σ c a k then none else some [16 * a + k] := fun a k => by rw [← hFK]; rfl
    have hR' : sF1 (fun a => sF1 (FK a) K 0) P 0 = R := by rw [hR, ← hFK]
    clear hR hFK
    refine e_X11_parts (d := d + 4) (fun _ => ?_)
    have key : ∀ (m : Nat) (a : Int) (ξ : jm_M), P - a = m → 0 ≤ a → mBd ξ 0 b → mBd ξ 1 c → mPa i μ ξ → sF1 (fun a => sF1 (FK a) K 0) m a = R → jg E m_X11_parts (d + 4) 3 [some (jm_R 133), some (jm_I P), some (jm_I K), some (jm_I n), some (jm_I i), some (jm_I a), none, none, none, none] [] ξ Q := by
      intro m
      induction m with
      | zero => exact fun a ξ g1 g2 g3 g4 g5 g6 => r_X11_parts_3 (d := d + 4) ⟨fun _ => (h ξ g3 g4 g5).2 g6.symm, fun z => absurd (show (P : Int) ≤ a by omega) z⟩
      | succ m ih =>
        intro a ξ g1 g2 g3 g4 g5 g6
        refine r_X11_parts_3 (d := d + 4) ⟨fun z => absurd z (by omega), fun _ => ?_⟩
        have inner : ∀ (m' : Nat) (k : Int) (ξ : jm_M), K - k = m' → 0 ≤ k → mBd ξ 0 b → mBd ξ 1 c → mPa i μ ξ → (sF1 (FK a) m' k).or (sF1 (fun a => sF1 (FK a) K 0) m (a + 1)) = R → jg E m_X11_parts (d + 4) 12 [some (jm_R 133), some (jm_I P), some (jm_I K), some (jm_I n), some (jm_I i), some (jm_I a), some (jm_I k), none, none, none] [] ξ Q := by
          intro m'
          induction m' with
          | zero =>
            intro k ξ g1' g2' g3' g4' g5' g6'
            refine r_X11_parts_12 (d := d + 4) ⟨fun _ => ?_, fun z => absurd (show (K : Int) ≤ k by omega) z⟩
            rw [jm_wr_id (a := a + 1) (by omega) (by omega)]
            exact ih (a + 1) ξ (by omega) (by omega) g3' g4' g5' g6'
          | succ m' ih' =>
            intro k ξ g1' g2' g3' g4' g5' g6'
            have hr' : mRu ξ 0 ρ := mPa_ru g5' hr
            have hs' : mRu ξ 1 σ := mPa_ru g5' hs
            rw [sF1, hFK'] at g6'
            have go : ∀ x y : Int, (x = if sMb ρ b a k = true then 1 else 0) → (y = if sMb σ c a k = true then 1 else 0) →
                (0 ≤ i ∧ i < 8) ∧ ∀ m9 : jm_M, m9 = jm_up ξ 161 i (jm_wr (jm_wr (16 * a) + k)) → (x = y → jg E m_X11_parts (d + 4) 12 [some (jm_R 133), some (jm_I P), some (jm_I K), some (jm_I n), some (jm_I i), some (jm_I a), some (jm_I (jm_wr (k + 1))), none, none, none] [] m9 Q) ∧ (¬ x = y → Q (some (jm_I 1)) m9) := by
              intro x y hx hy
              refine ⟨⟨by omega, by omega⟩, fun m9 hm => ⟨fun z => ?_, fun z => ?_⟩⟩
              · have hz : sMb ρ b a k = sMb σ c a k := by
                  rw [hx, hy] at z
                  cases h1 : sMb ρ b a k <;> cases h2 : sMb σ c a k <;> rw [h1, h2] at z <;> first | rfl | (exact absurd z (by decide))
                rw [if_pos hz] at g6'
                subst hm
                rw [jm_wr_id (a := k + 1) (by omega) (by omega)]
                exact ih' (k + 1) _ (by omega) (by omega) (mBd_up (by decide) g3') (mBd_up (by decide) g4') (g5'.trans mPa_up (Int.le_refl _)) g6'
              · have hz : sMb ρ b a k ≠ sMb σ c a k := fun q => z (by rw [hx, hy, q])
                rw [if_neg hz] at g6'
                rw [jm_wr_id (a := 16 * a) (by omega) (by omega), jm_wr_id (a := 16 * a + k) (by omega) (by omega)] at hm
                subst hm
                exact (h _ (mBd_up (by decide) g3') (mBd_up (by decide) g4') (g5'.trans mPa_up (Int.le_refl _))).1 [16 * a + k] g6'.symm rfl ⟨jm_up_at, trivial⟩
            have hn : ¬ (i ≠ jm_wr (n - 1)) := by rw [jm_wr_id (by omega) (by omega)]; omega
            refine r_X11_parts_12 (d := d + 4) ⟨fun z => absurd z (by omega), fun _ => c_M_mayBeSaid (by decide) hW hr' g3' hG g2 g2' (fun z => jq_Z ?_) (fun z => jq_Z ?_)⟩
            · exact c_M_mayBeSaid (by decide) hV hs' g4' hH g2 g2' (fun y => jq_Z ⟨(go 1 1 (by rw [if_pos z]) (by rw [if_pos y])).1, fun m9 hm => jb_f hn ((go 1 1 (by rw [if_pos z]) (by rw [if_pos y])).2 m9 hm)⟩) (fun y => jq_Z ⟨(go 1 0 (by rw [if_pos z]) (by rw [y]; rfl)).1, fun m9 hm => jb_f hn ((go 1 0 (by rw [if_pos z]) (by rw [y]; rfl)).2 m9 hm)⟩)
            · exact c_M_mayBeSaid (by decide) hV hs' g4' hH g2 g2' (fun y => jq_Z ⟨(go 0 1 (by rw [z]; rfl) (by rw [if_pos y])).1, fun m9 hm => jb_f hn ((go 0 1 (by rw [z]; rfl) (by rw [if_pos y])).2 m9 hm)⟩) (fun y => jq_Z ⟨(go 0 0 (by rw [z]; rfl) (by rw [y]; rfl)).1, fun m9 hm => jb_f hn ((go 0 0 (by rw [z]; rfl) (by rw [y]; rfl)).2 m9 hm)⟩)
        exact inner K 0 ξ (by omega) (by decide) g3 g4 g5 g6
    exact key P 0 μ (by omega) (by decide) hb hc mPa.rfl hR'
  | succ r ihr =>
    intro b c μ i n Q h1 h2 h3 hr hs hb hc hG hH bi ci h
    obtain ⟨R, hR⟩ : ∃ R, R = sPa ρ σ P K (r + 1 + 1) b c := ⟨_, rfl⟩
    rw [← hR] at h
    rw [sPa] at hR
    generalize hFK : (fun a k : Int => if r + 1 = 0 then (if sMb ρ b a k = sMb σ c a k then none else some [16 * a + k]) else if sMb ρ b a k = true ∧ sMb σ c a k = true then (sPa ρ σ P K (r + 1) (sPush ρ b a k) (sPush σ c a k)).map (fun l => (16 * a + k) :: l) else none) = FK at hR
    have hFK' : ∀ a k, FK a k = if sMb ρ b a k = true ∧ sMb σ c a k = true then (sPa ρ σ P K (r + 1) (sPush ρ b a k) (sPush σ c a k)).map (fun l => (16 * a + k) :: l) else none := fun a k => by rw [← hFK]; exact if_neg (by omega)
    have hR' : sF1 (fun a => sF1 (FK a) K 0) P 0 = R := by rw [hR, ← hFK]
    clear hR hFK
    have hn : i ≠ jm_wr (n - 1) := by rw [jm_wr_id (by omega) (by omega)]; omega
    refine e_X11_parts (d := d + r + 5) (fun _ => ?_)
    have key : ∀ (m : Nat) (a : Int) (ξ : jm_M), P - a = m → 0 ≤ a → mBd ξ 0 b → mBd ξ 1 c → mPa i μ ξ → sF1 (fun a => sF1 (FK a) K 0) m a = R → jg E m_X11_parts (d + r + 5) 3 [some (jm_R 133), some (jm_I P), some (jm_I K), some (jm_I n), some (jm_I i), some (jm_I a), none, none, none, none] [] ξ Q := by
      intro m
      induction m with
      | zero => exact fun a ξ g1 g2 g3 g4 g5 g6 => r_X11_parts_3 (d := d + r + 5) ⟨fun _ => (h ξ g3 g4 g5).2 g6.symm, fun z => absurd (show (P : Int) ≤ a by omega) z⟩
      | succ m ih =>
        intro a ξ g1 g2 g3 g4 g5 g6
        refine r_X11_parts_3 (d := d + r + 5) ⟨fun z => absurd z (by omega), fun _ => ?_⟩
        have inner : ∀ (m' : Nat) (k : Int) (ξ : jm_M), K - k = m' → 0 ≤ k → mBd ξ 0 b → mBd ξ 1 c → mPa i μ ξ → (sF1 (FK a) m' k).or (sF1 (fun a => sF1 (FK a) K 0) m (a + 1)) = R → jg E m_X11_parts (d + r + 5) 12 [some (jm_R 133), some (jm_I P), some (jm_I K), some (jm_I n), some (jm_I i), some (jm_I a), some (jm_I k), none, none, none] [] ξ Q := by
          intro m'
          induction m' with
          | zero =>
            intro k ξ g1' g2' g3' g4' g5' g6'
            refine r_X11_parts_12 (d := d + r + 5) ⟨fun _ => ?_, fun z => absurd (show (K : Int) ≤ k by omega) z⟩
            rw [jm_wr_id (a := a + 1) (by omega) (by omega)]
            exact ih (a + 1) ξ (by omega) (by omega) g3' g4' g5' g6'
          | succ m' ih' =>
            intro k ξ g1' g2' g3' g4' g5' g6'
            have hr' : mRu ξ 0 ρ := mPa_ru g5' hr
            have hs' : mRu ξ 1 σ := mPa_ru g5' hs
            rw [sF1, hFK'] at g6'
            have skip : ¬ (sMb ρ b a k = true ∧ sMb σ c a k = true) → ∀ m9 : jm_M, m9 = jm_up ξ 161 i (jm_wr (jm_wr (16 * a) + k)) → jg E m_X11_parts (d + r + 5) 12 [some (jm_R 133), some (jm_I P), some (jm_I K), some (jm_I n), some (jm_I i), some (jm_I a), some (jm_I (jm_wr (k + 1))), none, none, none] [] m9 Q := by
              intro z m9 hm
              rw [if_neg z] at g6'
              subst hm
              rw [jm_wr_id (a := k + 1) (by omega) (by omega)]
              exact ih' (k + 1) _ (by omega) (by omega) (mBd_up (by decide) g3') (mBd_up (by decide) g4') (g5'.trans mPa_up (Int.le_refl _)) g6'
            have hi8 : 0 ≤ i ∧ i < 8 := ⟨by omega, by omega⟩
            refine r_X11_parts_12 (d := d + r + 5) ⟨fun z => absurd z (by omega), fun _ => c_M_mayBeSaid (by decide) hW hr' g3' hG g2 g2' (fun z => jq_Z ?_) (fun z => jq_Z ?_)⟩
            · refine c_M_mayBeSaid (by decide) hV hs' g4' hH g2 g2' (fun y => jq_Z ⟨hi8, fun m9 hm => jb_t hn (jb_f (by decide) (jb_t (by decide) ?_))⟩) (fun y => jq_Z ⟨hi8, fun m9 hm => jb_t hn (jb_f (by decide) (jb_f (by decide) (skip (fun q => by rw [q.2] at y; cases y) m9 hm)))⟩)
              rw [if_pos ⟨z, y⟩] at g6'
              have hz := of_decide_eq_true z
              have hy := of_decide_eq_true y
              rw [jm_wr_id (a := 16 * a) (by omega) (by omega), jm_wr_id (a := 16 * a + k) (by omega) (by omega)] at hm
              have b9 : mBd m9 0 b := by rw [hm]; exact mBd_up (by decide) g3'
              have c9 : mBd m9 1 c := by rw [hm]; exact mBd_up (by decide) g4'
              have pa9 : mPa i μ m9 := by rw [hm]; exact g5'.trans mPa_up (Int.le_refl _)
              have at9 : m9 161 i = 16 * a + k := by rw [hm]; exact jm_up_at
              have hGp := sGB_push hW hG (by omega) g2 hz.1 g2' hz.2.1 hz.2.2
              have hHp := sGB_push hV hH (by omega) g2 hy.1 g2' hy.2.1 hy.2.2
              have nb := (sPush_c (ρ := ρ) (b := b) (who := a) (k := k) rfl).1
              have nc := (sPush_c (ρ := σ) (b := c) (who := a) (k := k) rfl).1
              refine c_M_push (by decide) hW (mPa_ru pa9 hr) b9 hG.1 (by omega) (fun s s0 s1 => ?_) ⟨hG.2.2.1, by have := hG.2.2.2.1; omega⟩ g2 hz.1 g2' hz.2.1 (fun ξ2 bd2 f2 _ => ?_)
              · have := (hG.2.2.2.2 s s0 s1).2.2.2.2.1
                omega
              · have c2 := f2.bd (e' := 1) (by decide) (by decide) (by omega) c9
                have pa2 := pa9.trans (mPa_of (i := i) f2) (Int.le_refl _)
                refine c_M_push (by decide) hV (mPa_ru pa2 hs) c2 hH.1 (by omega) (fun s s0 s1 => ?_) ⟨hH.2.2.1, by have := hH.2.2.2.1; omega⟩ g2 hy.1 g2' hy.2.1 (fun ξ3 cd3 f3 _ => ?_)
                · have := (hH.2.2.2.2 s s0 s1).2.2.2.2.1
                  omega
                · have b3 := f3.bd (e' := 0) (by decide) (by decide) (by omega) bd2
                  have pa3 := pa2.trans (mPa_of (i := i) f3) (Int.le_refl _)
                  have at3 : ξ3 161 i = 16 * a + k := by rw [f3.1 161 (by decide), f2.1 161 (by decide)]; exact at9
                  rw [jm_wr_id (a := i + 1) (by omega) (by omega)]
                  have fin : ∀ ξ4, mBd ξ4 0 (sPush ρ b a k) → mBd ξ4 1 (sPush σ c a k) → mPa (i + 1) ξ3 ξ4 → ∀ F : jm_M → Prop, (∀ ξ6, mBd ξ6 0 b → mBd ξ6 1 c → mPa i μ ξ6 → ξ6 161 = ξ4 161 → ξ6 161 i = 16 * a + k → F ξ6) → jc E m_X11_pop (d + r + 5) [jm_R 133, jm_I 0] ξ4 (fun o m18 => o = none → jc E m_X11_pop (d + r + 5) [jm_R 133, jm_I 1] m18 (fun o m19 => o = none → F m19)) := by
                    intro ξ4 bd4 cd4 pa4 F hF
                    have pa4' := pa3.trans pa4 (by omega)
                    refine c_M_pop (by decide) hW (mPa_ru pa4' hr) bd4 hG (by omega) g2 hz.1 g2' hz.2.1 hz.2.2 (fun ξ5 bd5 f5 _ => ?_)
                    have c5 := f5.bd (e' := 1) (by decide) (by decide) (by omega) cd4
                    have pa5 := pa4'.trans (mPa_of (i := i) f5) (Int.le_refl _)
                    refine c_M_pop (by decide) hV (mPa_ru pa5 hs) c5 hH (by omega) g2 hy.1 g2' hy.2.1 hy.2.2 (fun ξ6 cd6 f6 _ => ?_)
                    have b6 := f6.bd (e' := 0) (by decide) (by decide) (by omega) bd5
                    have e6 : ξ6 161 = ξ4 161 := by rw [f6.1 161 (by decide), f5.1 161 (by decide)]
                    exact hF ξ6 b6 cd6 (pa5.trans (mPa_of (i := i) f6) (Int.le_refl _)) e6 (by rw [e6, pa4.2 i (by omega)]; exact at3)
                  refine ihr (sPush ρ b a k) (sPush σ c a k) ξ3 (i + 1) n _ (by omega) (by omega) h3 (mPa_ru pa3 hr) (mPa_ru pa3 hs) b3 cd3 hGp hHp (by omega) (by omega) (fun ξ4 bd4 cd4 pa4 => ⟨fun l hl ll hp => jq_Z ?_, fun hl => jq_Z ?_⟩)
                  · refine fin ξ4 bd4 cd4 pa4 _ (fun ξ6 b6 c6 p6 e6 a6 => jb_f (by decide) ?_)
                    rw [hl] at g6'
                    exact (h ξ6 b6 c6 p6).1 ((16 * a + k) :: l) g6'.symm (by simp only [List.length_cons]; omega) ⟨a6, by rw [e6]; exact hp⟩
                  · refine fin ξ4 bd4 cd4 pa4 _ (fun ξ6 b6 c6 p6 e6 a6 => jb_t rfl ?_)
                    rw [hl] at g6'
                    rw [jm_wr_id (a := k + 1) (by omega) (by omega)]
                    exact ih' (k + 1) ξ6 (by omega) (by omega) b6 c6 p6 g6'
            · exact c_M_mayBeSaid (by decide) hV hs' g4' hH g2 g2' (fun y => jq_Z ⟨hi8, fun m9 hm => jb_t hn (jb_t rfl (skip (fun q => by rw [q.1] at z; cases z) m9 hm))⟩) (fun y => jq_Z ⟨hi8, fun m9 hm => jb_t hn (jb_t rfl (skip (fun q => by rw [q.1] at z; cases z) m9 hm))⟩)
        exact inner K 0 ξ (by omega) (by decide) g3 g4 g5 g6
    exact key P 0 μ (by omega) (by decide) hb hc mPa.rfl hR'
end MJ
