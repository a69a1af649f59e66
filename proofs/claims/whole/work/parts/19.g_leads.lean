/-! looking for roads -/
def sF1 {α : Type} (f : Int → Option α) : Nat → Int → Option α
  | 0, _ => none
  | m + 1, k => (f k).or (sF1 f m (k + 1))
/-- the first words, just so many, that lead there -/
def sLd (ρ : sR) (w st sil : Int) : Nat → sB → Option (List Int)
  | 0, b => if w < b.2.1 ∧ sSt ρ b w = st then some [] else none
  | m + 1, b => if b.2.1 = 400 then none else
      sF1 (fun a => if a = sil then none else sF1 (fun k => if sWr ρ b a k = 0 then (sLd ρ w st sil m (sPush ρ b a k)).map (fun l => (16 * a + k) :: l) else none) (ρ 1).toNat 0) (ρ 0).toNat 0
/-- a row of numbers from i on -/
def sPt (g : Int → Int) : Int → List Int → Prop
  | _, [] => True
  | i, x :: l => g i = x ∧ sPt g (i + 1) l
theorem sPt_ext {g g' : Int → Int} : ∀ (l : List Int) (i : Int), (∀ j, i ≤ j → j < i + l.length → g' j = g j) → sPt g i l → sPt g' i l
  | [], _, _, _ => trivial
  | x :: l, i, h, q => ⟨by rw [h i (by omega) (by simp only [List.length_cons]; omega)]; exact q.1, sPt_ext l (i + 1) (fun j j0 j1 => h j (by omega) (by simp only [List.length_cons]; omega)) q.2⟩
theorem sPt_at {g : Int → Int} : ∀ (l : List Int) (i : Int), sPt g i l → ∀ j : Nat, j < l.length → g (i + j) = l.getD j 0
  | [], _, _, j, hj => absurd hj (by simp)
  | x :: l, i, q, 0, _ => by simpa using q.1
  | x :: l, i, q, j + 1, hj => by
    have h := sPt_at l (i + 1) q.2 j (by simp only [List.length_cons] at hj; omega)
    rw [show i + ((j + 1 : Nat) : Int) = i + 1 + j by omega, h]
    simp
/-- boards and the path from i on alone have changed -/
def mPa (i : Int) (μ ν : jm_M) : Prop := (∀ p, p ≠ 161 → p < 144 ∨ 151 < p → ν p = μ p) ∧ ∀ j, j < i → ν 161 j = μ 161 j
theorem mPa.rfl {i : Int} {μ : jm_M} : mPa i μ μ := ⟨fun _ _ _ => Eq.refl _, fun _ _ => Eq.refl _⟩
theorem mPa.trans {i j : Int} {a b c : jm_M} (h1 : mPa i a b) (h2 : mPa j b c) (hj : i ≤ j) : mPa i a c := ⟨fun p hp hq => (h2.1 p hp hq).trans (h1.1 p hp hq), fun x hx => (h2.2 x (by omega)).trans (h1.2 x hx)⟩
theorem mPa_of {e i : Int} {μ ν : jm_M} (h : mFr e μ ν) : mPa i μ ν := ⟨fun p _ hq => h.1 p hq, fun j _ => by rw [h.1 161 (by decide)]⟩
theorem mPa_ru {i e : Int} {μ ν : jm_M} {ρ : sR} (h : mPa i μ ν) (hr : mRu μ e ρ) : mRu ν e ρ := fun j j0 j1 => by rw [h.1 143 (by decide) (by decide)]; exact hr j j0 j1
theorem mBd_up {μ : jm_M} {e : Int} {b : sB} {p i v : Int} (hp : p < 144 ∨ 151 < p) (h : mBd μ e b) : mBd (jm_up μ p i v) e b :=
  ⟨by rw [jm_up_ne (by omega)]; exact h.1, by rw [jm_up_ne (by omega)]; exact h.2.1, fun f t f0 f1 t0 t1 => by rw [jm_up_ne (by omega)]; exact h.2.2 f t f0 f1 t0 t1⟩
theorem mRu_up {μ : jm_M} {e : Int} {ρ : sR} {p i v : Int} (hp : p ≠ 143) (h : mRu μ e ρ) : mRu (jm_up μ p i v) e ρ := fun j j0 j1 => by rw [jm_up_ne (Ne.symm hp)]; exact h j j0 j1
theorem mPa_up {μ : jm_M} {i v : Int} : mPa i μ (jm_up μ 161 i v) := ⟨fun p hp _ => jm_up_ne hp, fun j hj => jm_up_i (by omega)⟩
section MG
variable {E : jm_E} {d : Nat} {μ : jm_M} {Q : Option jm_V → jm_M → Prop} {ρ : sR} {b : sB} {w st sil : Int}
theorem c_M_isSo (hW : sWR ρ) (hr : mRu μ 0 ρ) (hb : mBd μ 0 b) (hG : sGB ρ b) (w0 : 0 ≤ w) (ht : w < b.2.1 → sSt ρ b w = st → Q (some (jm_I 1)) μ) (hf : ¬ (w < b.2.1 ∧ sSt ρ b w = st) → Q (some (jm_I 0)) μ) : jc E m_X11_isSo (d + 3) [jm_R 133, jm_I w, jm_I st] μ Q := by
  have e := hb.1
  refine e_X11_isSo (d := d + 2) (fun _ => ⟨fun z => hf (fun q => by have := q.1; omega), fun z => ?_⟩)
  have hl : w < b.2.1 := by omega
  exact c_M_stateOf (by decide) hW hr hb hG w0 hl (jq_I ⟨fun z => hf (fun q => z q.2), fun z => ht hl (Decidable.not_not.mp z)⟩)
theorem c_M_leads (hW : sWR ρ) (w0 : 0 ≤ w) : ∀ (r : Nat) (b : sB) (μ : jm_M) (i n : Int) (Q : Option jm_V → jm_M → Prop), n - i = r → 0 ≤ i → n ≤ 8 → mRu μ 0 ρ → mBd μ 0 b → sGB ρ b → μ 135 0 = ρ 0 → μ 135 1 = ρ 1 →
    (∀ ν, mBd ν 0 b → mPa i μ ν → (∀ l, sLd ρ w st sil r b = some l → l.length = r → sPt (ν 161) i l → Q (some (jm_I 1)) ν) ∧ (sLd ρ w st sil r b = none → Q (some (jm_I 0)) ν)) →
    jc E m_X11_leads (d + r + 4) [jm_R 133, jm_I w, jm_I st, jm_I n, jm_I i, jm_I sil] μ Q
  | 0, b, μ, i, n, Q, h1, h2, h3, hr, hb, hG, p0, p1, h => by
    have g := h μ hb mPa.rfl
    refine e_X11_leads (d := d + 3) (fun _ => ⟨fun z => absurd z (by omega), fun _ => c_M_isSo hW hr hb hG w0 (fun a c => jq_Z ?_) (fun a => jq_Z ?_)⟩)
    · exact g.1 [] (if_pos ⟨a, c⟩) rfl trivial
    · exact g.2 (if_neg a)
  | r + 1, b, μ, i, n, Q, h1, h2, h3, hr, hb, hG, p0, p1, h => by
    have e150 := hb.1
    have hn4 := hG.2.1
    refine e_X11_leads (d := d + r + 4) (fun _ => ⟨fun _ => ⟨fun z => ?_, fun z => ?_⟩, fun z => absurd (show i ≠ n by omega) z⟩)
    · have hn : b.2.1 ≠ 400 := by omega
      have hP := hW.1
      have hP8 := hW.2.1
      have hK := hW.2.2.1
      have hK10 := hW.2.2.2.1
      have hR : sLd ρ w st sil (r + 1) b = sF1 (fun a => if a = sil then none else sF1 (fun k => if sWr ρ b a k = 0 then (sLd ρ w st sil r (sPush ρ b a k)).map (fun l => (16 * a + k) :: l) else none) (ρ 1).toNat 0) (ρ 0).toNat 0 := by rw [sLd, if_neg hn]
      generalize sLd ρ w st sil (r + 1) b = R at hR h
      generalize hFK : (fun a k : Int => if sWr ρ b a k = 0 then (sLd ρ w st sil r (sPush ρ b a k)).map (fun l => (16 * a + k) :: l) else none) = FK at hR
      have hFK' : ∀ a k, FK a k = if sWr ρ b a k = 0 then (sLd ρ w st sil r (sPush ρ b a k)).map (fun l => (16 * a + k) :: l) else none := fun a k => by rw [← hFK]
      have hR' : sF1 (fun a => if a = sil then none else sF1 (FK a) (ρ 1).toNat 0) (ρ 0).toNat 0 = R := by rw [hR, ← hFK]
      clear hR hFK
      generalize hFA : (fun a : Int => if a = sil then none else sF1 (FK a) (ρ 1).toNat 0) = FA at hR'
      have hFA' : ∀ a, FA a = if a = sil then none else sF1 (FK a) (ρ 1).toNat 0 := fun a => by rw [← hFA]
      clear hFA
      have key : ∀ (m : Nat) (a : Int) (ξ : jm_M), ρ 0 - a = m → 0 ≤ a → mBd ξ 0 b → mPa i μ ξ → sF1 FA m a = R → jg E m_X11_leads (d + r + 4) 30 [some (jm_R 133), some (jm_I w), some (jm_I st), some (jm_I n), some (jm_I i), some (jm_I sil), some (jm_I a), none, none] [] ξ Q := by
        intro m
        induction m with
        | zero =>
          intro a ξ g1 g2 g3 g4 g5
          have q0 : ξ 135 0 = ρ 0 := by rw [g4.1 135 (by decide) (by decide)]; exact p0
          exact r_X11_leads_30 (d := d + r + 4) ⟨fun _ => (h ξ g3 g4).2 g5.symm, fun z => absurd (show ξ 135 0 ≤ a by omega) z⟩
        | succ m ih =>
          intro a ξ g1 g2 g3 g4 g5
          have q0 : ξ 135 0 = ρ 0 := by rw [g4.1 135 (by decide) (by decide)]; exact p0
          refine r_X11_leads_30 (d := d + r + 4) ⟨fun z => absurd z (by omega), fun _ => ?_⟩
          have inner : ∀ (m' : Nat) (k : Int) (ξ : jm_M), ρ 1 - k = m' → 0 ≤ k → mBd ξ 0 b → mPa i μ ξ → (if a = sil then none else sF1 (FK a) m' k).or (sF1 FA m (a + 1)) = R → jg E m_X11_leads (d + r + 4) 44 [some (jm_R 133), some (jm_I w), some (jm_I st), some (jm_I n), some (jm_I i), some (jm_I sil), some (jm_I a), some (jm_I k), none] [] ξ Q := by
            intro m'
            induction m' with
            | zero =>
              intro k ξ g1' g2' g3' g4' g5'
              have q1 : ξ 135 1 = ρ 1 := by rw [g4'.1 135 (by decide) (by decide)]; exact p1
              refine r_X11_leads_44 (d := d + r + 4) ⟨fun _ => ?_, fun z => absurd (show ξ 135 1 ≤ k by omega) z⟩
              rw [jm_wr_id (a := a + 1) (by omega) (by omega)]
              refine ih (a + 1) ξ (by omega) (by omega) g3' g4' ?_
              rw [← g5']
              split <;> rfl
            | succ m' ih' =>
              intro k ξ g1' g2' g3' g4' g5'
              have q1 : ξ 135 1 = ρ 1 := by rw [g4'.1 135 (by decide) (by decide)]; exact p1
              have hr' : mRu ξ 0 ρ := mPa_ru g4' hr
              refine r_X11_leads_44 (d := d + r + 4) ⟨fun z => absurd z (by omega), fun _ => ⟨fun z => ?_, fun z => ?_⟩⟩
              · rw [jm_wr_id (a := a + 1) (by omega) (by omega)]
                refine ih (a + 1) ξ (by omega) (by omega) g3' g4' ?_
                rw [if_pos z] at g5'
                rw [← g5']
                rfl
              · rw [if_neg z, sF1, hFK'] at g5'
                refine c_M_wrongOf (by decide) hW hr' g3' hG g2 (by omega) g2' (by omega) (jq_I ⟨fun z2 => ⟨⟨by omega, by omega⟩, ?_⟩, fun z2 => ?_⟩)
                · intro m7 hm7
                  rw [jm_wr_id (a := 16 * a) (by omega) (by omega), jm_wr_id (a := 16 * a + k) (by omega) (by omega)] at hm7
                  subst hm7
                  rw [if_pos z2] at g5'
                  have hGp := sGB_push hW hG (by omega) g2 (by omega) g2' (by omega) z2
                  refine c_M_push (by decide) hW (mRu_up (by decide) hr') (mBd_up (by decide) g3') hG.1 (by omega) (fun s s0 s1 => ?_) ⟨hG.2.2.1, by have := hG.2.2.2.1; omega⟩ g2 (by omega) g2' (by omega) (fun ξ2 bd2 f2 _ => ?_)
                  · have := (hG.2.2.2.2 s s0 s1).2.2.2.2.1
                    omega
                  · have pa2 : mPa i μ ξ2 := (g4'.trans mPa_up (Int.le_refl _)).trans (mPa_of f2) (Int.le_refl _)
                    have at2 : ξ2 161 i = 16 * a + k := by rw [f2.1 161 (by decide)]; exact jm_up_at
                    rw [jm_wr_id (a := i + 1) (by omega) (by omega)]
                    refine c_M_leads hW w0 r (sPush ρ b a k) ξ2 (i + 1) n _ (by omega) (by omega) h3 (mPa_ru pa2 hr) bd2 hGp (by rw [pa2.1 135 (by decide) (by decide)]; exact p0) (by rw [pa2.1 135 (by decide) (by decide)]; exact p1) (fun ξ3 bd3 pa3 => ⟨fun l hl ll hp => jq_Z ?_, fun hl => jq_Z ?_⟩)
                    · have pa3' := pa2.trans pa3 (by omega)
                      refine c_M_pop (by decide) hW (mPa_ru pa3' hr) bd3 hG (by omega) g2 (by omega) g2' (by omega) z2 (fun ξ4 bd4 f4 _ => jb_f (by decide) ?_)
                      rw [hl] at g5'
                      have pa4 := pa3'.trans (mPa_of (i := i) f4) (Int.le_refl _)
                      refine (h ξ4 bd4 pa4).1 ((16 * a + k) :: l) g5'.symm (by simp only [List.length_cons]; omega) ⟨?_, ?_⟩
                      · rw [f4.1 161 (by decide), pa3.2 i (by omega)]
                        exact at2
                      · rw [f4.1 161 (by decide)]
                        exact hp
                    · have pa3' := pa2.trans pa3 (by omega)
                      refine c_M_pop (by decide) hW (mPa_ru pa3' hr) bd3 hG (by omega) g2 (by omega) g2' (by omega) z2 (fun ξ4 bd4 f4 _ => jb_t rfl ?_)
                      rw [hl] at g5'
                      have pa4 := pa3'.trans (mPa_of (i := i) f4) (Int.le_refl _)
                      rw [jm_wr_id (a := k + 1) (by omega) (by omega)]
                      exact ih' (k + 1) ξ4 (by omega) (by omega) bd4 pa4 (by rw [if_neg z]; exact g5')
                · rw [if_neg z2] at g5'
                  rw [jm_wr_id (a := k + 1) (by omega) (by omega)]
                  exact ih' (k + 1) ξ (by omega) (by omega) g3' g4' (by rw [if_neg z]; exact g5')
          refine inner (ρ 1).toNat 0 ξ (by omega) (by omega) g3 g4 ?_
          rw [sF1, hFA'] at g5
          exact g5
      exact key (ρ 0).toNat 0 μ (by omega) (by omega) hb mPa.rfl hR'
    · have hn : b.2.1 = 400 := by omega
      exact (h μ hb mPa.rfl).2 (by rw [sLd, if_pos hn])
end MG
