/-! games -/
def sG1 {α : Type} (g : Int → α → α) : Nat → Int → α → α
  | 0, _, c => c
  | m + 1, k, c => sG1 g m (k + 1) (g k c)
def sInc (v : Int) : Int := if 99 ≤ v then v else v + 1
def sBest (mine best v : Int) : Int := if best = -1 then v else if mine = 0 then (if v ≤ best then best else v) else (if best ≤ v then best else v)
def sPl (ρ : sR) (w st side : Int) : Nat → Int → sB → Int
  | 0, _, b => if w < b.2.1 ∧ sSt ρ b w = st then 0 else 99
  | m + 1, mine, b => if w < b.2.1 ∧ sSt ρ b w = st then 0 else if b.2.1 = 400 then 99 else
      let v := sG1 (fun a c => if (if sbt side a = true then 1 else 0) = mine then sG1 (fun k c => if sWr ρ b a k = 0 then sBest mine c (sInc (sPl ρ w st side m (1 - mine) (sPush ρ b a k))) else c) (ρ 1).toNat 0 c else c) (ρ 0).toNat 0 (-1)
      if v = -1 then 99 else v
def sGame (ρ : sR) (b : sB) (side w st k : Int) : Int :=
  if (0 ≤ st ∧ st ≤ 8) ∧ (1 ≤ k ∧ k ≤ 8) ∧ (0 ≤ w ∧ w < b.2.1) ∧ 0 < side ∧ side < ((2 ^ (ρ 0).toNat : Nat) : Int) - 1 then
    (if sTM (ρ 0 * ρ 1) k.toNat 1 = true then -2 else if sPl ρ w st side k.toNat 1 b = 99 then -1 else sPl ρ w st side k.toNat 1 b)
  else -3
theorem sBest_in {mine best v : Int} (h1 : -1 ≤ best ∧ best ≤ 99) (h2 : 0 ≤ v ∧ v ≤ 99) : 0 ≤ sBest mine best v ∧ sBest mine best v ≤ 99 := by
  unfold sBest
  split
  · exact h2
  · split <;> split <;> omega
section MI
variable {E : jm_E} {d : Nat} {μ : jm_M} {Q : Option jm_V → jm_M → Prop} {ρ : sR} {b : sB} {w st side : Int}
theorem r_M_play138 {v1 v2 v3 v4 v5 v6 v7 v8 v9 : Int} (h : jg E m_X11_play d 65 [some (jm_R 133), some (jm_I v1), some (jm_I v2), some (jm_I v3), some (jm_I v4), some (jm_I v5), some (jm_I (sBest v2 v6 v9)), some (jm_I v7), some (jm_I (jm_wr (v8 + 1))), none] [] μ Q) :
    jg E m_X11_play d 138 [some (jm_R 133), some (jm_I v1), some (jm_I v2), some (jm_I v3), some (jm_I v4), some (jm_I v5), some (jm_I v6), some (jm_I v7), some (jm_I v8), some (jm_I v9)] [] μ Q := by
  unfold sBest at h
  refine r_X11_play_138 (d := d) ⟨fun z => ?_, fun z => ⟨fun z2 => ⟨fun z3 => ?_, fun z3 => ?_⟩, fun z2 => ⟨fun z3 => ?_, fun z3 => ?_⟩⟩⟩
  · rw [if_pos z] at h; exact h
  · rw [if_neg z, if_pos z2, if_pos z3] at h; exact h
  · rw [if_neg z, if_pos z2, if_neg z3] at h; exact h
  · rw [if_neg z, if_neg z2, if_pos z3] at h; exact h
  · rw [if_neg z, if_neg z2, if_neg z3] at h; exact h
theorem c_M_play (hW : sWR ρ) (w0 : 0 ≤ w) (s0 : 0 ≤ side) (s1 : side < 256) : ∀ (r : Nat) (b : sB) (μ : jm_M) (mine : Int) (Q : Option jm_V → jm_M → Prop), r ≤ 8 → mine = 0 ∨ mine = 1 → mRu μ 0 ρ → mBd μ 0 b → sGB ρ b → μ 135 0 = ρ 0 → μ 135 1 = ρ 1 →
    (∀ ν, mBd ν 0 b → mFr 0 μ ν → 0 ≤ sPl ρ w st side r mine b → sPl ρ w st side r mine b ≤ 99 → Q (some (jm_I (sPl ρ w st side r mine b))) ν) →
    jc E m_X11_play (d + r + 4) [jm_R 133, jm_I side, jm_I mine, jm_I w, jm_I st, jm_I r] μ Q
  | 0, b, μ, mine, Q, hr8, hm, hr, hb, hG, p0, p1, h => by
    have g := h μ hb mFr.rfl
    rw [sPl] at g
    refine e_X11_play (d := d + 3) (fun _ => c_M_isSo hW hr hb hG w0 (fun a c => jq_Z (jb_f (by decide) ?_)) (fun a => jq_Z (jb_t rfl (jb_t rfl ?_))))
    · rw [if_pos ⟨a, c⟩] at g
      exact g (by decide) (by decide)
    · rw [if_neg a] at g
      exact g (by decide) (by decide)
  | r + 1, b, μ, mine, Q, hr8, hm, hr, hb, hG, p0, p1, h => by
    have e150 := hb.1
    have hn4 := hG.2.1
    refine e_X11_play (d := d + r + 4) (fun _ => c_M_isSo hW hr hb hG w0 (fun a c => jq_Z (jb_f (by decide) ?_)) (fun hso => jq_Z (jb_t rfl (jb_f (by omega) ⟨fun z => ?_, fun z => ?_⟩))))
    · have g := h μ hb mFr.rfl
      rw [sPl, if_pos ⟨a, c⟩] at g
      exact g (by decide) (by decide)
    · have hn : b.2.1 ≠ 400 := by omega
      have hP := hW.1
      have hP8 := hW.2.1
      have hK := hW.2.2.1
      have hK10 := hW.2.2.2.1
      rw [sPl, if_neg hso, if_neg hn] at h
      generalize hFK : (fun a k c : Int => if sWr ρ b a k = 0 then sBest mine c (sInc (sPl ρ w st side r (1 - mine) (sPush ρ b a k))) else c) = FK at h
      have hFK' : ∀ a k c, FK a k c = if sWr ρ b a k = 0 then sBest mine c (sInc (sPl ρ w st side r (1 - mine) (sPush ρ b a k))) else c := fun a k c => by rw [← hFK]
      have hh : ∀ ν, mBd ν 0 b → mFr 0 μ ν → ∀ V, V = sG1 (fun a c => if (if sbt side a = true then 1 else 0) = mine then sG1 (FK a) (ρ 1).toNat 0 c else c) (ρ 0).toNat 0 (-1) → 0 ≤ (if V = -1 then 99 else V) → (if V = -1 then 99 else V) ≤ 99 → Q (some (jm_I (if V = -1 then 99 else V))) ν := by
        intro ν k1 k2 V hV
        have g := h ν k1 k2
        rw [← hFK] at hV
        rw [hV]
        exact g
      clear h hFK
      generalize hFA : (fun a c : Int => if (if sbt side a = true then (1 : Int) else 0) = mine then sG1 (FK a) (ρ 1).toNat 0 c else c) = FA at hh
      have hFA' : ∀ a c, FA a c = if (if sbt side a = true then (1 : Int) else 0) = mine then sG1 (FK a) (ρ 1).toNat 0 c else c := fun a c => by rw [← hFA]
      clear hFA
      generalize hV : sG1 FA (ρ 0).toNat 0 (-1) = V at hh
      have key : ∀ (m : Nat) (a c : Int) (ξ : jm_M), ρ 0 - a = m → 0 ≤ a → -1 ≤ c ∧ c ≤ 99 → mBd ξ 0 b → mFr 0 μ ξ → sG1 FA m a c = V → jg E m_X11_play (d + r + 4) 38 [some (jm_R 133), some (jm_I side), some (jm_I mine), some (jm_I w), some (jm_I st), some (jm_I ((r + 1 : Nat) : Int)), some (jm_I c), some (jm_I a), none, none] [] ξ Q := by
        intro m
        induction m with
        | zero =>
          intro a c ξ g1 g2 gc g3 g4 g5
          have q0 : ξ 135 0 = ρ 0 := by rw [g4.1 135 (by decide)]; exact p0
          have hcV : c = V := g5
          refine r_X11_play_38 (d := d + r + 4) ⟨fun _ => ⟨fun z => ?_, fun z => ?_⟩, fun z => absurd (show ξ 135 0 ≤ a by omega) z⟩
          · have g := hh ξ g3 g4 V rfl
            rw [← hcV, if_neg z] at g
            exact g (by omega) (by omega)
          · have g := hh ξ g3 g4 V rfl
            rw [← hcV, if_pos (Decidable.not_not.mp z)] at g
            exact g (by decide) (by decide)
        | succ m ih =>
          intro a c ξ g1 g2 gc g3 g4 g5
          have q0 : ξ 135 0 = ρ 0 := by rw [g4.1 135 (by decide)]; exact p0
          have g5' : sG1 FA m (a + 1) (FA a c) = V := g5
          rw [hFA'] at g5'
          have hskip : (if sbt side a = true then (1 : Int) else 0) ≠ mine → jg E m_X11_play (d + r + 4) 38 [some (jm_R 133), some (jm_I side), some (jm_I mine), some (jm_I w), some (jm_I st), some (jm_I ((r + 1 : Nat) : Int)), some (jm_I c), some (jm_I (jm_wr (a + 1))), none, none] [] ξ Q := by
            intro z
            rw [if_neg z] at g5'
            rw [jm_wr_id (a := a + 1) (by omega) (by omega)]
            exact ih (a + 1) c ξ (by omega) (by omega) gc g3 g4 g5'
          have hgo : (if sbt side a = true then (1 : Int) else 0) = mine → jg E m_X11_play (d + r + 4) 65 [some (jm_R 133), some (jm_I side), some (jm_I mine), some (jm_I w), some (jm_I st), some (jm_I ((r + 1 : Nat) : Int)), some (jm_I c), some (jm_I a), some (jm_I 0), none] [] ξ Q := by
            intro z
            rw [if_pos z] at g5'
            have inner : ∀ (m' : Nat) (k c : Int) (ξ : jm_M), ρ 1 - k = m' → 0 ≤ k → -1 ≤ c ∧ c ≤ 99 → mBd ξ 0 b → mFr 0 μ ξ → sG1 FA m (a + 1) (sG1 (FK a) m' k c) = V → jg E m_X11_play (d + r + 4) 65 [some (jm_R 133), some (jm_I side), some (jm_I mine), some (jm_I w), some (jm_I st), some (jm_I ((r + 1 : Nat) : Int)), some (jm_I c), some (jm_I a), some (jm_I k), none] [] ξ Q := by
              intro m'
              induction m' with
              | zero =>
                intro k c ξ g1' g2' gc' g3' g4' g5'
                have q1 : ξ 135 1 = ρ 1 := by rw [g4'.1 135 (by decide)]; exact p1
                refine r_X11_play_65 (d := d + r + 4) ⟨fun _ => ?_, fun z => absurd (show ξ 135 1 ≤ k by omega) z⟩
                rw [jm_wr_id (a := a + 1) (by omega) (by omega)]
                exact ih (a + 1) c ξ (by omega) (by omega) gc' g3' g4' g5'
              | succ m' ih' =>
                intro k c ξ g1' g2' gc' g3' g4' g5'
                have q1 : ξ 135 1 = ρ 1 := by rw [g4'.1 135 (by decide)]; exact p1
                have hr' : mRu ξ 0 ρ := mRu_of g4' hr
                have g6 : sG1 FA m (a + 1) (sG1 (FK a) m' (k + 1) (FK a k c)) = V := g5'
                rw [hFK'] at g6
                refine r_X11_play_65 (d := d + r + 4) ⟨fun z => absurd z (by omega), fun _ => c_M_wrongOf (by decide) hW hr' g3' hG g2 (by omega) g2' (by omega) (jq_I ⟨fun z2 => ?_, fun z2 => ?_⟩)⟩
                · rw [if_pos z2] at g6
                  have hGp := sGB_push hW hG (by omega) g2 (by omega) g2' (by omega) z2
                  refine c_M_push (by decide) hW hr' g3' hG.1 (by omega) (fun s s0 s1 => ?_) ⟨hG.2.2.1, by have := hG.2.2.2.1; omega⟩ g2 (by omega) g2' (by omega) (fun ξ2 bd2 f2 _ => ?_)
                  · have := (hG.2.2.2.2 s s0 s1).2.2.2.2.1
                    omega
                  · have er : jm_wr (((r + 1 : Nat) : Int) - 1) = (r : Int) := by rw [jm_wr_id (by omega) (by omega)]; omega
                    have fr2 := g4'.trans f2
                    have next : ∀ (mine' : Int), mine' = 1 - mine → jc E m_X11_play (d + r + 4) [jm_R 133, jm_I side, jm_I mine', jm_I w, jm_I st, jm_I (jm_wr (((r + 1 : Nat) : Int) - 1))] ξ2 (fun o m7 => ∀ r8 : Int, o = some (jm_I r8) → jc E m_X11_pop (d + r + 4) [jm_R 133, jm_I 0] m7 (fun o m9 => o = none →
                        ((99 ≤ r8 → jg E m_X11_play (d + r + 4) 138 [some (jm_R 133), some (jm_I side), some (jm_I mine), some (jm_I w), some (jm_I st), some (jm_I ((r + 1 : Nat) : Int)), some (jm_I c), some (jm_I a), some (jm_I k), some (jm_I r8)] [] m9 Q) ∧
                         (¬ (99 ≤ r8) → jg E m_X11_play (d + r + 4) 138 [some (jm_R 133), some (jm_I side), some (jm_I mine), some (jm_I w), some (jm_I st), some (jm_I ((r + 1 : Nat) : Int)), some (jm_I c), some (jm_I a), some (jm_I k), some (jm_I (jm_wr (r8 + 1)))] [] m9 Q)))) := by
                      intro mine' hm'
                      rw [er]
                      refine c_M_play hW w0 s0 s1 r (sPush ρ b a k) ξ2 mine' _ (by omega) (by omega) (mRu_of fr2 hr) bd2 hGp (by rw [fr2.1 135 (by decide)]; exact p0) (by rw [fr2.1 135 (by decide)]; exact p1) (fun ξ3 bd3 fr3 v0 v1 => jq_I ?_)
                      rw [hm'] at v0 v1 ⊢
                      generalize hv : sPl ρ w st side r (1 - mine) (sPush ρ b a k) = v at v0 v1 g6 ⊢
                      have fr3' := fr2.trans fr3
                      refine c_M_pop (by decide) hW (mRu_of fr3' hr) bd3 hG (by omega) g2 (by omega) g2' (by omega) z2 (fun ξ4 bd4 f4 _ => ?_)
                      have fin : jg E m_X11_play (d + r + 4) 138 [some (jm_R 133), some (jm_I side), some (jm_I mine), some (jm_I w), some (jm_I st), some (jm_I ((r + 1 : Nat) : Int)), some (jm_I c), some (jm_I a), some (jm_I k), some (jm_I (sInc v))] [] ξ4 Q := by
                        have hi : 0 ≤ sInc v ∧ sInc v ≤ 99 := by unfold sInc; split <;> omega
                        refine r_M_play138 ?_
                        rw [jm_wr_id (a := k + 1) (by omega) (by omega)]
                        have hbi := sBest_in (mine := mine) gc' hi
                        exact ih' (k + 1) _ ξ4 (by omega) (by omega) ⟨by omega, by omega⟩ bd4 (fr3'.trans f4) g6
                      unfold sInc at fin
                      refine ⟨fun z => ?_, fun z => ?_⟩
                      · rw [if_pos z] at fin; exact fin
                      · rw [if_neg z] at fin
                        rw [jm_wr_id (a := v + 1) (by omega) (by omega)]
                        exact fin
                    exact ⟨fun z => next 0 (by omega), fun z => next 1 (by omega)⟩
                · rw [if_neg z2] at g6
                  rw [jm_wr_id (a := k + 1) (by omega) (by omega)]
                  exact ih' (k + 1) c ξ (by omega) (by omega) gc' g3' g4' g6
            exact inner (ρ 1).toNat 0 c ξ (by omega) (by decide) gc g3 g4 g5'
          refine r_X11_play_38 (d := d + r + 4) ⟨fun z => absurd z (by omega), fun _ => c_M_has s0 (by omega) g2 (by omega) (fun z => jq_Z ⟨fun z2 => hgo (by rw [if_pos z]; exact z2), fun z2 => hskip (by rw [if_pos z]; exact z2)⟩) (fun z => jq_Z ⟨fun z2 => hgo (by rw [if_neg (by rw [z]; decide)]; exact z2), fun z2 => hskip (by rw [if_neg (by rw [z]; decide)]; exact z2)⟩)⟩
      exact key (ρ 0).toNat 0 (-1) μ (by omega) (by omega) (by omega) hb mFr.rfl hV
    · have hn : b.2.1 = 400 := by omega
      have g := h μ hb mFr.rfl
      rw [sPl, if_neg hso, if_pos hn] at g
      exact g (by decide) (by decide)
theorem c_M_game {u : Int → Int} {n : Nat} {k x : Int} (h0 : mOK μ ρ u n) (h : ∀ ν, mQ μ ν → Q (some (jm_I (sGame ρ (sLay ρ u n) side x st k))) ν) : jc E m_X11_game (d + 14) [jm_R 133, jm_I side, jm_I x, jm_I st, jm_I k] μ Q := by
  have hW := h0.1
  have hP := hW.1
  have hP8 := hW.2.1
  have h0' := mOK_of (mQ_0 (v := 0)) h0
  have hl := sLay_n (ρ := ρ) (w := u) n
  have hp2 : 2 ^ (ρ 0).toNat ≤ 2 ^ 8 := Nat.pow_le_pow_right (by decide) (by omega)
  obtain ⟨pw, hpw⟩ : ∃ pw, pw = 2 ^ (ρ 0).toNat := ⟨_, rfl⟩
  have hS : sGame ρ (sLay ρ u n) side x st k = if (0 ≤ st ∧ st ≤ 8) ∧ (1 ≤ k ∧ k ≤ 8) ∧ (0 ≤ x ∧ x < (sLay ρ u n).2.1) ∧ 0 < side ∧ side < (pw : Int) - 1 then
    (if sTM (ρ 0 * ρ 1) k.toNat 1 = true then -2 else if sPl ρ x st side k.toNat 1 (sLay ρ u n) = 99 then -1 else sPl ρ x st side k.toNat 1 (sLay ρ u n))
    else -3 := by rw [hpw]; rfl
  rw [hS] at h
  rw [← hpw] at hp2
  have no : ¬ ((0 ≤ st ∧ st ≤ 8) ∧ (1 ≤ k ∧ k ≤ 8) ∧ (0 ≤ x ∧ x < (sLay ρ u n).2.1) ∧ 0 < side ∧ side < (pw : Int) - 1) → Q (some (jm_I (-3))) (jm_up μ 133 0 0) := fun z => by
    have g := h _ (mQ_0 (v := 0))
    rw [if_neg z] at g
    exact g
  refine e_X11_game (d := d + 13) (fun _ x1 hx1 => ?_)
  rw [h0.p0, show ρ 0 = (((ρ 0).toNat : Nat) : Int) by omega, jm_shl_1 (by omega), ← hpw, jm_wr_id (by omega) (by omega)] at hx1
  refine c_M_isIn (fun a0 a1 => jq_Z (jb_f (by decide) (c_M_isIn (fun b0 b1 => jq_Z (jb_f (by decide) ⟨fun c => no (fun z => by omega), fun c0 => ⟨fun c => no (fun z => ?_), fun c1 => ⟨fun c => no (fun z => by omega), fun e0 => ⟨fun e1 => ?_, fun c => no (fun z => by omega)⟩⟩⟩⟩)) (fun c => jq_Z (jb_t rfl (no (fun z => c z.2.1))))))) (fun c => jq_Z (jb_t rfl (no (fun z => c z.1))))
  · have := h0'.n60
    omega
  · rw [h0'.n60] at c1
    have ok : (0 ≤ st ∧ st ≤ 8) ∧ (1 ≤ k ∧ k ≤ 8) ∧ (0 ≤ x ∧ x < (sLay ρ u n).2.1) ∧ 0 < side ∧ side < (pw : Int) - 1 := by omega
    rw [if_pos ok] at h
    rw [h0'.p0, h0'.p1]
    refine c_M_isTooMany hW.1 hW.2.1 hW.2.2.1 hW.2.2.2.1 (by omega) b1 (fun z => jq_Z (jb_f (by decide) ?_)) (fun z => jq_Z (jb_t rfl ?_))
    · rw [if_pos z] at h
      exact h _ mQ_0
    · rw [if_neg (by rw [z]; decide)] at h
      refine h0'.lay (fun ν hr hb hq h3 _ => ?_)
      obtain ⟨r, rfl⟩ : ∃ r : Nat, k = r := ⟨k.toNat, by omega⟩
      have hc := c_M_play (E := E) (d := d + 9 - r) (w := x) (st := st) (side := side) hW (by omega) (by omega) (by omega) r (sLay ρ u n) ν 1
      rw [show d + 9 - r + r + 4 = d + 13 by omega] at hc
      have hν := mOK_of hq h0'
      refine hc _ (by omega) (Or.inr rfl) hr hb h0.good hν.p0 hν.p1 (fun ξ bd fr v0 v1 => jq_I ⟨fun z2 => ?_, fun z2 => ?_⟩)
      · have g := h ξ ((mQ_0.trans hq).trans (mQ_of fr))
        rw [show (r : Int).toNat = r from rfl, if_neg z2] at g
        exact g
      · have g := h ξ ((mQ_0.trans hq).trans (mQ_of fr))
        rw [show (r : Int).toNat = r from rfl, if_pos (Decidable.not_not.mp z2)] at g
        exact g
end MI
