def sTM (c : Int) : Nat → Int → Bool
  | 0, _ => false
  | m + 1, v => if 300000 < v * c then true else sTM c m (v * c)
/-- the shortest road of at most n words, from the board on -/
def sRds (ρ : sR) (b : sB) (w st sil : Int) : Nat → Int → Option (List Int) := sF1 (fun k => sLd ρ w st sil k.toNat b)
def sRoad (ρ : sR) (b : sB) (w st n sil : Int) : Int × List Int :=
  if (0 ≤ st ∧ st ≤ 8) ∧ (1 ≤ n ∧ n ≤ 8) ∧ (0 ≤ w ∧ w ≤ 399) then
    (if sTM (ρ 0 * ρ 1) n.toNat 1 = true then (-2, [])
    else match sRds ρ b w st sil (n.toNat + 1) 0 with
      | some l => (l.length, l)
      | none => (-1, []))
  else (-3, [])
/-- boards, what was thrown and the path alone have changed -/
def mQP (μ ν : jm_M) : Prop := (∀ p, p ≠ 133 → p ≠ 161 → p < 143 ∨ 151 < p → ν p = μ p) ∧ ∀ i, i ≠ 0 → ν 133 i = μ 133 i
theorem mQP.trans {a b c : jm_M} (h1 : mQP a b) (h2 : mQP b c) : mQP a c := ⟨fun p hp h6 hq => (h2.1 p hp h6 hq).trans (h1.1 p hp h6 hq), fun i hi => (h2.2 i hi).trans (h1.2 i hi)⟩
theorem mQP_of {μ ν : jm_M} (h : mQ μ ν) : mQP μ ν := ⟨fun p hp _ hq => h.1 p hp hq, h.2⟩
theorem mQP_pa {μ ν : jm_M} {i : Int} (h : mPa i μ ν) : mQP μ ν := ⟨fun p _ h6 hq => h.1 p h6 (by omega), fun i _ => by rw [h.1 133 (by decide) (by decide)]⟩
theorem mOK_qp {μ ν : jm_M} {ρ : sR} {w : Int → Int} {n : Nat} (hq : mQP μ ν) (h : mOK μ ρ w n) : mOK ν ρ w n := by
  have e := hq.1 135 (by decide) (by decide) (by decide)
  exact ⟨h.1, ⟨fun i i0 i1 => by rw [e]; exact h.2.1.1 i i0 i1, by rw [e]; exact h.2.1.2.1, fun i i0 i1 => by rw [e]; exact h.2.1.2.2 i i0 i1⟩, h.2.2.1, h.2.2.2⟩
theorem sF1_some {α : Type} {f : Int → Option α} {P : α → Prop} (hf : ∀ k x, f k = some x → P x) : ∀ (m : Nat) (k : Int) (x : α), sF1 f m k = some x → P x
  | 0, _, _, h => by cases h
  | m + 1, k, x, h => by
    have h' : (f k).or (sF1 f m (k + 1)) = some x := h
    cases hc : f k with
    | none => rw [hc] at h'; exact sF1_some hf m (k + 1) x h'
    | some y => rw [hc] at h'; cases h'; exact hf k _ hc
theorem sLd_len {ρ : sR} {w st sil : Int} : ∀ (m : Nat) (b : sB) (l : List Int), sLd ρ w st sil m b = some l → l.length = m
  | 0, b, l, h => by
    rw [sLd] at h
    split at h
    · cases h; rfl
    · cases h
  | m + 1, b, l, h => by
    rw [sLd] at h
    split at h
    · cases h
    · refine sF1_some (P := fun l => l.length = m + 1) (fun a l h => ?_) _ _ l h
      split at h
      · cases h
      · refine sF1_some (P := fun l => l.length = m + 1) (fun k l h => ?_) _ _ l h
        split at h
        · cases hc : sLd ρ w st sil m (sPush ρ b a k) with
          | none => rw [hc] at h; cases h
          | some l' =>
            rw [hc] at h
            cases h
            show l'.length + 1 = m + 1
            rw [sLd_len m _ l' hc]
        · cases h
section MH
variable {E : jm_E} {d : Nat} {μ : jm_M} {Q : Option jm_V → jm_M → Prop} {ρ : sR} {w : Int → Int} {n : Nat}
theorem c_M_isTooMany {x y k : Int} (x0 : 0 ≤ x) (x1 : x ≤ 8) (y0 : 0 ≤ y) (y1 : y ≤ 10) (k0 : 0 ≤ k) (k1 : k ≤ 8) (ht : sTM (x * y) k.toNat 1 = true → Q (some (jm_I 1)) μ) (hf : sTM (x * y) k.toNat 1 = false → Q (some (jm_I 0)) μ) : jc E m_X11_isTooMany (d + 1) [jm_I x, jm_I y, jm_I k] μ Q := by
  have c0 : 0 ≤ x * y := Int.mul_nonneg x0 y0
  have c1 : x * y ≤ 80 := Int.mul_le_mul x1 y1 y0 (by decide)
  refine e_X11_isTooMany (d := d) (fun _ => ?_)
  have ew : jm_wl (x * y) = x * y := jm_wl_id (by omega) (by omega)
  have key : ∀ (m : Nat) (v i : Int), k - i = m → 0 ≤ i → 0 ≤ v → v ≤ 300000 → sTM (x * y) m v = sTM (x * y) k.toNat 1 → jg E m_X11_isTooMany d 5 [some (jm_I x), some (jm_I y), some (jm_I k), some (jm_L v), none, some (jm_I i)] [] μ Q := by
    intro m
    induction m with
    | zero => exact fun v i g1 g2 g3 g4 g5 => r_X11_isTooMany_5 (d := d) ⟨fun _ => hf g5.symm, fun z => absurd (show k ≤ i by omega) z⟩
    | succ m ih =>
      intro v i g1 g2 g3 g4 g5
      have b0 : 0 ≤ v * (x * y) := Int.mul_nonneg g3 c0
      have b1 : v * (x * y) ≤ 300000 * 80 := Int.mul_le_mul g4 c1 c0 (by decide)
      refine r_X11_isTooMany_5 (d := d) ⟨fun z => absurd z (by omega), fun _ x2 hx2 => ?_⟩
      rw [ew, jm_wl_id (by omega) (by omega)] at hx2
      rw [sTM] at g5
      refine ⟨fun z => ?_, fun z => ?_⟩
      · have hle : ¬ 300000 < x2 := fun q => by
          unfold jm_cmp at z
          rw [if_pos q] at z
          omega
        rw [← hx2, if_neg hle] at g5
        rw [jm_wr_id (a := i + 1) (by omega) (by omega)]
        exact ih x2 (i + 1) (by omega) (by omega) (by omega) (by omega) g5
      · have hgt : 300000 < x2 := by
          refine Decidable.byContradiction (fun q => z ?_)
          unfold jm_cmp
          rw [if_neg q]
          split <;> decide
        rw [← hx2, if_pos hgt] at g5
        exact ht g5.symm
  exact key k.toNat 1 0 (by omega) (by decide) (by decide) (by decide) rfl
theorem sRds_len {ρ : sR} {b : sB} {x st sil : Int} : ∀ (m : Nat) (i : Int) (l : List Int), 0 ≤ i → sRds ρ b x st sil m i = some l → (l.length : Int) < i + m
  | 0, i, l, _, h => by cases h
  | m + 1, i, l, i0, h => by
    have h' : (sLd ρ x st sil i.toNat b).or (sRds ρ b x st sil m (i + 1)) = some l := h
    cases hc : sLd ρ x st sil i.toNat b with
    | none =>
      rw [hc] at h'
      have := sRds_len m (i + 1) l (by omega) h'
      omega
    | some l' =>
      rw [hc] at h'
      cases h'
      have := sLd_len _ _ _ hc
      omega
theorem sRoad_le {ρ : sR} {b : sB} {x st k sil : Int} : (sRoad ρ b x st k sil).1 ≤ 8 := by
  unfold sRoad
  split
  · rename_i hk
    split
    · exact (by decide : (-2 : Int) ≤ 8)
    · split
      · rename_i l hl
        have := sRds_len _ 0 l (by decide) hl
        show (l.length : Int) ≤ 8
        omega
      · exact (by decide : (-1 : Int) ≤ 8)
  · exact (by decide : (-3 : Int) ≤ 8)
theorem c_M_roadOf {x st k sil : Int} (h0 : mOK μ ρ w n) (h : ∀ ν, mQP μ ν → sPt (ν 161) 0 (sRoad ρ (sLay ρ w n) x st k sil).2 → Q (some (jm_I (sRoad ρ (sLay ρ w n) x st k sil).1)) ν) : jc E m_X11_roadOf (d + 14) [jm_R 133, jm_I x, jm_I st, jm_I k, jm_I sil] μ Q := by
  have hW := h0.1
  have no : ¬ ((0 ≤ st ∧ st ≤ 8) ∧ (1 ≤ k ∧ k ≤ 8) ∧ (0 ≤ x ∧ x ≤ 399)) → Q (some (jm_I (-3))) μ := fun z => by
    have g := h μ (mQP_of mQ.rfl)
    rw [sRoad, if_neg z] at g
    exact g trivial
  refine e_X11_roadOf (d := d + 13) (fun _ => c_M_isIn (fun a0 a1 => jq_Z (jb_f (by decide) (c_M_isIn (fun b0 b1 => jq_Z (jb_f (by decide) (c_M_isIn (fun c0 c1 => jq_Z (jb_t (by decide) ?_)) (fun c => jq_Z (jb_f (by decide) (no (fun z => c z.2.2))))))) (fun c => jq_Z (jb_t rfl (no (fun z => c z.2.1))))))) (fun c => jq_Z (jb_t rfl (no (fun z => c z.1)))))
  rw [h0.p0, h0.p1]
  have ok : (0 ≤ st ∧ st ≤ 8) ∧ (1 ≤ k ∧ k ≤ 8) ∧ (0 ≤ x ∧ x ≤ 399) := ⟨⟨a0, a1⟩, ⟨b0, b1⟩, c0, c1⟩
  refine c_M_isTooMany hW.1 hW.2.1 hW.2.2.1 hW.2.2.2.1 (by omega) b1 (fun z => jq_Z (jb_f (by decide) ?_)) (fun z => jq_Z (jb_t rfl ?_))
  · have g := h μ (mQP_of mQ.rfl)
    rw [sRoad, if_pos ok, if_pos z] at g
    exact g trivial
  · rw [sRoad, if_pos ok, if_neg (by rw [z]; decide)] at h
    refine h0.lay (fun ν hr hb hq h3 _ => ?_)
    have hG := h0.good
    have key : ∀ (m : Nat) (i : Int) (ξ : jm_M), k + 1 - i = m → 0 ≤ i → mBd ξ 0 (sLay ρ w n) → mRu ξ 0 ρ → mQP μ ξ → sRds ρ (sLay ρ w n) x st sil m i = sRds ρ (sLay ρ w n) x st sil (k.toNat + 1) 0 → jg E m_X11_roadOf (d + 13) 63 [some (jm_R 133), some (jm_I x), some (jm_I st), some (jm_I k), some (jm_I sil), some (jm_I i)] [] ξ Q := by
      intro m
      induction m with
      | zero =>
        intro i ξ g1 g2 g3 g4 g5 g6
        refine r_X11_roadOf_63 (d := d + 13) ⟨fun _ => ?_, fun z => absurd (show k < i by omega) z⟩
        have g := h ξ g5
        rw [← g6] at g
        exact g trivial
      | succ m ih =>
        intro i ξ g1 g2 g3 g4 g5 g6
        have hm := mOK_qp g5 h0
        refine r_X11_roadOf_63 (d := d + 13) ⟨fun z => absurd z (by omega), fun _ => ?_⟩
        obtain ⟨r, rfl⟩ : ∃ r : Nat, i = r := ⟨i.toNat, by omega⟩
        have hc := c_M_leads (E := E) (d := d + 9 - r) (sil := sil) (st := st) hW c0 r (sLay ρ w n) ξ 0 r
        rw [show d + 9 - r + r + 4 = d + 13 by omega] at hc
        have g6' : (sLd ρ x st sil r (sLay ρ w n)).or (sRds ρ (sLay ρ w n) x st sil m ((r : Int) + 1)) = sRds ρ (sLay ρ w n) x st sil (k.toNat + 1) 0 := g6
        refine hc _ (by omega) (by decide) (by omega) g4 g3 hG hm.p0 hm.p1 (fun ξ2 bd2 pa2 => ⟨fun l hl ll hp => jq_Z (jb_f (by decide) ?_), fun hl => jq_Z (jb_t rfl ?_)⟩)
        · rw [hl] at g6'
          have g := h ξ2 (g5.trans (mQP_pa pa2))
          rw [← g6'] at g
          have g2' := g hp
          rw [← ll]
          exact g2'
        · rw [hl] at g6'
          rw [jm_wr_id (a := (r : Int) + 1) (by omega) (by omega)]
          exact ih (r + 1) ξ2 (by omega) (by omega) bd2 (mPa_ru pa2 g4) (g5.trans (mQP_pa pa2)) g6'
    exact key (k.toNat + 1) 0 ν (by omega) (by decide) hb hr (mQP_of hq) rfl
theorem sRoad_len {ρ : sR} {b : sB} {x st k sil : Int} : 0 ≤ (sRoad ρ b x st k sil).1 → ((sRoad ρ b x st k sil).2.length : Int) = (sRoad ρ b x st k sil).1 := by
  unfold sRoad
  split
  · split
    · exact fun h => absurd h (by decide)
    · split
      · exact fun _ => rfl
      · exact fun h => absurd h (by decide)
  · exact fun h => absurd h (by decide)
/-- what a road leaves behind: the road that was found -/
def mRd (μ ν : jm_M) : Prop := (∀ p, p ≠ 133 → p ≠ 161 → p ≠ 162 → p < 143 ∨ 151 < p → ν p = μ p) ∧ ∀ i, i ≠ 0 → i ≠ 52 → ν 133 i = μ 133 i
theorem c_M_road {x st k : Int} (h0 : mOK μ ρ w n) (h1 : (sRoad ρ (sLay ρ w n) x st k (-1)).1 < 0 → ∀ ν, mQP μ ν → Q (some (jm_I (sRoad ρ (sLay ρ w n) x st k (-1)).1)) ν)
    (h2 : 0 ≤ (sRoad ρ (sLay ρ w n) x st k (-1)).1 → (sRoad ρ (sLay ρ w n) x st k (-1)).1 ≤ 8 → ∀ ν, mRd μ ν → ν 133 52 = (sRoad ρ (sLay ρ w n) x st k (-1)).1 → sPt (ν 162) 0 (sRoad ρ (sLay ρ w n) x st k (-1)).2 → Q (some (jm_I (sRoad ρ (sLay ρ w n) x st k (-1)).1)) ν) : jc E m_X11_road (d + 15) [jm_R 133, jm_I x, jm_I st, jm_I k] μ Q := by
  have h0' := mOK_of (mQ_0 (v := 0)) h0
  have hl := sRoad_len (ρ := ρ) (b := sLay ρ w n) (x := x) (st := st) (k := k) (sil := -1)
  have hk := sRoad_le (ρ := ρ) (b := sLay ρ w n) (x := x) (st := st) (k := k) (sil := -1)
  refine e_X11_road (d := d + 14) (fun _ => c_M_roadOf h0' (fun ν hq hp => jq_I ⟨fun z => ?_, fun z => h1 (by omega) ν ((mQP_of mQ_0).trans hq)⟩))
  generalize hS : sRoad ρ (sLay ρ w n) x st k (-1) = S at *
  have hl' := hl z
  have key : ∀ (m : Nat) (i : Int) (ξ : jm_M), S.1 - i = m → 0 ≤ i → mRd μ ξ → ξ 133 52 = S.1 → sPt (ξ 161) 0 S.2 → (∀ j, 0 ≤ j → j < i → ξ 162 j = ξ 161 j) → jg E m_X11_road (d + 14) 32 [some (jm_R 133), none, none, none, some (jm_I S.1), some (jm_I i)] [] ξ Q := by
    intro m
    induction m with
    | zero =>
      intro i ξ g1 g2 g3 g4 g5 g6
      exact r_X11_road_32 (d := d + 14) ⟨fun _ => h2 z hk ξ g3 g4 (sPt_ext S.2 0 (fun j j0 j1 => g6 j j0 (by omega)) g5), fun z => absurd (show S.1 ≤ i by omega) z⟩
    | succ m ih =>
      intro i ξ g1 g2 g3 g4 g5 g6
      refine r_X11_road_32 (d := d + 14) ⟨fun z => absurd z (by omega), fun _ => ⟨⟨by omega, by omega⟩, fun m3 hm => ?_⟩⟩
      rw [jm_wr_id (a := i + 1) (by omega) (by omega)]
      subst hm
      refine ih (i + 1) _ (by omega) (by omega) ⟨fun p p1 p2 p3 p4 => ?_, fun j j1 j2 => ?_⟩ ?_ ?_ (fun j j0 j1 => ?_)
      · rw [jm_up_ne p3]; exact g3.1 p p1 p2 p3 p4
      · rw [jm_up_lj (by decide)]; exact g3.2 j j1 j2
      · rw [jm_up_lj (by decide)]; exact g4
      · rw [jm_up_ne (by decide)]; exact g5
      · rw [jm_up_lj (p := 162) (q := 161) (by decide)]
        by_cases hj : j = i
        · rw [hj, jm_up_at]
        · rw [jm_up_i hj]; exact g6 j j0 (by omega)
  refine key S.1.toNat 0 _ (by omega) (by decide) ⟨fun p p1 p2 p3 p4 => ?_, fun j j1 j2 => ?_⟩ jm_up_at ?_ (fun j j0 j1 => absurd j1 (by omega))
  · rw [jm_up_ne p1, hq.1 p p1 p2 p4, jm_up_ne p1]
  · rw [jm_up_i j2, hq.2 j j1, jm_up_i j1]
  · rw [jm_up_ne (by decide)]; exact hp
theorem c_M_without {who x st k : Int} (h0 : mOK μ ρ w n) (h : ∀ ν, mQP μ ν → Q (some (jm_I (if 0 ≤ who ∧ who < ρ 0 then (sRoad ρ (sLay ρ w n) x st k who).1 else -3))) ν) : jc E m_X11_without (d + 15) [jm_R 133, jm_I who, jm_I x, jm_I st, jm_I k] μ Q := by
  have h0' := mOK_of (mQ_0 (v := 0)) h0
  refine e_X11_without (d := d + 14) (fun _ => c_M_isWho (fun a0 a1 => jq_Z (jb_f (by decide) ?_)) (fun a => jq_Z (jb_t rfl ?_)))
  · rw [h0'.p0] at a1
    refine c_M_roadOf h0' (fun ν hq _ => jq_I ?_)
    have g := h ν ((mQP_of mQ_0).trans hq)
    rw [if_pos ⟨a0, a1⟩] at g
    exact g
  · rw [h0'.p0] at a
    have g := h _ (mQP_of (mQ_0 (v := 0)))
    rw [if_neg a] at g
    exact g
theorem c_M_found {i : Int} (h0 : μ 133 52 ≤ 8) (h : Q (some (jm_I (if 0 ≤ i ∧ i < μ 133 52 then μ 162 i else -1))) (jm_up μ 133 0 0)) : jc E m_X11_found (d + 1) [jm_R 133, jm_I i] μ Q := by
  refine e_X11_found (d := d) (fun _ => ?_)
  refine ⟨fun z => ?_, fun z => ⟨fun z2 => ?_, fun z2 => ⟨⟨by omega, by omega⟩, ?_⟩⟩⟩
  · rw [if_neg (show ¬ (0 ≤ i ∧ i < μ 133 52) from fun q => by omega)] at h
    exact h
  · rw [if_neg (show ¬ (0 ≤ i ∧ i < μ 133 52) from fun q => by omega)] at h
    exact h
  · rw [if_pos (show 0 ≤ i ∧ i < μ 133 52 by omega)] at h
    exact h
end MH
