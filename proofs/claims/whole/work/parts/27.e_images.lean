section DC
variable {E : jm_E} {d : Nat} {μ : jm_M} {Q : Option jm_V → jm_M → Prop} {ρ : sR} {w : Int → Int} {n : Nat} {P : sPg} {D : sDk}
theorem c_M_image {k : Int} (h1 : ¬ (0 ≤ k ∧ k ≤ 1) → Q (some (jm_I 0)) (jm_up μ 133 0 0))
    (h2 : 0 ≤ k → k ≤ 1 → ∀ ν : jm_M, (∀ p, p ≠ 133 → p ≠ 137 → p ≠ 141 → p ≠ 142 → ν p = μ p) → (∀ i, i ≠ 0 → ν 133 i = μ 133 i) → (∀ i, 0 ≤ i → i < 1152 → ν 137 (1152 * k + i) = μ 135 i) → (∀ i, (i < 1152 * k ∨ 1152 * k + 1152 ≤ i) → ν 137 i = μ 137 i) → (∀ i, 0 ≤ i → i < 18 → ν 141 (18 * k + i) = μ 139 i) → (∀ i, (i < 18 * k ∨ 18 * k + 18 ≤ i) → ν 141 i = μ 141 i) → ν 142 k = 1 → (∀ i, i ≠ k → ν 142 i = μ 142 i) → Q (some (jm_I 1)) ν) : jc E m_X11_image (d + 2) [jm_R 133, jm_I k] μ Q := by
  refine e_X11_image (d := d + 1) (fun _ => c_M_isIn (fun a b => jq_Z (jb_t (by decide) ?_)) (fun z => jq_Z (jb_f (by decide) (h1 z))))
  have h2' := h2 a b
  have e0 : jm_wr (1152 * k) = 1152 * k := jm_wr_id (by omega) (by omega)
  have e18 : jm_wr (18 * k) = 18 * k := jm_wr_id (by omega) (by omega)
  have second : ∀ (m : Nat) (i : Int) (ξ : jm_M), i + m = 18 → 0 ≤ i → (∀ p, p ≠ 133 → p ≠ 137 → p ≠ 141 → ξ p = μ p) → (∀ i, i ≠ 0 → ξ 133 i = μ 133 i) → (∀ i, 0 ≤ i → i < 1152 → ξ 137 (1152 * k + i) = μ 135 i) → (∀ i, (i < 1152 * k ∨ 1152 * k + 1152 ≤ i) → ξ 137 i = μ 137 i) → (∀ j, 0 ≤ j → j < i → ξ 141 (18 * k + j) = μ 139 j) → (∀ i, (i < 18 * k ∨ 18 * k + 18 ≤ i) → ξ 141 i = μ 141 i) → jg E m_X11_image (d + 1) 51 [some (jm_R 133), some (jm_I k), some (jm_I i)] [] ξ Q := by
    intro m
    induction m with
    | zero =>
      intro i ξ g1 g2 g3 g4 g5 g6 g7 g8
      refine r_X11_image_51 (d := d + 1) ⟨fun _ => ⟨by omega, fun m3 h3 => ?_⟩, fun z => absurd (show 18 ≤ i by omega) z⟩
      subst h3
      exact h2' _ (fun p p1 p2 p3 p4 => by rw [jm_up_ne p4]; exact g3 p p1 p2 p3) (fun j hj => by rw [jm_up_ne (by decide)]; exact g4 j hj) (fun j j0 j1 => by rw [jm_up_ne (by decide)]; exact g5 j j0 j1) (fun j hj => by rw [jm_up_ne (by decide)]; exact g6 j hj) (fun j j0 j1 => by rw [jm_up_ne (by decide)]; exact g7 j j0 (by omega)) (fun j hj => by rw [jm_up_ne (by decide)]; exact g8 j hj) jm_up_at (fun j hj => by rw [jm_up_i hj, g3 142 (by decide) (by decide) (by decide)])
    | succ m ih =>
      intro i ξ g1 g2 g3 g4 g5 g6 g7 g8
      refine r_X11_image_51 (d := d + 1) ⟨fun z => absurd z (by omega), fun _ => ⟨by omega, ?_⟩⟩
      rw [e18, jm_wr_id (a := 18 * k + i) (by omega) (by omega), jm_wr_id (a := i + 1) (by omega) (by omega), g3 139 (by decide) (by decide) (by decide)]
      refine ⟨by omega, fun m6 h6 => ?_⟩
      subst h6
      refine ih (i + 1) _ (by omega) (by omega) (fun p p1 p2 p3 => by rw [jm_up_ne p3]; exact g3 p p1 p2 p3) (fun j hj => by rw [jm_up_ne (by decide)]; exact g4 j hj) (fun j j0 j1 => by rw [jm_up_ne (by decide)]; exact g5 j j0 j1) (fun j hj => by rw [jm_up_ne (by decide)]; exact g6 j hj) (fun j j0 j1 => ?_) (fun j hj => by rw [jm_up_i (by omega)]; exact g8 j hj)
      by_cases e : j = i
      · rw [e, jm_up_at]
      · rw [jm_up_i (by omega)]; exact g7 j j0 (by omega)
  have first : ∀ (m : Nat) (i : Int) (ξ : jm_M), i + m = 1152 → 0 ≤ i → (∀ p, p ≠ 133 → p ≠ 137 → ξ p = μ p) → (∀ i, i ≠ 0 → ξ 133 i = μ 133 i) → (∀ j, 0 ≤ j → j < i → ξ 137 (1152 * k + j) = μ 135 j) → (∀ i, (i < 1152 * k ∨ 1152 * k + 1152 ≤ i) → ξ 137 i = μ 137 i) → jg E m_X11_image (d + 1) 18 [some (jm_R 133), some (jm_I k), some (jm_I i)] [] ξ Q := by
    intro m
    induction m with
    | zero =>
      intro i ξ g1 g2 g3 g4 g5 g6
      refine r_X11_image_18 (d := d + 1) ⟨fun _ => ?_, fun z => absurd (show 1152 ≤ i by omega) z⟩
      exact second 18 0 ξ (by decide) (by decide) (fun p p1 p2 p3 => g3 p p1 p2) g4 (fun j j0 j1 => g5 j j0 (by omega)) g6 (fun j j0 j1 => by omega) (fun j hj => by rw [g3 141 (by decide) (by decide)])
    | succ m ih =>
      intro i ξ g1 g2 g3 g4 g5 g6
      refine r_X11_image_18 (d := d + 1) ⟨fun z => absurd z (by omega), fun _ => ⟨by omega, ?_⟩⟩
      rw [e0, jm_wr_id (a := 1152 * k + i) (by omega) (by omega), jm_wr_id (a := i + 1) (by omega) (by omega), g3 135 (by decide) (by decide)]
      refine ⟨by omega, fun m4 h4 => ?_⟩
      subst h4
      refine ih (i + 1) _ (by omega) (by omega) (fun p p1 p2 => by rw [jm_up_ne p2]; exact g3 p p1 p2) (fun j hj => by rw [jm_up_ne (by decide)]; exact g4 j hj) (fun j j0 j1 => ?_) (fun j hj => by rw [jm_up_i (by omega)]; exact g6 j hj)
      by_cases e : j = i
      · rw [e, jm_up_at]
      · rw [jm_up_i (by omega)]; exact g5 j j0 (by omega)
  exact first 1152 0 _ (by decide) (by decide) (fun p p1 p2 => jm_up_ne p1) (fun j hj => jm_up_i hj) (fun j j0 j1 => by omega) (fun j hj => by rw [jm_up_ne (by decide)])
theorem c_M_restore {k : Int} (h1 : ¬ (0 ≤ k ∧ k ≤ 1 ∧ μ 142 k ≠ 0) → Q (some (jm_I 0)) (jm_up μ 133 0 0))
    (h2 : 0 ≤ k → k ≤ 1 → μ 142 k ≠ 0 → ∀ ν : jm_M, (∀ p, p ≠ 133 → p ≠ 135 → p ≠ 139 → ν p = μ p) → (∀ i, i ≠ 0 → ν 133 i = μ 133 i) → (∀ i, 0 ≤ i → i < 1152 → ν 135 i = μ 137 (1152 * k + i)) → (∀ i, 0 ≤ i → i < 18 → ν 139 i = μ 141 (18 * k + i)) → Q (some (jm_I 1)) ν) : jc E m_X11_restore (d + 2) [jm_R 133, jm_I k] μ Q := by
  refine e_X11_restore (d := d + 1) (fun _ => c_M_isIn (fun a b => jq_Z (jb_f (by decide) ⟨by omega, ?_⟩)) (fun z => jq_Z (jb_t rfl (h1 (fun q => z ⟨q.1, q.2.1⟩)))))
  rw [jm_up_ne (by decide)]
  refine ⟨fun z => ?_, fun z => h1 (fun q => z q.2.2)⟩
  have h2' := h2 a b z
  have e0 : jm_wr (1152 * k) = 1152 * k := jm_wr_id (by omega) (by omega)
  have e18 : jm_wr (18 * k) = 18 * k := jm_wr_id (by omega) (by omega)
  have second : ∀ (m : Nat) (i : Int) (ξ : jm_M), i + m = 18 → 0 ≤ i → (∀ p, p ≠ 133 → p ≠ 135 → p ≠ 139 → ξ p = μ p) → (∀ i, i ≠ 0 → ξ 133 i = μ 133 i) → (∀ i, 0 ≤ i → i < 1152 → ξ 135 i = μ 137 (1152 * k + i)) → (∀ j, 0 ≤ j → j < i → ξ 139 j = μ 141 (18 * k + j)) → jg E m_X11_restore (d + 1) 60 [some (jm_R 133), some (jm_I k), some (jm_I i)] [] ξ Q := by
    intro m
    induction m with
    | zero =>
      intro i ξ g1 g2 g3 g4 g5 g7
      exact r_X11_restore_60 (d := d + 1) ⟨fun _ => h2' ξ g3 g4 g5 (fun j j0 j1 => g7 j j0 (by omega)), fun z => absurd (show 18 ≤ i by omega) z⟩
    | succ m ih =>
      intro i ξ g1 g2 g3 g4 g5 g7
      refine r_X11_restore_60 (d := d + 1) ⟨fun z => absurd z (by omega), fun _ => ?_⟩
      rw [e18, jm_wr_id (a := 18 * k + i) (by omega) (by omega), jm_wr_id (a := i + 1) (by omega) (by omega), g3 141 (by decide) (by decide) (by decide)]
      refine ⟨by omega, by omega, fun m6 h6 => ?_⟩
      subst h6
      refine ih (i + 1) _ (by omega) (by omega) (fun p p1 p2 p3 => by rw [jm_up_ne p3]; exact g3 p p1 p2 p3) (fun j hj => by rw [jm_up_ne (by decide)]; exact g4 j hj) (fun j j0 j1 => by rw [jm_up_ne (by decide)]; exact g5 j j0 j1) (fun j j0 j1 => ?_)
      by_cases e : j = i
      · rw [e, jm_up_at]
      · rw [jm_up_i (by omega)]; exact g7 j j0 (by omega)
  have first : ∀ (m : Nat) (i : Int) (ξ : jm_M), i + m = 1152 → 0 ≤ i → (∀ p, p ≠ 133 → p ≠ 135 → ξ p = μ p) → (∀ i, i ≠ 0 → ξ 133 i = μ 133 i) → (∀ j, 0 ≤ j → j < i → ξ 135 j = μ 137 (1152 * k + j)) → jg E m_X11_restore (d + 1) 27 [some (jm_R 133), some (jm_I k), some (jm_I i)] [] ξ Q := by
    intro m
    induction m with
    | zero =>
      intro i ξ g1 g2 g3 g4 g5
      refine r_X11_restore_27 (d := d + 1) ⟨fun _ => ?_, fun z => absurd (show 1152 ≤ i by omega) z⟩
      exact second 18 0 ξ (by decide) (by decide) (fun p p1 p2 p3 => g3 p p1 p2) g4 (fun j j0 j1 => g5 j j0 (by omega)) (fun j j0 j1 => by omega)
    | succ m ih =>
      intro i ξ g1 g2 g3 g4 g5
      refine r_X11_restore_27 (d := d + 1) ⟨fun z => absurd z (by omega), fun _ => ?_⟩
      rw [e0, jm_wr_id (a := 1152 * k + i) (by omega) (by omega), jm_wr_id (a := i + 1) (by omega) (by omega), g3 137 (by decide) (by decide)]
      refine ⟨by omega, by omega, fun m4 h4 => ?_⟩
      subst h4
      refine ih (i + 1) _ (by omega) (by omega) (fun p p1 p2 => by rw [jm_up_ne p2]; exact g3 p p1 p2) (fun j hj => by rw [jm_up_ne (by decide)]; exact g4 j hj) (fun j j0 j1 => ?_)
      by_cases e : j = i
      · rw [e, jm_up_at]
      · rw [jm_up_i (by omega)]; exact g5 j j0 (by omega)
  exact first 1152 0 _ (by decide) (by decide) (fun p p1 p2 => jm_up_ne p1) (fun j hj => jm_up_i hj) (fun j j0 j1 => by omega)
theorem c_M_said {k : Int} (h0 : mOK μ ρ w n) (h6 : μ 135 910 = (if P.2.2.2 = 0 then 0 else 1)) (h7 : P.2.2.2 ≠ 0 → μ 135 911 = P.2.2.2 - 1) (hs : mSn μ P) (hP : sWp P) (h : ∀ ν, mQ μ ν → Q (some (jm_I (if P.2.2.2 = 0 then -1 else sSel (fun t => sHo P (sAt ρ (sLay ρ w n) t P)) k n 0 0))) ν) : jc E m_X11_said (d + 45) [jm_R 133, jm_I k] μ Q := by
  have hG := h0.good
  have hW := h0.1
  have hn := h0.2.2.1
  have h40 := hP.1
  refine e_X11_said (d := d + 44) (fun _ => ?_)
  rw [h6]
  by_cases e : P.2.2.2 = 0
  · rw [if_pos e] at h ⊢
    exact ⟨fun z => absurd rfl z, fun _ => h _ mQ_0⟩
  · rw [if_neg e] at h ⊢
    refine ⟨fun _ => ?_, fun z => absurd (by decide) z⟩
    refine (mOK_of mQ_0 h0).lay (d := d + 40) (fun ν hr hb hq h133 _ => ?_)
    have hq' : mQ μ ν := mQ_0.trans hq
    have e135 : ν 135 = μ 135 := by rw [hq'.1 135 (by decide) (by decide)]
    have hs' : mSn ν P := mSn_of e135 hs
    have e911 : ν 135 911 = ((P.2.2.2 - 1 : Nat) : Int) := by rw [e135, h7 e]; omega
    have hx : ∀ t, sHo P (sAt ρ (sLay ρ w n) t P) = sVl P.1 (sAt ρ (sLay ρ w n) t P) (P.2.2.2 - 1) := fun t => by
      unfold sHo sVl
      rw [show P.2.2.2 - 1 + 1 = P.2.2.2 by omega]
    have h' := h ν hq'
    have key : ∀ (m : Nat) (t c : Int), t + m = n → 0 ≤ t → 0 ≤ c → c ≤ t → sSel (fun t => sHo P (sAt ρ (sLay ρ w n) t P)) k m t c = sSel (fun t => sHo P (sAt ρ (sLay ρ w n) t P)) k n 0 0 → jg E m_X11_said (d + 44) 26 [some (jm_R 133), some (jm_I k), some (jm_I c), some (jm_I t)] [] ν Q := by
      intro m
      induction m with
      | zero =>
        intro t c g1 g2 g3 g4 g5
        refine r_X11_said_26 (d := d + 44) ?_
        rw [hb.1, sLay_n]
        rw [← g5, sSel] at h'
        exact ⟨fun _ => ⟨fun z => by rw [if_neg z] at h'; exact h', fun z => by rw [if_pos (by omega)] at h'; exact h'⟩, fun z => absurd z (by omega)⟩
      | succ m ih =>
        intro t c g1 g2 g3 g4 g5
        refine r_X11_said_26 (d := d + 44) ?_
        rw [hb.1, sLay_n, e911, jm_wr_id (a := t + 1) (by omega) (by omega), jm_wr_id (a := c + 1) (by omega) (by omega)]
        rw [sSel] at g5
        refine ⟨fun z => absurd z (by omega), fun _ => ?_⟩
        refine c_M_holds (d := d + 1) hW hr hb hG hs' hP g2 (by rw [sLay_n]; omega) 40 (P.2.2.2 - 1) _ (by omega) (by omega) ?_
        rw [← hx]
        refine jq_B ⟨fun z => ⟨fun z3 => ?_, fun z3 => ?_⟩, fun z => ?_⟩
        · have z' : sHo P (sAt ρ (sLay ρ w n) t P) = true := by
            by_cases q : sHo P (sAt ρ (sLay ρ w n) t P) = true
            · exact q
            · rw [if_neg q] at z; exact absurd rfl z
          rw [if_pos z', if_neg z3] at g5
          exact ih (t + 1) (c + 1) (by omega) (by omega) (by omega) (by omega) g5
        · have z' : sHo P (sAt ρ (sLay ρ w n) t P) = true := by
            by_cases q : sHo P (sAt ρ (sLay ρ w n) t P) = true
            · exact q
            · rw [if_neg q] at z; exact absurd rfl z
          rw [if_pos z', if_pos (Decidable.not_not.mp z3)] at g5
          rw [← g5] at h'
          exact h'
        · have z' : ¬ sHo P (sAt ρ (sLay ρ w n) t P) = true := fun q => by rw [if_pos q] at z; exact z (by decide)
          rw [if_neg z'] at g5
          exact ih (t + 1) c (by omega) (by omega) g3 (by omega) g5
    exact key n 0 0 (by omega) (by decide) (by decide) (by decide) rfl
end DC
