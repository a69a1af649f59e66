/-! a table's lines, in the class: kinds -/
section KK
variable {E : jm_E} {d : Nat} {μ : jm_M} {Q : Option jm_V → jm_M → Prop} {τ : Int → Int} {n lim p : Int} {T : zTs}
/-- a kind that is half told -/
def kHk (μ ν : jm_M) (T : zTs) (v a b c : Int) : Prop := (∀ x, x ≠ 1 → x < 15 ∨ 19 < x → ν x = μ x) ∧ (ν 15 (T.1 1) = v ∧ ν 16 (T.1 1) = a ∧ ν 17 (T.1 1) = b ∧ ν 18 (T.1 1) = c ∧ ν 19 (T.1 1) = 0) ∧ ∀ x i, 15 ≤ x → x ≤ 19 → i ≠ T.1 1 → ν x i = μ x i
theorem kHk.kf {ν ξ : jm_M} {v a b c : Int} (h : kHk μ ν T v a b c) (hf : tKf ν ξ) : kHk μ ξ T v a b c :=
  ⟨fun x x1 x2 => (hf.1 x x1).trans (h.1 x x1 x2), by rw [hf.1 15 (by decide), hf.1 16 (by decide), hf.1 17 (by decide), hf.1 18 (by decide), hf.1 19 (by decide)]; exact h.2.1, fun x i x0 x1 hi => by rw [hf.1 x (by omega)]; exact h.2.2 x i x0 x1 hi⟩
theorem kHk.tb {ν : jm_M} {v a b c : Int} (h : kHk μ ν T v a b c) (hT : kTb μ T) (w8 : T.1 1 ≠ 10) (a0 : 0 ≤ a) (a1 : a ≤ 2) (b0 : 0 ≤ b) (b1 : b ≤ 6) (c0 : 0 ≤ c) (c1 : c ≤ 99) (hv : sNv v) : kTb (jm_up ν 12 4 (T.1 1 + 1)) (zKd T.1 a b c, T.2.1, sUp T.2.2 (T.1 1) v) :=
  kTb_kind hT w8 a0 a1 b0 b1 c0 c1 hv jm_up_at (fun j hj => by rw [jm_up_i hj, h.1 12 (by decide) (by decide)]) (by rw [jm_up_lj (by decide), jm_up_lj (by decide), jm_up_lj (by decide), jm_up_lj (by decide), jm_up_lj (by decide)]; exact h.2.1) (fun x i x0 x1 hi => by rw [jm_up_lj (by omega)]; exact h.2.2 x i x0 x1 hi) (fun x hx => by rw [jm_up_ne (by omega)]; exact h.1 x (by omega) (by omega))
theorem kHk.up {ν : jm_M} {v a b c y w : Int} {a' b' c' : Int} (h : kHk μ ν T v a b c) (hy : y = 16 ∧ a' = w ∧ b' = b ∧ c' = c ∨ y = 17 ∧ a' = a ∧ b' = w ∧ c' = c ∨ y = 18 ∧ a' = a ∧ b' = b ∧ c' = w) : kHk μ (jm_up ν y (T.1 1) w) T v a' b' c' := by
  obtain ⟨h1, ⟨q1, q2, q3, q4, q5⟩, h3⟩ := h
  refine ⟨fun x x1 x2 => by rw [jm_up_ne (by omega)]; exact h1 x x1 x2, ?_, fun x i x0 x1 hi => by rw [jm_up_i hi]; exact h3 x i x0 x1 hi⟩
  rcases hy with ⟨rfl, rfl, rfl, rfl⟩ | ⟨rfl, rfl, rfl, rfl⟩ | ⟨rfl, rfl, rfl, rfl⟩
  · exact ⟨by rw [jm_up_lj (by decide)]; exact q1, jm_up_at, by rw [jm_up_lj (by decide)]; exact q3, by rw [jm_up_lj (by decide)]; exact q4, by rw [jm_up_lj (by decide)]; exact q5⟩
  · exact ⟨by rw [jm_up_lj (by decide)]; exact q1, by rw [jm_up_lj (by decide)]; exact q2, jm_up_at, by rw [jm_up_lj (by decide)]; exact q4, by rw [jm_up_lj (by decide)]; exact q5⟩
  · exact ⟨by rw [jm_up_lj (by decide)]; exact q1, by rw [jm_up_lj (by decide)]; exact q2, by rw [jm_up_lj (by decide)]; exact q3, jm_up_at, by rw [jm_up_lj (by decide)]; exact q5⟩
theorem jm_do_t {t : Int} (h0 : 0 ≤ t) (h1 : t ≤ 25) : jm_do (-11 - t) = if 9 ≤ t ∧ t ≤ 14 then t - 8 else 0 := by
  have h : ∀ k : Fin 26, jm_do (-11 - ((k.1 : Nat) : Int)) = if 9 ≤ ((k.1 : Nat) : Int) ∧ ((k.1 : Nat) : Int) ≤ 14 then ((k.1 : Nat) : Int) - 8 else 0 := by decide
  have := h ⟨t.toNat, by omega⟩
  have e : ((t.toNat : Nat) : Int) = t := by omega
  simp only [e] at this
  exact this
theorem g_readKind_138 {ν : jm_M} {v a : Int} (h0 : kAt ν τ n lim p) (hT : kTb μ T) (c10 : T.1 1 ≠ 10) (hH : kHk μ ν T v a 0 0) (a0 : 0 ≤ a) (a1 : a ≤ 2) (hv : sNv v) (h1 : ∀ e, zRk2 (sTok τ n lim) T v a p = .error e → ∀ ξ, kFe kW ν ξ e → Q (some (jm_I 0)) ξ) (h2 : ∀ x, zRk2 (sTok τ n lim) T v a p = .ok x → p ≤ x.2 → ∀ ξ, kFo kW ν ξ → ξ 12 0 = ν 12 0 → kAt ξ τ n lim x.2 → kTb ξ x.1 → Q (some (jm_I 1)) ξ) : jg E m_X5_readKind (d + 3) 138 [some (jm_R 12), some (jm_R 1)] [] ν Q := by
  have w0 := hT.2.2.1.2.2.1
  have w1 := hT.2.2.1.2.2.2.1
  have s := h0.s1
  have e4 : ∀ ξ : jm_M, (∀ x, x ≠ 1 → x < 15 ∨ 19 < x → ξ x = μ x) → ξ 12 4 = T.1 1 := fun ξ f => by rw [f 12 (by decide) (by decide)]; exact hT.1.1.2.1
  have up12 : ∀ ξ : jm_M, kAt ξ τ n lim p → kAt (jm_up ξ 12 4 (T.1 1 + 1)) τ n lim p := fun ξ h => h.kf (jm_up_ne (by decide)) (jm_up_ne (by decide))
  have no : zDD (sTok τ n lim) p = 0 → Q (some (jm_I 1)) (jm_up ν 12 4 (T.1 1 + 1)) := fun z => h2 (_, _) (by unfold zRk2; rw [if_pos z]) (Int.le_refl p) _ (kFo.up (by decide) (by decide)) (jm_up_i (by decide)) (up12 ν h0) (hH.tb hT c10 a0 a1 (by decide) (by decide) (by decide) (by decide) hv)
  refine r_X5_readKind_138 (d := d + 3) ?_
  rw [e4 ν hH.1, jm_wr_id (by omega) (by omega)]
  refine ⟨fun z => ⟨is_12, no ?_⟩, fun z => ⟨h0.it (Decidable.not_not.mp z), ?_⟩⟩
  · unfold zDD; rw [if_neg (fun q => z (s.1.mpr q.1))]
  have e := s.1.mp (Decidable.not_not.mp z)
  have st := sTm_in (v := (sTok τ n lim p).2.2.2)
  have ed : jm_do (ν 1 7) = zDD (sTok τ n lim) p := by
    rw [(h0.2.2.2.2.2.2.2.2.2.1 e).2.2, jm_do_t st.1 st.2]
    unfold zDD
    by_cases c : 9 ≤ sTm (sTok τ n lim p).2.2.2 ∧ sTm (sTok τ n lim p).2.2.2 ≤ 14
    · rw [if_pos c, if_pos ⟨e, c⟩]
    · rw [if_neg c, if_neg (fun q => c q.2)]
  have dr : 0 ≤ zDD (sTok τ n lim) p ∧ zDD (sTok τ n lim) p ≤ 6 := by unfold zDD; split <;> omega
  rw [ed]
  refine ⟨fun z0 => ⟨is_12, no z0⟩, fun z0 => ⟨is_12, ⟨w0, by omega⟩, fun m8 h8 => ?_⟩⟩
  have H8 : kHk μ m8 T v a (zDD (sTok τ n lim) p) 0 := by rw [h8]; exact hH.up (Or.inr (Or.inl ⟨rfl, rfl, rfl, rfl⟩))
  have f8 : kFo kW ν m8 := by rw [h8]; exact kFo.up (by decide) (by decide)
  have a8 : kAt m8 τ n lim p := h0.kf (by rw [h8, jm_up_ne (by decide)]) (by rw [h8, jm_up_ne (by decide)])
  refine c_K_adv a8 (by omega) (fun m9 b1 b2 _ => ?_)
  have H9 := H8.kf b1
  have x1 := h0.nx (by omega)
  rw [e4 m9 H9.1]
  have e17 : m9 (12 + 5) (T.1 1) = zDD (sTok τ n lim) p := H9.2.1.2.2.1
  have o0 : ∀ ξ : jm_M, (∀ x, x ≠ 1 → x < 15 ∨ 19 < x → ξ x = μ x) → ξ 12 0 = ν 12 0 := fun ξ f => by rw [f 12 (by decide) (by decide), hH.1 12 (by decide) (by decide)]
  rw [e17, jm_wr_id (by omega) (by omega)]
  refine ⟨⟨w0, by omega⟩, fun z2 => ?_, fun z2 => ?_⟩
  · exact h2 (_, _) (by unfold zRk2; rw [if_neg z0, if_pos z2]) (by show p ≤ sNx1 τ n lim p; omega) _ ((f8.trans (kFo.of b1)).trans (kFo.up (by decide) (by decide))) (by rw [jm_up_i (by decide)]; exact o0 m9 H9.1) (b2.kf (jm_up_ne (by decide)) (jm_up_ne (by decide))) (H9.tb hT c10 a0 a1 dr.1 dr.2 (by decide) (by decide) hv)
  · have z3 := Decidable.not_not.mp z2
    rw [z3] at H9
    refine c_K_num b2 (fun e he ν er => jq_Z (jb_f (by decide) (h1 e (by unfold zRk2; rw [if_neg z0, if_neg z2]; exact zBi_e he) ν ((f8.trans (kFo.of b1)).er er)))) (fun s4 he r0 r1 => jq_Z (jb_t (by decide) ?_))
    rw [e4 m9 H9.1]
    refine ⟨⟨w0, by omega⟩, fun m17 h17 => ?_⟩
    rw [b2.val.2.2 s4] at h17
    have H17 : kHk μ m17 T v a 2 (sTok τ n lim (sNx1 τ n lim p)).2.2.2 := by rw [h17]; exact H9.up (Or.inr (Or.inr ⟨rfl, rfl, rfl, rfl⟩))
    have f17 : kFo kW m9 m17 := by rw [h17]; exact kFo.up (by decide) (by decide)
    have a17 : kAt m17 τ n lim (sNx1 τ n lim p) := b2.kf (by rw [h17, jm_up_ne (by decide)]) (by rw [h17, jm_up_ne (by decide)])
    refine c_K_adv a17 (by omega) (fun m18 c1 c2 _ => ?_)
    have H18 := H17.kf c1
    have x2 := b2.nx (by omega)
    rw [e4 m18 H18.1, jm_wr_id (by omega) (by omega)]
    exact h2 (_, _) (by unfold zRk2; rw [if_neg z0, if_neg z2]; rw [zBi_o he]) (by show p ≤ sNx1 τ n lim (sNx1 τ n lim p); omega) _ ((((f8.trans (kFo.of b1)).trans f17).trans (kFo.of c1)).trans (kFo.up (by decide) (by decide))) (by rw [jm_up_i (by decide)]; exact o0 m18 H18.1) (c2.kf (jm_up_ne (by decide)) (jm_up_ne (by decide))) (H18.tb hT c10 a0 a1 (by decide) (by decide) (by omega) (by omega) hv)
theorem c_K_readKind (h0 : kAt μ τ n lim p) (hs : 2 ≤ (sTok τ n lim p).1) (hT : kTb μ T) (h1 : ∀ e, zRk1 (sTok τ n lim) T p = .error e → ∀ ν, kFe kW μ ν e → Q (some (jm_I 0)) ν) (h2 : ∀ x, zRk1 (sTok τ n lim) T p = .ok x → p < x.2 → ∀ ν, kFo kW μ ν → ν 12 0 = μ 12 0 → kAt ν τ n lim x.2 → kTb ν x.1 → Q (some (jm_I 1)) ν) : jc E m_X5_readKind (d + 4) [jm_R 12, jm_R 1] μ Q := by
  have w0 := hT.2.2.1.2.2.1
  have w1 := hT.2.2.1.2.2.2.1
  have e0 : μ 12 4 = T.1 1 := hT.1.1.2.1
  refine e_X5_readKind (d := d + 3) (fun _ => ⟨is_12, fun z => ?_, fun z => ?_⟩)
  · have c8 : ¬ T.1 1 = 10 := by omega
    refine c_K_adv h0 hs (fun m3 a1 a2 _ => ?_)
    have hT3 := hT.kf a1
    refine c_K_isNewName a2 hT3 (fun e he ν er => jq_Z (jb_f (by decide) (h1 e (by unfold zRk1; rw [if_neg c8]; exact zBi_e he) ν ((kFo.of a1).er er)))) (fun s3 he0 => jq_Z (jb_t (by decide) ?_))
    have e3 : m3 12 4 = T.1 1 := hT3.1.1.2.1
    have zz : ∀ ξ : jm_M, ξ = ξ → (0 ≤ T.1 1 ∧ T.1 1 < 10) := fun _ _ => ⟨w0, by omega⟩
    rw [e3]
    refine ⟨zz m3 rfl, fun m9 h9 => ?_⟩
    rw [show m9 12 4 = T.1 1 by rw [h9, jm_up_lj (by decide)]; exact e3]
    refine ⟨zz m3 rfl, fun m11 h11 => ?_⟩
    rw [show m11 12 4 = T.1 1 by rw [h11, jm_up_lj (by decide), h9, jm_up_lj (by decide)]; exact e3]
    refine ⟨zz m3 rfl, fun m13 h13 => ?_⟩
    rw [show m13 12 4 = T.1 1 by rw [h13, jm_up_lj (by decide), h11, jm_up_lj (by decide), h9, jm_up_lj (by decide)]; exact e3]
    refine ⟨zz m3 rfl, fun m15 h15 => ?_⟩
    rw [show m15 12 4 = T.1 1 by rw [h15, jm_up_lj (by decide), h13, jm_up_lj (by decide), h11, jm_up_lj (by decide), h9, jm_up_lj (by decide)]; exact e3]
    refine ⟨zz m3 rfl, fun m17 h17 => ?_⟩
    rw [a2.val.2.1 s3] at h9
    have g : ∀ x, x < 15 ∨ 19 < x → m17 x = m3 x := fun x hx => by rw [h17, jm_up_ne (show x ≠ 12 + 7 by omega), h15, jm_up_ne (show x ≠ 12 + 6 by omega), h13, jm_up_ne (show x ≠ 12 + 5 by omega), h11, jm_up_ne (show x ≠ 12 + 4 by omega), h9, jm_up_ne (show x ≠ 12 + 3 by omega)]
    have H17 : kHk μ m17 T (sTok τ n lim (sNx1 τ n lim p)).2.2.2 0 0 0 := by
      refine ⟨fun x x1 x2 => by rw [g x x2, a1.1 x x1], ⟨?_, ?_, ?_, ?_, ?_⟩, fun x i x0 x1 hi => ?_⟩
      · rw [h17, jm_up_lj (by decide), h15, jm_up_lj (by decide), h13, jm_up_lj (by decide), h11, jm_up_lj (by decide), h9]; exact jm_up_at
      · rw [h17, jm_up_lj (by decide), h15, jm_up_lj (by decide), h13, jm_up_lj (by decide), h11]; exact jm_up_at
      · rw [h17, jm_up_lj (by decide), h15, jm_up_lj (by decide), h13]; exact jm_up_at
      · rw [h17, jm_up_lj (by decide), h15]; exact jm_up_at
      · rw [h17]; exact jm_up_at
      · rw [h17, jm_up_i hi, h15, jm_up_i hi, h13, jm_up_i hi, h11, jm_up_i hi, h9, jm_up_i hi, a1.1 x (by omega)]
    have f17 : kFo kW m3 m17 := ⟨fun x _ hx => g x (by have : ¬ (12 ≤ x ∧ x ≤ 20) := hx; omega), fun j _ => by rw [g 1 (by decide)]⟩
    have a17 : kAt m17 τ n lim (sNx1 τ n lim p) := a2.kf (g 1 (by decide)) (g 2 (by decide))
    refine c_K_adv a17 (by omega) (fun m18 b1 b2 _ => ?_)
    have H18 := H17.kf b1
    have F : kFo kW μ m18 := ((kFo.of a1).trans f17).trans (kFo.of b1)
    have x1 := h0.nx hs
    have x2 := a2.nx (by omega)
    have o18 : m18 12 0 = μ 12 0 := by rw [H18.1 12 (by decide) (by decide)]
    have nv := sTok_nv s3
    -- opens or begins
    have key : ∀ w, (w = 1 ∨ w = 2) → zOo (sTok τ n lim) (sNx1 τ n lim (sNx1 τ n lim p)) = w → (sTok τ n lim (sNx1 τ n lim (sNx1 τ n lim p))).1 = 2 → ∀ m7, m7 = jm_up m18 (12 + 4) (T.1 1) w → jc E m_X7_advance (d + 3) [jm_R 1] m7 (fun o m8 => o = none → jg E m_X5_readKind (d + 3) 138 [some (jm_R 12), some (jm_R 1)] [] m8 Q) := by
      intro w hw ho s5 m7 h7
      have H7 : kHk μ m7 T (sTok τ n lim (sNx1 τ n lim p)).2.2.2 w 0 0 := by rw [h7]; exact H18.up (Or.inl ⟨rfl, rfl, rfl, rfl⟩)
      have f7 : kFo kW m18 m7 := by rw [h7]; exact kFo.up (by decide) (by decide)
      have a7 : kAt m7 τ n lim (sNx1 τ n lim (sNx1 τ n lim p)) := b2.kf (by rw [h7, jm_up_ne (by decide)]) (by rw [h7, jm_up_ne (by decide)])
      refine c_K_adv a7 (by omega) (fun m8 c1 c2 _ => ?_)
      have x3 := b2.nx (by omega)
      have H8 := H7.kf c1
      have F8 := (F.trans f7).trans (kFo.of c1)
      refine g_readKind_138 c2 hT c8 H8 (by omega) (by omega) nv (fun e he ξ fe => h1 e ?_ ξ (F8.fe fe)) (fun x hx xp ξ fo xo xa xt => h2 x ?_ (by omega) ξ (F8.trans fo) (by rw [xo, H8.1 12 (by decide) (by decide)]) xa xt)
      · unfold zRk1; rw [if_neg c8]; rw [zBi_o he0]; rw [ho, if_neg (show ¬ w = 0 by omega)]; exact he
      · unfold zRk1; rw [if_neg c8]; rw [zBi_o he0]; rw [ho, if_neg (show ¬ w = 0 by omega)]; exact hx
    have k110 : zOo (sTok τ n lim) (sNx1 τ n lim (sNx1 τ n lim p)) ≠ 0 → jg E m_X5_readKind (d + 3) 110 [some (jm_R 12), some (jm_R 1)] [] m18 Q := by
      intro ho
      have e18 : m18 12 4 = T.1 1 := by rw [H18.1 12 (by decide) (by decide)]; exact e0
      refine r_X5_readKind_110 (d := d + 3) ⟨is_12, c_K_isTerm (t := 7) b2 (by decide) (by decide) (fun s5 t5 => jq_Z (jb_f (by decide) ?_)) (fun z5 => jq_Z (jb_t rfl ?_)) rfl⟩
      · rw [e18]
        exact ⟨⟨w0, by omega⟩, fun m7 h7 => key 1 (Or.inl rfl) (by unfold zOo; rw [if_pos ⟨s5, t5⟩]) s5 m7 h7⟩
      · rw [e18]
        have o2 : zIs (sTok τ n lim) (sNx1 τ n lim (sNx1 τ n lim p)) 8 := by
          unfold zOo at ho
          rw [if_neg z5] at ho
          exact Decidable.not_not.mp (fun q => ho (if_neg q))
        exact ⟨⟨w0, by omega⟩, fun m7 h7 => key 2 (Or.inr rfl) (by unfold zOo; rw [if_neg z5, if_pos o2]) o2.1 m7 h7⟩
    refine c_K_isTerm (t := 7) b2 (by decide) (by decide) (fun s5 t5 => jq_Z (jb_t (by decide) (k110 (by unfold zOo; rw [if_pos ⟨s5, t5⟩]; decide)))) (fun z5 => jq_Z (jb_f (by decide) (c_K_isTerm (t := 8) b2 (by decide) (by decide) (fun s6 t6 => jq_Z (jb_f (by decide) (k110 (by unfold zOo; rw [if_neg z5, if_pos ⟨s6, t6⟩]; decide)))) (fun z6 => jq_Z (jb_t rfl ?_)) rfl))) rfl
    have ho : zOo (sTok τ n lim) (sNx1 τ n lim (sNx1 τ n lim p)) = 0 := by unfold zOo; rw [if_neg z5, if_neg z6]
    refine g_readKind_138 b2 hT c8 H18 (by decide) (by decide) nv (fun e he ξ fe => h1 e ?_ ξ (F.fe fe)) (fun x hx xp ξ fo xo xa xt => h2 x ?_ (by omega) ξ (F.trans fo) (by rw [xo, o18]) xa xt)
    · unfold zRk1; rw [if_neg c8]; rw [zBi_o he0]; rw [ho, if_pos rfl]; exact he
    · unfold zRk1; rw [if_neg c8]; rw [zBi_o he0]; rw [ho, if_pos rfl]; exact hx
  · have c8 : T.1 1 = 10 := by omega
    rw [h0.val.1]
    exact c_K_fails (fun ν er => jq_Z (h1 (4, _) (by unfold zRk1; rw [if_pos c8]; rfl) ν ((kFo.rfl).er er)))
end KK
