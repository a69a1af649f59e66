/-! the law's row of cells: what it holds is of no account -/
section JMX
variable {E : jm_E} {Y : jm_Y} {R : Room} {n' n cs sl pc : Nat} {L : List (Option jm_V)} {st : List jm_V} {μ : jm_M} {Q : Option jm_V → jm_M → Prop}
theorem jm_xget {H : Heap} (hR : jm_Rel E jm_N μ H) (hx : jm_xp E ≠ 0) : jm_N ≤ jm_xp E ∧ ∃ f : Nat → Int32, va_at (jm_D E) jm_cl (jm_b E + jm_xp E, .inl (jm_cA E 0, 60, .inl f)) H := by
  rcases (hR.2.2.2.2.2 rfl).2 with h | h
  · exact absurd h hx
  · exact h
theorem jm_xP {H : Heap} {q : Nat × va_E} (h : va_at (jm_D E) jm_cl q H) : va_P (jm_D E) jm_cl [q] H := by
  intro k x hk
  have hk0 : k < 1 := (List.getElem?_eq_some_iff.mp hk).1
  rw [show k = 0 by omega] at hk
  cases hk
  exact h
theorem jm_xload {i : Int} (hd : decode Y.2.1 pc = .ok (.iaload, 1)) (hx : jm_xp E ≠ 0) (hi : 0 ≤ i ∧ i < 60) (h : ∀ x : Int, jm_ok (jm_I x) → jm_G E Y R n' jm_N cs sl (pc + 1) L (jm_I x :: st) μ Q) : jm_G E Y R n' jm_N cs sl pc L (jm_I i :: jm_R (jm_xp E : Int) :: st) μ Q := by
  obtain ⟨j, rfl⟩ := jm_nat hi.1
  intro p e s m args below meth c Z H locs ls C hZ hR hS hl hL hst
  obtain ⟨h1, f, h2⟩ := jm_xget hR hx
  have hi' := hst _ List.mem_cons_self
  rw [List.map_cons, List.map_cons, jm_cvR]
  refine va_iald C.1 C.2.1 C.2.2.2.2.2.2.2.1 (jm_xP h2) 0 0 rfl rfl (jm_vpin hi' (by omega)) hd ?_
  have h3 := h (f (Int32.ofInt (j : Int)).toNatClampNeg).toInt (jm_ok32 _) p e s m args below meth c Z H locs ls C hZ hR hS hl hL (jm_cons (jm_ok32 _) (jm_tail2 hst))
  rw [List.map_cons] at h3
  have e1 : jm_cv E (jm_I (f (Int32.ofInt (j : Int)).toNatClampNeg).toInt) = .int (f (Int32.ofInt (j : Int)).toNatClampNeg) := by
    show Value.int (Int32.ofInt _) = _
    rw [jm_ofToInt]
  rw [e1] at h3
  exact h3
theorem jm_xlen (hd : decode Y.2.1 pc = .ok (.arraylength, 1)) (hx : jm_xp E ≠ 0) (h : jm_G E Y R n' jm_N cs sl (pc + 1) L (jm_I 60 :: st) μ Q) : jm_G E Y R n' jm_N cs sl pc L (jm_R (jm_xp E : Int) :: st) μ Q := by
  intro p e s m args below meth c Z H locs ls C hZ hR hS hl hL hst
  obtain ⟨h1, f, h2⟩ := jm_xget hR hx
  have hz := h p e s m args below meth c Z H locs ls C hZ hR hS hl hL (jm_cons ⟨by omega, by omega⟩ (jm_tail hst))
  rw [List.map_cons] at hz
  rw [List.map_cons, jm_cvR]
  exact va_alen C.1 C.2.1 C.2.2.2.2.2.2.2.1 (jm_xP h2) 0 0 rfl rfl rfl hd hz
theorem jm_Rel_x {H H1 : Heap} (hR : jm_Rel E jm_N μ H) (hz : H1.size = H.size) (hx : jm_N ≤ jm_xp E) (oq : ∀ q : Nat, q ≠ jm_b E + jm_xp E → H1[q]? = H[q]?) (hc : ∃ f : Nat → Int32, va_at (jm_D E) jm_cl (jm_b E + jm_xp E, .inl (jm_cA E 0, 60, .inl f)) H1) : jm_Rel E jm_N μ H1 := by
  obtain ⟨hP, hO, h1, h2, h3, h4⟩ := hR
  refine ⟨fun j q hq => ?_, hO, h1, by rw [hz]; exact h2, fun z => absurd z (Nat.lt_irrefl _), fun _ => ⟨(h4 rfl).1, Or.inr ⟨hx, hc⟩⟩⟩
  have hj : j < jm_N := by
    have := (List.getElem?_eq_some_iff.mp hq).1
    rwa [jm_ws_len] at this
  rw [jm_ws_get hj] at hq
  cases hq
  exact (hP j _ (jm_ws_get hj)).kept (oq _ (show jm_b E + j ≠ jm_b E + jm_xp E by omega))
theorem jm_xstore {i x : Int} (hd : decode Y.2.1 pc = .ok (.iastore, 1)) (hx : jm_xp E ≠ 0) (hi : 0 ≤ i ∧ i < 60) (h : jm_G E Y R n' jm_N cs sl (pc + 1) L st μ Q) : jm_G E Y R n' jm_N cs sl pc L (jm_I x :: jm_I i :: jm_R (jm_xp E : Int) :: st) μ Q := by
  obtain ⟨j, rfl⟩ := jm_nat hi.1
  intro p e s m args below meth c Z H locs ls C hZ hR hS hl hL hst
  obtain ⟨h1, f, h2⟩ := jm_xget hR hx
  have hi' := hst _ (List.mem_cons_of_mem _ List.mem_cons_self)
  have hK : va_K (jm_D E) jm_cl (jm_tys E) s := C.2.2.2.2.2.2.2.1
  have hcell : H[jm_b E + jm_xp E]? = some (arrV (jm_cA E 0) 60 (fun q : Nat => .int (f q))) := h2
  rw [List.map_cons, List.map_cons, List.map_cons, jm_cvR]
  refine W.iast C.1 C.2.1 hcell ((hK.2 0 _ rfl).1 60 _) (fun q => by cases q) (by rw [arrV_size]; exact jm_vpin hi' (by omega)) rfl rfl hd fun H1 e1 z oq => ?_
  have ha : jm_A E (jm_b E + jm_xp E) := Nat.le_add_right _ _
  refine h p e s m args below meth c Z H1 _ ls C hZ (jm_Rel_x hR z h1 oq ⟨fun q => if q = (Int32.ofInt (j : Int)).toNatClampNeg then Int32.ofInt x else f q, ?_⟩) (hS.put z oq ha) hl hL (jm_tail (jm_tail2 hst))
  show H1[jm_b E + jm_xp E]? = some (vp_cell _ _)
  rw [e1, vp_cell_i, arrV_store]
  congr 2
  funext q
  unfold updV
  split <;> rfl
theorem jm_cv_x {z : Nat} : jm_cv (jm_setx E z) = jm_cv E := by
  funext v
  rcases v with v | v | v <;> rfl
theorem jm_lo_x {z : Nat} : ∀ (L : List (Option jm_V)) (k : Nat), jm_lo (jm_setx E z) k L = jm_lo E k L
  | [], _ => rfl
  | none :: t, k => jm_lo_x t (k + 1)
  | some v :: t, k => by
    show (k, jm_cv (jm_setx E z) v) :: jm_lo (jm_setx E z) (k + 1) t = (k, jm_cv E v) :: jm_lo E (k + 1) t
    rw [jm_lo_x t (k + 1), jm_cv_x]
theorem jm_Rel_back {z : Nat} {H : Heap} (hx : jm_xp E = 0) (h : jm_Rel (jm_setx E z) n μ H) : jm_Rel E n μ H := by
  obtain ⟨hP, hO, h1, h2, h3, h4⟩ := h
  exact ⟨hP, hO, h1, h2, fun q => ⟨(h3 q).1, hx⟩, fun q => ⟨(h4 q).1, Or.inl hx⟩⟩
theorem jm_newx (harr : Cond.arrayClass .int ∈ jm_tbl) (hx : jm_xp E = 0) (hd : decode Y.2.1 pc = .ok (.newarray .int, 2)) (hcells : cs + 1 ≤ R.cells) (hslots : sl + 60 ≤ R.slots)
    (h : ∀ z : Nat, jm_N ≤ z → jm_G (jm_setx E z) Y R n' jm_N (cs + 1) (sl + 60) (pc + 2) L (jm_R (z : Int) :: st) μ Q) : jm_G E Y R n' jm_N cs sl pc L (jm_I 60 :: st) μ Q := by
  intro p e s m args below meth cc Z H locs ls X hZ hR hS hl hL hst
  have hts := X.2.2.2.2.1
  have hK : va_K (jm_D E) jm_cl (jm_tys E) s := X.2.2.2.2.2.2.2.1
  have hsz := hR.2.2.2.1
  refine va_newaK (atype := .int) X.1 X.2.1 (hts _ harr) rfl hd rfl (n := Int32.ofInt 60) (N := 60) (by decide +kernel) (by decide +kernel) (by decide +kernel) hcells hslots rfl fun H1 cA e1 z1 o1 hAr hNm => ?_
  have hcA : cA = jm_cA E 0 := by
    have h4 := (hK.2 0 _ rfl).2
    exact Option.some.inj (hNm.symm.trans h4)
  have hz : jm_b E + (H.size - jm_b E) = H.size := by omega
  have hzN : jm_N ≤ H.size - jm_b E := by omega
  have h1 := h (H.size - jm_b E) hzN p e s m args below meth cc Z H1 locs ls X (fun o m1 H2 locs1 pc1 ls1 q1 q2 q3 q4 q5 q6 => by rw [jm_cv_x]; exact hZ o m1 H2 locs1 pc1 ls1 q1 q2 q3 (jm_Rel_back hx q4) q5 q6)
    ?_ ⟨by have := hS.1; omega, fun x g1 g2 => (o1 x (by have := hS.1; omega)).trans (hS.2.1 x g1 g2), hS.2.2⟩ (by rw [jm_lo_x]; exact hl) hL (jm_cons trivial (jm_tail hst))
  · rw [List.map_cons, jm_cv_x, jm_cvR, hz] at h1
    exact h1
  · obtain ⟨hP, hO, g1, g2, g3, g4⟩ := hR
    refine ⟨hP.kept fun k x hx => o1 x.1 ((hP k x hx).lt), hO, g1, by show jm_b E + jm_N ≤ H1.size; omega, fun q => absurd q (Nat.lt_irrefl _), fun _ => ⟨(g4 rfl).1, Or.inr ⟨hzN, fun _ => 0, ?_⟩⟩⟩
    show H1[jm_b E + (H.size - jm_b E)]? = some (vp_cell _ _)
    rw [hz, e1, vp_cell_i, hcA]
    rfl
end JMX
