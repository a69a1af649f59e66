/-! the heap: rows of numbers, fields -/
/-- a place that is made: an object of a class -/
def jm_is (n : Nat) (a : Int) (k c : Nat) : Prop := 0 ≤ a ∧ a < n ∧ jm_sk a = k ∧ jm_sn a = c
/-- an index within a row -/
def jm_ix (n : Nat) (a : Int) (k : Nat) (i : Int) : Prop := 0 ≤ a ∧ a < n ∧ jm_sk a = k ∧ 0 ≤ i ∧ i < jm_sn a
section JMH
variable {E : jm_E} {Y : jm_Y} {R : Room} {n' n cs sl pc : Nat} {L : List (Option jm_V)} {st : List jm_V} {μ : jm_M} {Q : Option jm_V → jm_M → Prop}
theorem jm_cvR (k : Nat) : jm_cv E (jm_R (k : Int)) = .ref (jm_b E + k) := by
  show (if (k : Int) = -1 then Value.null else Value.ref (jm_ad E k)) = _
  rw [if_neg (by omega)]
  unfold jm_ad
  rw [if_pos (by omega)]
  rfl
theorem jm_clamp {j : Nat} (h : jm_ok (jm_I (j : Int))) : (Int32.ofInt (j : Int)).toNatClampNeg = j := by
  show (Int32.ofInt (j : Int)).toInt.toNat = j
  rw [jm_ti h]
  rfl
theorem jm_vpin {j N : Nat} (h : jm_ok (jm_I (j : Int))) (hj : j < N) : vp_in (Int32.ofInt (j : Int)) N := by
  rw [vp_in_iff, jm_ti h]
  omega
theorem jm_sk_nat (k : Nat) : jm_sk (k : Int) = (jm_s k).1 := by
  unfold jm_sk
  rw [if_neg (by omega)]
  rfl
theorem jm_sn_nat (k : Nat) : jm_sn (k : Int) = (jm_s k).2 := by
  unfold jm_sn
  rw [if_neg (by omega)]
  rfl
theorem jm_nat {a : Int} (h : 0 ≤ a) : ∃ k : Nat, a = k := ⟨a.toNat, by omega⟩
theorem jm_Rel_up {H H1 : Heap} {k : Nat} {i v : Int} (hR : jm_Rel E n μ H) (hk : k < n) (hz : H1.size = H.size) (oq : ∀ q : Nat, q ≠ jm_b E + k → H1[q]? = H[q]?) (hc : va_at (jm_D E) jm_cl (jm_b E + k, jm_cell E (jm_up μ k i v) k) H1) (ho : jm_okc (jm_up μ k i v) k) (hw : n = jm_N → ∀ q ∈ jm_frl, ¬ (q.1 = (k : Int) ∧ q.2.1 = i)) : jm_Rel E n (jm_up μ k i v) H1 := by
  obtain ⟨hP, hO, h1, h2, h3, h4⟩ := hR
  refine ⟨fun j q hq => ?_, fun j hj => ?_, h1, by rw [hz]; exact h2, fun z => by rw [hz]; exact h3 z, fun z => ⟨fun q hq => ?_, (h4 z).2.kept fun q q1 _ => oq q (by omega)⟩⟩
  · have hj : j < n := by
      have := (List.getElem?_eq_some_iff.mp hq).1
      rwa [jm_ws_len] at this
    rw [jm_ws_get hj] at hq
    cases hq
    by_cases e : j = k
    · subst e; exact hc
    · rw [jm_up_cell e]
      exact (hP j _ (jm_ws_get hj)).kept (oq _ (show jm_b E + j ≠ jm_b E + k by omega))
  · by_cases e : j = k
    · subst e; exact ho
    · exact jm_up_okc e (hO j hj)
  · have h5 := (h4 z).1 q hq
    have h6 := hw z q hq
    unfold jm_up
    by_cases e1 : q.2.1 = i
    · rw [if_pos e1, if_neg (fun e2 => h6 ⟨e2, e1⟩)]
      exact h5
    · rw [if_neg e1]
      exact h5
theorem jm_frl_arr {k : Nat} (h : (jm_s k).1 ≠ 1) {i : Int} : ∀ q ∈ jm_frl, ¬ (q.1 = (k : Int) ∧ q.2.1 = i) := by
  intro q hq ⟨e1, _⟩
  have h1 := (jm_frl_ok q hq).2.2.1
  rw [e1] at h1
  exact h h1
theorem jm_frl_fld {k c j : Nat} (hc : (jm_s k).2 = c) (h : jm_fin c j = false) : ∀ q ∈ jm_frl, ¬ (q.1 = (k : Int) ∧ q.2.1 = (j : Int)) := by
  intro q hq ⟨e1, e2⟩
  have h1 := (jm_frl_ok q hq).2.2.2
  rw [e1, e2] at h1
  have e3 : ((k : Int).toNat) = k := rfl
  have e4 : ((j : Int).toNat) = j := rfl
  rw [e3, e4, hc, h] at h1
  cases h1
theorem jm_cell_a {k : Nat} (h1 : (jm_s k).1 ≠ 1) (h3 : (jm_s k).1 ≠ 3) : jm_cell E μ k = .inl (jm_cA E ((jm_s k).1 - 2), (jm_s k).2, .inl fun j : Nat => Int32.ofInt (μ k j)) := by
  unfold jm_cell
  rw [if_neg h1, if_neg h3]
theorem jm_cell_l {k : Nat} (h3 : (jm_s k).1 = 3) : jm_cell E μ k = .inl (jm_cA E 1, (jm_s k).2, .inr (.inl fun j : Nat => Int64.ofInt (μ k j))) := by
  unfold jm_cell
  rw [if_neg (by omega), if_pos h3]
theorem jm_okc_a {k j : Nat} (h1 : (jm_s k).1 ≠ 1) (h3 : (jm_s k).1 ≠ 3) (h : jm_okc μ k) (hj : j < (jm_s k).2) : jm_ok (jm_I (μ k j)) := by
  unfold jm_okc at h
  rw [if_neg h1, if_neg h3] at h
  exact h j hj
theorem jm_okc_l {k j : Nat} (h3 : (jm_s k).1 = 3) (h : jm_okc μ k) (hj : j < (jm_s k).2) : jm_ok (jm_L (μ k j)) := by
  unfold jm_okc at h
  rw [if_neg (by omega), if_pos h3] at h
  exact h j hj
/-- a row of numbers is read -/
theorem jm_ald {t : Nat} {a i : Int} (ht : t = 2 ∨ t = 4 ∨ t = 5) (hx : jm_ix n a t i) (h : jm_G E Y R n' n cs sl (pc + 1) L (jm_I (μ a i) :: st) μ Q)
    (hw : ∀ (p : Program) (e : Env) (s : State) (m : MethodId) (args : Array Value) (below : List Frame) (meth : Method) (c : Code) (Z : State → Prop) (H : Heap) (locs : List Loc) (ls : Array Slot) (rest : List Value), p.tables.exec = Jvm.exec → c.code = Y.2.1 → va_K (jm_D E) jm_cl (jm_tys E) s → va_P (jm_D E) jm_cl (jm_ws E n μ) H → ∀ (q0 : Nat) (ad N : Nat) (f : Nat → Int32) (x : Int32), (jm_ws E n μ)[q0]? = some (ad, .inl (jm_cA E (t - 2), N, .inl f)) → vp_in x N →
      W p (jm_l E) e R s m args below meth c H locs cs sl Z (F0 m (pc + 1) ls (.int (f x.toNatClampNeg) :: rest)) → W p (jm_l E) e R s m args below meth c H locs cs sl Z (F0 m pc ls (.int x :: .ref ad :: rest))) :
    jm_G E Y R n' n cs sl pc L (jm_I i :: jm_R a :: st) μ Q := by
  obtain ⟨x1, x2, x3, x4, x5⟩ := hx
  obtain ⟨k, rfl⟩ := jm_nat x1
  obtain ⟨j, rfl⟩ := jm_nat x4
  rw [jm_sk_nat] at x3
  rw [jm_sn_nat] at x5
  have hk : k < n := by omega
  have hj : j < (jm_s k).2 := by omega
  have t1 : (jm_s k).1 ≠ 1 := by omega
  have t3 : (jm_s k).1 ≠ 3 := by omega
  intro p e s m args below meth c Z H locs ls C hZ hR hS hl hL hst
  have hi := hst _ List.mem_cons_self
  have hg := jm_ws_get (E := E) (m := μ) hk
  rw [jm_cell_a t1 t3, x3] at hg
  have h1 := hw p e s m args below meth c Z H locs ls (st.map (jm_cv E)) C.1 C.2.1 C.2.2.2.2.2.2.2.1 hR.1 k _ _ _ (Int32.ofInt j) hg (jm_vpin hi hj)
  rw [List.map_cons, List.map_cons, jm_cvR]
  refine h1 ?_
  rw [jm_clamp hi]
  exact h p e s m args below meth c Z H locs ls C hZ hR hS hl hL (jm_cons (jm_okc_a t1 t3 (hR.2.1 k hk) hj) (jm_tail2 hst))
theorem jm_iaload {a i : Int} (hd : decode Y.2.1 pc = .ok (.iaload, 1)) (hx : jm_ix n a 2 i) (h : jm_G E Y R n' n cs sl (pc + 1) L (jm_I (μ a i) :: st) μ Q) : jm_G E Y R n' n cs sl pc L (jm_I i :: jm_R a :: st) μ Q :=
  jm_ald (Or.inl rfl) hx h (fun p e s m args below meth c Z H locs ls rest he hb hK hP q0 ad N f x hg hin w => va_iald he hb hK hP q0 0 hg rfl hin hd w)
theorem jm_baload {a i : Int} (hd : decode Y.2.1 pc = .ok (.baload, 1)) (hx : jm_ix n a 4 i) (h : jm_G E Y R n' n cs sl (pc + 1) L (jm_I (μ a i) :: st) μ Q) : jm_G E Y R n' n cs sl pc L (jm_I i :: jm_R a :: st) μ Q :=
  jm_ald (Or.inr (Or.inl rfl)) hx h (fun p e s m args below meth c Z H locs ls rest he hb hK hP q0 ad N f x hg hin w => va_bald he hb hK hP q0 2 hg rfl hin hd w)
theorem jm_laload {a i : Int} (hd : decode Y.2.1 pc = .ok (.laload, 1)) (hx : jm_ix n a 3 i) (h : jm_G E Y R n' n cs sl (pc + 1) L (jm_L (μ a i) :: st) μ Q) : jm_G E Y R n' n cs sl pc L (jm_I i :: jm_R a :: st) μ Q := by
  obtain ⟨x1, x2, x3, x4, x5⟩ := hx
  obtain ⟨k, rfl⟩ := jm_nat x1
  obtain ⟨j, rfl⟩ := jm_nat x4
  rw [jm_sk_nat] at x3
  rw [jm_sn_nat] at x5
  have hk : k < n := by omega
  have hj : j < (jm_s k).2 := by omega
  intro p e s m args below meth c Z H locs ls C hZ hR hS hl hL hst
  have hi := hst _ List.mem_cons_self
  have hg := jm_ws_get (E := E) (m := μ) hk
  rw [jm_cell_l x3] at hg
  rw [List.map_cons, List.map_cons, jm_cvR]
  refine va_lald C.1 C.2.1 C.2.2.2.2.2.2.2.1 hR.1 k 1 hg rfl (jm_vpin hi hj) hd ?_
  rw [jm_clamp hi]
  exact h p e s m args below meth c Z H locs ls C hZ hR hS hl hL (jm_cons (jm_okc_l x3 (hR.2.1 k hk) hj) (jm_tail2 hst))
/-- a row of numbers is written -/
theorem jm_ast {t : Nat} {a i v x : Int} (ht : t = 2 ∨ t = 4 ∨ t = 5) (hx : jm_ix n a t i) (hv : jm_ok (jm_I x) → jm_ok (jm_I v)) (h : jm_G E Y R n' n cs sl (pc + 1) L st (jm_up μ a i v) Q)
    (hw : ∀ (p : Program) (e : Env) (s : State) (m : MethodId) (args : Array Value) (below : List Frame) (meth : Method) (c : Code) (Z : State → Prop) (H : Heap) (locs : List Loc) (ls : Array Slot) (rest : List Value), p.tables.exec = Jvm.exec → c.code = Y.2.1 → va_K (jm_D E) jm_cl (jm_tys E) s → ∀ (ad N : Nat) (f : Nat → Int32) (j : Int32), H[ad]? = some (arrV (jm_cA E (t - 2)) N (fun j => .int (f j))) → vp_in j N →
      (∀ H1 : Heap, H1[ad]? = some ((arrV (jm_cA E (t - 2)) N (fun j => .int (f j))).setSlot j.toNatClampNeg (.int (Int32.ofInt v))) → H1.size = H.size → (∀ q, q ≠ ad → H1[q]? = H[q]?) → W p (jm_l E) e R s m args below meth c H1 (locs ++ [⟨ad, j.toNatClampNeg⟩]) cs sl Z (F0 m (pc + 1) ls rest)) → W p (jm_l E) e R s m args below meth c H locs cs sl Z (F0 m pc ls (.int (Int32.ofInt x) :: .int j :: .ref ad :: rest))) :
    jm_G E Y R n' n cs sl pc L (jm_I x :: jm_I i :: jm_R a :: st) μ Q := by
  obtain ⟨x1, x2, x3, x4, x5⟩ := hx
  obtain ⟨k, rfl⟩ := jm_nat x1
  obtain ⟨j, rfl⟩ := jm_nat x4
  rw [jm_sk_nat] at x3
  rw [jm_sn_nat] at x5
  have hk : k < n := by omega
  have hj : j < (jm_s k).2 := by omega
  have t1 : (jm_s k).1 ≠ 1 := by omega
  have t3 : (jm_s k).1 ≠ 3 := by omega
  intro p e s m args below meth c Z H locs ls C hZ hR hS hl hL hst
  have hi := hst _ (List.mem_cons_of_mem _ List.mem_cons_self)
  have hg := jm_ws_get (E := E) (m := μ) hk
  rw [jm_cell_a t1 t3, x3] at hg
  have hcell : H[jm_b E + k]? = some (arrV (jm_cA E (t - 2)) (jm_s k).2 (fun q : Nat => .int (Int32.ofInt (μ k q)))) := hR.1 k _ hg
  rw [List.map_cons, List.map_cons, List.map_cons, jm_cvR]
  refine hw p e s m args below meth c Z H locs ls (st.map (jm_cv E)) C.1 C.2.1 C.2.2.2.2.2.2.2.1 _ _ (fun q : Nat => Int32.ofInt (μ k q)) (Int32.ofInt j) hcell (jm_vpin hi hj) fun H1 e1 z oq => ?_
  rw [jm_clamp hi] at e1 ⊢
  have ha : jm_A E (jm_b E + k) := Nat.le_add_right _ _
  refine h p e s m args below meth c Z H1 _ ls C hZ (jm_Rel_up hR hk z oq ?_ ?_ (fun _ => jm_frl_arr (by omega))) (hS.put z oq ha) hl hL (jm_tail (jm_tail2 hst))
  · show va_at _ _ (jm_b E + k, jm_cell E (jm_up μ k j v) k) H1
    rw [jm_cell_a t1 t3, x3]
    show H1[jm_b E + k]? = some (vp_cell _ _)
    rw [e1, vp_cell_i, arrV_store]
    congr 2
    funext q
    unfold updV jm_up
    by_cases hq : q = j
    · subst hq; simp
    · have hq2 : ¬ (q : Int) = (j : Int) := by omega
      simp [hq, hq2]
  · unfold jm_okc
    rw [if_neg t1, if_neg t3]
    intro q hq
    unfold jm_up
    by_cases hqj : (q : Int) = (j : Int)
    · rw [if_pos hqj, if_pos rfl]
      exact hv (hst _ List.mem_cons_self)
    · rw [if_neg hqj]
      exact jm_okc_a t1 t3 (hR.2.1 k hk) hq
theorem jm_iastore {a i x : Int} (hd : decode Y.2.1 pc = .ok (.iastore, 1)) (hx : jm_ix n a 2 i) (h : jm_G E Y R n' n cs sl (pc + 1) L st (jm_up μ a i x) Q) : jm_G E Y R n' n cs sl pc L (jm_I x :: jm_I i :: jm_R a :: st) μ Q :=
  jm_ast (Or.inl rfl) hx id h (fun p e s m args below meth c Z H locs ls rest he hb hK ad N f j hc hin w =>
    W.iast he hb hc ((hK.2 0 _ rfl).1 N _) (fun q => by cases q) (by rw [arrV_size]; exact hin) rfl rfl hd w)
theorem jm_bastore {a i x : Int} (hd : decode Y.2.1 pc = .ok (.bastore, 1)) (hx : jm_ix n a 4 i) (h : jm_G E Y R n' n cs sl (pc + 1) L st (jm_up μ a i (jm_i2b x)) Q) : jm_G E Y R n' n cs sl pc L (jm_I x :: jm_I i :: jm_R a :: st) μ Q :=
  jm_ast (Or.inr (Or.inl rfl)) hx (fun _ => jm_ok32 _) h (fun p e s m args below meth c Z H locs ls rest he hb hK ad N f j hc hin w =>
    W.bast he hb hc ((hK.2 2 _ rfl).1 N _) (fun q => by cases q) (by rw [arrV_size]; exact hin) rfl rfl hd (fun H1 e1 => w H1 (by rw [e1, jm_ofToInt]; rfl)))
theorem jm_nz {x : Int} (h : x = 0 ∨ x = 1) : narrow .boolean (.int (Int32.ofInt x)) = .int (Int32.ofInt x) := by
  rcases h with rfl | rfl <;> decide +kernel
theorem jm_fz {x : Int} (h : x = 0 ∨ x = 1) : fits .boolean (.int (Int32.ofInt x)) = true := by
  rcases h with rfl | rfl <;> decide +kernel
theorem jm_lastore {a i x : Int} (hd : decode Y.2.1 pc = .ok (.lastore, 1)) (hx : jm_ix n a 3 i) (h : jm_G E Y R n' n cs sl (pc + 1) L st (jm_up μ a i x) Q) : jm_G E Y R n' n cs sl pc L (jm_L x :: jm_I i :: jm_R a :: st) μ Q := by
  obtain ⟨x1, x2, x3, x4, x5⟩ := hx
  obtain ⟨k, rfl⟩ := jm_nat x1
  obtain ⟨j, rfl⟩ := jm_nat x4
  rw [jm_sk_nat] at x3
  rw [jm_sn_nat] at x5
  have hk : k < n := by omega
  have hj : j < (jm_s k).2 := by omega
  intro p e s m args below meth c Z H locs ls C hZ hR hS hl hL hst
  have hi := hst _ (List.mem_cons_of_mem _ List.mem_cons_self)
  have hg := jm_ws_get (E := E) (m := μ) hk
  rw [jm_cell_l x3] at hg
  have hcell := hR.1 k _ hg
  have hK : va_K (jm_D E) jm_cl (jm_tys E) s := C.2.2.2.2.2.2.2.1
  rw [List.map_cons, List.map_cons, List.map_cons, jm_cvR]
  refine W.last C.1 C.2.1 hcell ((hK.2 1 _ rfl).1 _ _) (fun q => by cases q) (by rw [vp_cell_l, arrV_size]; exact jm_vpin hi hj) rfl rfl hd fun H1 e1 z oq => ?_
  rw [jm_clamp hi] at e1 ⊢
  have ha : jm_A E (jm_b E + k) := Nat.le_add_right _ _
  refine h p e s m args below meth c Z H1 _ ls C hZ (jm_Rel_up hR hk z oq ?_ ?_ (fun _ => jm_frl_arr (by omega))) (hS.put z oq ha) hl hL (jm_tail (jm_tail2 hst))
  · rw [jm_cell_l x3]
    show H1[jm_b E + k]? = some (vp_cell _ _)
    rw [e1, vp_cell_l, vp_cell_l, arrV_store]
    congr 2
    funext q
    unfold updV jm_up
    by_cases hq : q = j
    · subst hq; simp
    · have hq2 : ¬ (q : Int) = (j : Int) := by omega
      simp [hq, hq2]
  · unfold jm_okc
    rw [if_neg (by omega), if_pos x3]
    intro q hq
    unfold jm_up
    by_cases hqj : (q : Int) = (j : Int)
    · rw [if_pos hqj, if_pos rfl]
      exact hst _ List.mem_cons_self
    · rw [if_neg hqj]
      exact jm_okc_l x3 (hR.2.1 k hk) hq
theorem jm_arrlen {a : Int} {t : Nat} (ht : t = 2 ∨ t = 3) (hx : 0 ≤ a ∧ a < n ∧ jm_sk a = t) (hd : decode Y.2.1 pc = .ok (.arraylength, 1)) (hn : jm_sn a < 2147483648) (h : jm_G E Y R n' n cs sl (pc + 1) L (jm_I (jm_sn a) :: st) μ Q) : jm_G E Y R n' n cs sl pc L (jm_R a :: st) μ Q := by
  obtain ⟨x1, x2, x3⟩ := hx
  obtain ⟨k, rfl⟩ := jm_nat x1
  rw [jm_sk_nat] at x3
  have hk : k < n := by omega
  intro p e s m args below meth c Z H locs ls C hZ hR hS hl hL hst
  have hK : va_K (jm_D E) jm_cl (jm_tys E) s := C.2.2.2.2.2.2.2.1
  have hg := jm_ws_get (E := E) (m := μ) hk
  have hz := h p e s m args below meth c Z H locs ls C hZ hR hS hl hL (jm_cons ⟨by omega, by omega⟩ (jm_tail hst))
  rw [List.map_cons] at hz
  rw [List.map_cons, jm_cvR]
  rw [jm_sn_nat] at hz
  rcases ht with rfl | rfl
  · rw [jm_cell_a (by omega) (by omega), x3] at hg
    exact va_alen C.1 C.2.1 hK hR.1 k 0 hg rfl rfl hd hz
  · rw [jm_cell_l x3] at hg
    exact va_alen C.1 C.2.1 hK hR.1 k 1 hg rfl rfl hd hz
end JMH
