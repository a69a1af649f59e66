/-! fields, new objects and rows, Term's constants, the script, copies of rows -/
section JMF
variable {E : jm_E} {Y : jm_Y} {R : Room} {n' n cs sl pc : Nat} {L : List (Option jm_V)} {st : List jm_V} {μ : jm_M} {Q : Option jm_V → jm_M → Prop}
theorem jm_cell_o {k c : Nat} (h : (jm_s k).1 = 1) (hc : (jm_s k).2 = c) : jm_cell E μ k = .inr (c, (List.range (jm_nf c)).map fun j : Nat => jm_cv E (jm_mk (jm_ft c j) (μ k j))) := by
  subst hc
  unfold jm_cell
  rw [if_pos h]
theorem jm_okc_o {k c j : Nat} (h1 : (jm_s k).1 = 1) (hc : (jm_s k).2 = c) (h : jm_okc μ k) (hj : j < jm_nf c) : jm_ok (jm_mk (jm_ft c j) (μ k j)) := by
  subst hc
  unfold jm_okc at h
  rw [if_pos h1] at h
  exact h j hj
theorem jm_fs_get {k c j : Nat} (hj : j < jm_nf c) : ((List.range (jm_nf c)).map fun j : Nat => jm_cv E (jm_mk (jm_ft c j) (μ k j)))[j]? = some (jm_cv E (jm_mk (jm_ft c j) (μ k j))) := by
  rw [List.getElem?_map, List.getElem?_range hj]
  rfl
theorem jm_getf {C : String} {T : u_T} {N c idx k : Nat} {a : Int} (hin : ∀ w ∈ u_ws C T N, w ∈ jm_tbl) (hc : jm_cl[c]? = some (C, T, N)) (hN : jm_nf c = N) (hk : k < N) (hlink : Cond.fieldLink Y.1.cls idx (T k).1 (T k).2.1 (T k).2.2.1 ∈ jm_tbl) (hd : decode Y.2.1 pc = .ok (.getfield idx, 3))
    (hx : jm_is n a 1 c) (h : jm_G E Y R n' n cs sl (pc + 3) L (jm_mk (jm_ft c k) (μ a k) :: st) μ Q) : jm_G E Y R n' n cs sl pc L (jm_R a :: st) μ Q := by
  obtain ⟨x1, x2, x3, x4⟩ := hx
  obtain ⟨q, rfl⟩ := jm_nat x1
  rw [jm_sk_nat] at x3
  rw [jm_sn_nat] at x4
  have hq : q < n := by omega
  intro p e s m args below meth cc Z H locs ls C hZ hR hS hl hL hst
  have hg := jm_ws_get (E := E) (m := μ) hq
  rw [jm_cell_o x3 x4] at hg
  rw [List.map_cons, jm_cvR]
  refine va_get C.1 C.2.1 C.2.2.2.2.1 hin C.2.2.2.1 C.2.2.2.2.2.2.2.1 hR.1 q hg hc k hk (C.2.2.2.2.1 _ hlink) (fun _ z => z) (jm_fs_get (by omega)) hd ?_
  exact h p e s m args below meth cc Z H locs ls C hZ hR hS hl hL (jm_cons (jm_okc_o x3 x4 (hR.2.1 q hq) (by omega)) (jm_tail hst))
/-- a field is written: what holds of the class -/
theorem jm_putf {C : String} {T : u_T} {N c idx k : Nat} {a x : Int} {v : jm_V} (ty0 : Nat → FieldType) (hin : ∀ w ∈ u_ws C T N, w ∈ jm_tbl) (hty : ∀ k, k < N → parseFieldDescriptor (T k).2.2.1 = some (ty0 k)) (hnm : ∀ a, a < N → ∀ b, b < N → a ≠ b → (T a).2.1 ≠ (T b).2.1) (hc : jm_cl[c]? = some (C, T, N)) (hN : jm_nf c = N) (hk : k < N)
    (hlink : Cond.fieldLink Y.1.cls idx (T k).1 (T k).2.1 (T k).2.2.1 ∈ jm_tbl) (hfin : (T k).2.2.2 = true → Y.1.name = "<init>" ∧ (T k).1 = Y.1.cls) (hd : decode Y.2.1 pc = .ok (.putfield idx, 3)) (hv : v = jm_mk (jm_ft c k) x) (hn : narrow (ty0 k) (jm_cv E v) = jm_cv E v) (hf : fits (ty0 k) (jm_cv E v) = true)
    (hwf : n = jm_N → jm_fin c k = false) (hx : jm_is n a 1 c) (h : jm_G E Y R n' n cs sl (pc + 3) L st (jm_up μ a k x) Q) : jm_G E Y R n' n cs sl pc L (v :: jm_R a :: st) μ Q := by
  obtain ⟨x1, x2, x3, x4⟩ := hx
  obtain ⟨q, rfl⟩ := jm_nat x1
  rw [jm_sk_nat] at x3
  rw [jm_sn_nat] at x4
  have hq : q < n := by omega
  subst hv
  intro p e s m args below meth cc Z H locs ls X hZ hR hS hl hL hst
  have hts := X.2.2.2.2.1
  have hown := X.2.2.2.1
  have hK : va_K (jm_D E) jm_cl (jm_tys E) s := X.2.2.2.2.2.2.2.1
  have hg := jm_ws_get (E := E) (m := μ) hq
  rw [jm_cell_o x3 x4] at hg
  have hap := va_apart (own := C) hts hin ty0 hty hnm hK hc
  obtain ⟨r, h1, cell, q1, q2, q3, q4⟩ := hR.1 q _ hg
  have hr : r = (C, T, N) := Option.some.inj (h1.symm.trans hc)
  subst hr
  obtain ⟨hSl, hfc, kC, hkC, hkind⟩ := hK.1 c _ hc
  obtain ⟨cf, kf, fi, f, hi, hsl⟩ := hSl k hk
  have hst0 := (u_facts hfc hkC (u_lays hts hin hk) hi).1
  rw [List.map_cons, List.map_cons, jm_cvR]
  have fin : ∀ (H1 : Heap), H1[jm_b E + q]? = some (cell.setSlot f.slot (jm_cv E (jm_mk (jm_ft c k) x))) → H1.size = H.size → (∀ z : Nat, z ≠ jm_b E + q → H1[z]? = H[z]?) →
      W p (jm_l E) e R s m args below meth cc H1 (locs ++ [⟨jm_b E + q, f.slot⟩]) cs sl Z (F0 m (pc + 3) ls (st.map (jm_cv E))) := by
    intro H1 e1 e2 e3
    have ha : jm_A E (jm_b E + q) := Nat.le_add_right _ _
    refine h p e s m args below meth cc Z H1 _ ls X hZ (jm_Rel_up hR hq e2 e3 ?_ ?_ (fun z => jm_frl_fld x4 (hwf z))) (hS.put e2 e3 ha) hl hL (jm_tail2 hst)
    · rw [jm_cell_o x3 x4]
      rw [hsl] at e1
      have hlen : k < ((List.range (jm_nf c)).map fun j : Nat => jm_cv E (jm_mk (jm_ft c j) (μ q j))).length := by
        rw [List.length_map, List.length_range]; omega
      refine ⟨_, hc, t_OB.to (V := updV (vp_V ((List.range (jm_nf c)).map fun j : Nat => jm_cv E (jm_mk (jm_ft c j) (μ q j)))) k (jm_cv E (jm_mk (jm_ft c k) x))) ⟨_, e1, q2, q3, t_set q4 hap hk _⟩ (fun j hj => ?_)⟩
      have hj2 : j < jm_nf c := by
        have : j < N := hj
        omega
      have r1 : vp_V ((List.range (jm_nf c)).map fun j : Nat => jm_cv E (jm_mk (jm_ft c j) (jm_up μ q k x q j))) j = jm_cv E (jm_mk (jm_ft c j) (jm_up μ q k x q j)) := by
        unfold vp_V
        rw [List.getD_eq_getElem?_getD, jm_fs_get hj2]
        rfl
      have r2 : vp_V ((List.range (jm_nf c)).map fun j : Nat => jm_cv E (jm_mk (jm_ft c j) (μ q j))) j = jm_cv E (jm_mk (jm_ft c j) (μ q j)) := by
        unfold vp_V
        rw [List.getD_eq_getElem?_getD, jm_fs_get hj2]
        rfl
      show updV _ k _ j = vp_V _ j
      rw [r1]
      unfold updV jm_up
      by_cases hjk : j = k
      · subst hjk; simp
      · have hz : ¬ (j : Int) = (k : Int) := by omega
        simp only [hjk, hz, if_false]
        exact r2
    · unfold jm_okc
      rw [if_pos x3, x4]
      intro j hj
      unfold jm_up
      by_cases hjk : (j : Int) = (k : Int)
      · have : j = k := by omega
        subst this
        rw [if_pos rfl, if_pos rfl]
        exact hst _ List.mem_cons_self
      · rw [if_neg hjk]
        exact jm_okc_o x3 x4 (hR.2.1 q hq) hj
  have hlay := hts _ (hin _ (u_in_lay hk))
  unfold u_lay at hlay
  have hl2 := hts _ hlink
  by_cases hfi : (T k).2.2.2 = true
  · rw [if_pos hfi] at hlay
    obtain ⟨f1, f2⟩ := hfin hfi
    have hcf : m.cls = cf := by
      obtain ⟨_, _, c', _, _, _, -, -, hf', -, -, -, hown2, -⟩ := Cond.laysFinal_spec hlay
      have e1 : c' = cf := by have := hi.symm.trans hf'; simp at this; exact this.1.symm
      rw [f2] at hown2
      rw [← e1]; exact Option.some.inj (hown.symm.trans hown2)
    have h6 := u_fits hfc hkC hkind (Or.inr hlay) hi (hty k hk) hn hf
    exact W.putFinK X.1 X.2.1 hown hl2 hi hst0 hcf (X.2.2.2.2.2.2.1.trans f1) (by rw [q2]; exact h6) q1 q3 (by rw [hsl]; exact k2_hasslot (q4 k hk)) rfl rfl hd fin
  · rw [if_neg hfi] at hlay
    have h6 := u_store hfc hkC hkind hlay hi (hty k hk) hn hf
    exact W.putK X.1 X.2.1 (f := f) ⟨hown, hl2, ⟨_, _, _, hi⟩, hst0⟩ (by rw [q2]; exact h6) q1 q3 (by rw [hsl]; exact k2_hasslot (q4 k hk)) rfl rfl hd fin
/-- what a new place holds -/
def jm_z (t : Nat) : Int := if t = 2 then -1 else 0
def jm_new (μ : jm_M) (n : Nat) : jm_M := fun q j => if q = (n : Int) then (if (jm_s n).1 = 1 then jm_z (jm_ft (jm_s n).2 j.toNat) else 0) else μ q j
theorem jm_new_ne {k : Nat} (h : k ≠ n) : jm_new μ n (k : Int) = μ k := by
  funext j
  unfold jm_new
  rw [if_neg (by omega)]
theorem jm_ws_push : jm_ws E (n + 1) (jm_new μ n) = jm_ws E n μ ++ [(jm_b E + n, jm_cell E (jm_new μ n) n)] := by
  unfold jm_ws
  rw [List.range_succ, List.map_append]
  congr 1
  apply List.map_congr_left
  intro k hk
  have h : k ≠ n := by have := List.mem_range.mp hk; omega
  have e : jm_new μ n (k : Int) = μ k := jm_new_ne h
  unfold jm_cell
  rw [e]
theorem jm_Rel_new {H H1 : Heap} (hR : jm_Rel E n μ H) (hn : n < jm_N) (z1 : H1.size = H.size + 1) (o1 : ∀ q : Nat, q < H.size → H1[q]? = H[q]?) (hc : va_at (jm_D E) jm_cl (jm_b E + n, jm_cell E (jm_new μ n) n) H1) (ho : jm_okc (jm_new μ n) n) (hw : n + 1 = jm_N → jm_WF (jm_new μ n)) : jm_Rel E (n + 1) (jm_new μ n) H1 := by
  obtain ⟨hP, hO, h1, h2, h3, h4⟩ := hR
  have hz := (h3 hn).1
  refine ⟨?_, fun j hj => ?_, hn, by omega, fun _ => ⟨by omega, (h3 hn).2⟩, fun z => ⟨hw z, Or.inl (h3 hn).2⟩⟩
  · rw [jm_ws_push]
    refine (hP.kept fun k x hx => o1 x.1 ((hP k x hx).lt)).app fun k x hx => ?_
    have hk0 : k < 1 := (List.getElem?_eq_some_iff.mp hx).1
    rw [show k = 0 by omega] at hx
    cases hx
    exact hc
  · by_cases e : j = n
    · subst e; exact ho
    · have h4 := hO j (by omega)
      have e2 : jm_new μ n (j : Int) = μ j := jm_new_ne e
      unfold jm_okc at h4 ⊢
      rw [e2]
      exact h4
theorem jm_newo {C : String} {T : u_T} {N c idx : Nat} (ty0 : Nat → FieldType) (hin : ∀ w ∈ u_ws C T N, w ∈ jm_tbl) (hty : ∀ k, k < N → parseFieldDescriptor (T k).2.2.1 = some (ty0 k)) (hc : jm_cl[c]? = some (C, T, N)) (hN : jm_nf c = N) (hz0 : ∀ k, k < N → defaultValue (ty0 k) = jm_cv E (jm_mk (jm_ft c k) (jm_z (jm_ft c k))))
    (hcl : Cond.classLink Y.1.cls idx C ∈ jm_tbl) (hinst : Cond.instantiable C N ∈ jm_tbl) (hini : Cond.initialized C ∈ jm_tbl) (hd : decode Y.2.1 pc = .ok (.new idx, 3)) (hs : jm_s n = (1, c)) (hn : n < jm_N) (hcells : cs + 1 ≤ R.cells) (hslots : sl + N ≤ R.slots) (hwf : n + 1 = jm_N → jm_WF (jm_new μ n))
    (h : jm_G E Y R n' (n + 1) (cs + 1) (sl + N) (pc + 3) L (jm_R n :: st) (jm_new μ n) Q) : jm_G E Y R n' n cs sl pc L st μ Q := by
  intro p e s m args below meth cc Z H locs ls X hZ hR hS hl hL hst
  have hts := X.2.2.2.2.1
  have hK : va_K (jm_D E) jm_cl (jm_tys E) s := X.2.2.2.2.2.2.2.1
  have hKn := hK.1 c _ hc
  have hsz := (hR.2.2.2.2.1 hn).1
  refine W.newcK X.1 X.2.1 X.2.2.2.1 (hts _ hcl) (hts _ hinst) (hts _ hini) rfl hd hcells hslots hKn.2.1 hsz fun H1 kC hkC e1 z1 o1 => ?_
  rw [← jm_cvR]
  refine h p e s m args below meth cc Z H1 locs ls X hZ (jm_Rel_new hR hn (by omega) (fun q hq => o1 q (by omega)) ?_ ?_ hwf) ⟨by have := hS.1; omega, fun x h1 h2 => (o1 x (by have := hS.1; omega)).trans (hS.2.1 x h1 h2), hS.2.2⟩ hl hL (jm_cons trivial hst)
  · rw [jm_cell_o (c := c) (by rw [hs]) (by rw [hs])]
    refine ⟨_, hc, (u_born ty0 hts hin hKn hkC e1 hty).to (fun j hj => ?_)⟩
    have hj2 : j < jm_nf c := by have : j < N := hj; omega
    have r1 : vp_V ((List.range (jm_nf c)).map fun j : Nat => jm_cv E (jm_mk (jm_ft c j) (jm_new μ n n j))) j = jm_cv E (jm_mk (jm_ft c j) (jm_new μ n n j)) := by
      unfold vp_V
      rw [List.getD_eq_getElem?_getD, jm_fs_get hj2]
      rfl
    show defaultValue (ty0 j) = vp_V _ j
    rw [r1, hz0 j hj]
    unfold jm_new
    rw [if_pos rfl, hs, if_pos rfl]
    rfl
  · unfold jm_okc
    rw [if_pos (by rw [hs])]
    intro j hj
    unfold jm_new
    rw [if_pos rfl, if_pos (by rw [hs])]
    show jm_ok (jm_mk (jm_ft (jm_s n).2 j) (jm_z (jm_ft (jm_s n).2 j)))
    unfold jm_mk jm_z
    split
    · rename_i h0; rw [if_neg (by omega)]; exact ⟨by omega, by omega⟩
    · split
      · rename_i h0; rw [if_neg (by omega)]; exact ⟨by omega, by omega⟩
      · exact trivial
/-- a new row of numbers -/
theorem jm_newa {t N : Nat} {at0 : ArrayType} {ty : FieldType} {k : Int} (hty : newarray.typeOf at0 = ty) (ht : (t = 2 ∧ ty = .int) ∨ (t = 3 ∧ ty = .long) ∨ (t = 4 ∧ ty = .byte)) (harr : Cond.arrayClass ty ∈ jm_tbl) (hd : decode Y.2.1 pc = .ok (.newarray at0, 2)) (hs : jm_s n = (t, N)) (hn : n < jm_N) (hk : k = N) (hN : N < 65536) (hcells : cs + 1 ≤ R.cells) (hslots : sl + N ≤ R.slots) (hwf : n + 1 = jm_N → jm_WF (jm_new μ n))
    (h : jm_G E Y R n' (n + 1) (cs + 1) (sl + N) (pc + 2) L (jm_R n :: st) (jm_new μ n) Q) : jm_G E Y R n' n cs sl pc L (jm_I k :: st) μ Q := by
  intro p e s m args below meth cc Z H locs ls X hZ hR hS hl hL hst
  have hts := X.2.2.2.2.1
  have hK : va_K (jm_D E) jm_cl (jm_tys E) s := X.2.2.2.2.2.2.2.1
  have hsz := (hR.2.2.2.2.1 hn).1
  have hko : jm_ok (jm_I (N : Int)) := ⟨by omega, by omega⟩
  subst hk
  subst hty
  have hby : N * componentBytes (newarray.typeOf at0) ≤ 536870912 := by
    have : componentBytes (newarray.typeOf at0) ≤ 8 := by
      rcases ht with ⟨-, q⟩ | ⟨-, q⟩ | ⟨-, q⟩ <;> (rw [q]; decide +kernel)
    have := Nat.mul_le_mul_left N this
    omega
  refine va_newaK X.1 X.2.1 (hts _ harr) rfl hd rfl (n := Int32.ofInt (N : Int)) (N := N) (fun z => by have := (jm_lt32 hko jm_0ok).mp z; omega) (jm_clamp hko) hby hcells hslots hsz fun H1 cA e1 z1 o1 hAr hNm => ?_
  rw [← jm_cvR]
  have hcA : cA = jm_cA E (if t = 3 then 1 else t - 2) := by
    have key : ∀ (i : Nat) (ty : FieldType), (jm_tys E)[i]? = some (jm_cA E i, ty) → ty = newarray.typeOf at0 → (∀ C, ty ≠ .object C) → cA = jm_cA E i := by
      intro i ty h1 h2 h3
      have h4 := (hK.2 i _ h1).2
      have h5 : s.vm.findClass ("[" ++ ty.toString) = some (jm_cA E i) := by
        cases ty with
        | object C => exact absurd rfl (h3 C)
        | _ => exact h4
      rw [h2] at h5
      exact Option.some.inj (hNm.symm.trans h5)
    rcases ht with ⟨rfl, q⟩ | ⟨rfl, q⟩ | ⟨rfl, q⟩
    · exact key 0 .int rfl q.symm (fun C z => by cases z)
    · exact key 1 .long rfl q.symm (fun C z => by cases z)
    · exact key 2 .byte rfl q.symm (fun C z => by cases z)
  refine h p e s m args below meth cc Z H1 locs ls X hZ (jm_Rel_new hR hn (by omega) (fun q hq => o1 q (by omega)) ?_ ?_ hwf) ⟨by have := hS.1; omega, fun x h1 h2 => (o1 x (by have := hS.1; omega)).trans (hS.2.1 x h1 h2), hS.2.2⟩ hl hL (jm_cons trivial (jm_tail hst))
  · by_cases h3 : t = 3
    · rw [jm_cell_l (by rw [hs]; exact h3)]
      show H1[jm_b E + n]? = some (vp_cell _ _)
      rw [e1, vp_cell_l, hcA, if_pos h3]
      rw [hs]
      rcases ht with ⟨q, -⟩ | ⟨-, q⟩ | ⟨q, -⟩ <;> try omega
      rw [q]
      congr 2
      funext j
      unfold jm_new
      rw [if_pos rfl, hs, if_neg (by omega)]
      rfl
    · have t1 : (jm_s n).1 ≠ 1 := by rw [hs]; show t ≠ 1; omega
      have t3 : (jm_s n).1 ≠ 3 := by rw [hs]; exact h3
      rw [jm_cell_a t1 t3]
      show H1[jm_b E + n]? = some (vp_cell _ _)
      rw [e1, vp_cell_i, hcA, if_neg h3]
      rw [hs]
      have hdv : defaultValue (newarray.typeOf at0) = .int 0 := by
        rcases ht with ⟨-, q⟩ | ⟨q, -⟩ | ⟨-, q⟩ <;> first | omega | (rw [q]; rfl)
      rw [hdv]
      congr 2
      funext j
      unfold jm_new
      rw [if_pos rfl, if_neg t1]
      rfl
  · unfold jm_okc
    have t1 : (jm_s n).1 ≠ 1 := by rw [hs]; show t ≠ 1; omega
    have e0 : ∀ j : Nat, jm_new μ n n j = 0 := by
      intro j
      unfold jm_new
      rw [if_pos rfl, if_neg t1]
    rw [if_neg t1]
    split <;> intro j hj <;> rw [e0] <;> exact ⟨by omega, by omega⟩
end JMF
