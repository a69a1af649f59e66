/-! contracts: a method called in an abstract memory -/
def jm_Pc (E : jm_E) (n : Nat) (av : List jm_V) (μ : jm_M) : Array Value → State → Prop := fun v U => v = (av.map (jm_cv E)).toArray ∧ jm_Rel E n μ U.heap ∧ va_K (jm_D E) jm_cl (jm_tys E) U ∧ jm_X E U U.heap ∧ jm_b E ≤ U.heap.size
def jm_Qc (E : jm_E) (Y : jm_Y) (n' : Nat) (Q : Option jm_V → jm_M → Prop) : Array Value → State → Outcome → State → Prop := fun _ st oc t =>
  ∃ (o : Option jm_V) (m1 : jm_M), oc = .returned (o.map (jm_cv E)) ∧ (∀ v, o = some v → jm_ok v) ∧ jm_rok Y.2.2.2 o ∧ Q o m1 ∧ jm_Rel E n' m1 t.heap ∧ st.heap.size ≤ t.heap.size ∧ ∀ q : Nat, q < st.heap.size → ¬ jm_A E q → t.heap[q]? = st.heap[q]?
def jm_Cl (E : jm_E) (Y : jm_Y) (d n n' mc ms : Nat) (av : List jm_V) (μ : jm_M) (Q : Option jm_V → jm_M → Prop) : Prop :=
  (∀ v ∈ av, jm_ok v) → Met (jm_l E) Y.1 (Cond.code Y.1 Y.2.1 Y.2.2.1 Y.2.2.2 :: jm_tbl) (jm_rm d mc ms) (jm_Pc E n av μ) (jm_Qc E Y n' Q) mc ms (jm_A E)
/-- a method's locals at its entry -/
def jm_en : List jm_V → List (Option jm_V)
  | [] => []
  | v :: t => if jm_lg v then some v :: none :: jm_en t else some v :: jm_en t
theorem jm_goodIn {y : MethodName} {b : ByteArray} {k : Nat} {r : Option FieldType} (h : Cond.code y b k r ∈ jm_tbl) : GoodIn jm_tbl (Cond.code y b k r :: jm_tbl) := by
  intro w hw
  have hm : w ∈ jm_tbl := by
    rcases List.mem_cons.mp hw with h1 | h1
    · rw [h1]; exact h
    · exact h1
  exact ⟨hm, good_of_word (List.mem_filter.mp hm).2⟩
section JMM
variable {E : jm_E} {Y : jm_Y} {R : Room} {n' n cs sl pc : Nat} {L : List (Option jm_V)} {st : List jm_V} {μ : jm_M} {Q : Option jm_V → jm_M → Prop}
theorem jm_en_args : ∀ (av : List jm_V) (k r : Nat), ∀ q ∈ jm_lo E k (jm_en av ++ List.replicate r none), q ∈ lv_args k (av.map (jm_cv E))
  | [], k, r, q, h => by
    obtain ⟨i, v, -, h2⟩ := jm_lo_inv _ _ _ h
    rw [show jm_en [] ++ List.replicate r (none : Option jm_V) = List.replicate r none from rfl] at h2
    have h3 := List.mem_of_getElem? h2
    have h4 := (List.mem_replicate.mp h3).2
    cases h4
  | v :: t, k, r, q, h => by
    rw [List.map_cons]
    unfold lv_args
    by_cases hv : jm_lg v = true
    · have e1 : jm_en (v :: t) = some v :: none :: jm_en t := by rw [jm_en, if_pos hv]
      rw [e1] at h
      have hc : (jm_cv E v).category = 2 := by
        rcases v with v | v | v
        · simp [jm_lg] at hv
        · rfl
        · simp [jm_lg] at hv
      rw [if_pos hc]
      rcases List.mem_cons.mp h with h1 | h1
      · rw [h1]; exact List.mem_cons_self
      · exact List.mem_cons_of_mem _ (jm_en_args t (k + 1 + 1) r q h1)
    · have e1 : jm_en (v :: t) = some v :: jm_en t := by rw [jm_en, if_neg hv]
      rw [e1] at h
      have hc : ¬ (jm_cv E v).category = 2 := fun z => hv (jm_cat2 z)
      rw [if_neg hc]
      rcases List.mem_cons.mp h with h1 | h1
      · rw [h1]; exact List.mem_cons_self
      · exact List.mem_cons_of_mem _ (jm_en_args t (k + 1) r q h1)
theorem jm_en_ok : ∀ (av : List jm_V) (r : Nat), (∀ v ∈ av, jm_ok v) → ∀ (i : Nat) (v : jm_V), (jm_en av ++ List.replicate r none)[i]? = some (some v) → jm_ok v
  | [], r, h, i, v, h2 => by
    rw [show jm_en [] ++ List.replicate r (none : Option jm_V) = List.replicate r none from rfl] at h2
    have h4 := (List.mem_replicate.mp (List.mem_of_getElem? h2)).2
    cases h4
  | w :: t, r, h, i, v, h2 => by
    have ht := jm_en_ok t r (jm_tail h)
    by_cases hv : jm_lg w = true
    · have e1 : jm_en (w :: t) = some w :: none :: jm_en t := by rw [jm_en, if_pos hv]
      rw [e1] at h2
      match i, h2 with
      | 0, h2 => have : w = v := by simpa using h2
                 rw [← this]; exact h _ List.mem_cons_self
      | 1, h2 => simp at h2
      | i + 2, h2 => exact ht i v (by simpa using h2)
    · have e1 : jm_en (w :: t) = some w :: jm_en t := by rw [jm_en, if_neg hv]
      rw [e1] at h2
      match i, h2 with
      | 0, h2 => have : w = v := by simpa using h2
                 rw [← this]; exact h _ List.mem_cons_self
      | i + 1, h2 => exact ht i v (by simpa using h2)
/-- returns -/
theorem jm_ret {o : Option jm_V} (hd : decode Y.2.1 pc = .ok (jm_ri o, 1)) (hn : n = n') (hc : cs ≤ R.cells ∧ sl ≤ R.slots) (hr : jm_rok Y.2.2.2 o) (h : Q o μ) (hs : st = o.toList) : jm_G E Y R n' n cs sl pc L st μ Q := by
  subst hn; subst hs
  intro p e s m args below meth c Z H locs ls C hZ hR hS hl hL hst
  have h1 := hZ o μ H locs pc ls h (fun v hv => hst v (by rw [hv]; exact List.mem_cons_self)) hr hR hS hd
  have e1 : (o.map (jm_cv E)).toList = o.toList.map (jm_cv E) := by cases o <;> rfl
  rw [e1] at h1
  exact W.widen hc.1 hc.2 h1
/-- a contract out of a walk of the body -/
theorem jm_Cl.of {d mc ms : Nat} {av : List jm_V} (hy : plainName Y.1.cls = true) (hlen : (lg_sl (av.map (jm_cv E))).length ≤ Y.2.2.1) (h : (∀ v ∈ av, jm_ok v) → jm_G E Y (jm_rm d mc ms) n' n 0 0 0 (jm_en av ++ List.replicate (Y.2.2.1 - (jm_en av).length) none) [] μ Q) : jm_Cl E Y d n n' mc ms av μ Q := by
  intro hav
  refine Met.ofW (cc := Y.2.1) (maxL := Y.2.2.1) (ret := Y.2.2.2) hy rfl ?_
  intro p e s m args below meth c s₁ B hml hv
  obtain ⟨rfl, hR, hK, hX, hb⟩ := hv
  have hts := atoms_spec (ws := Cond.code Y.1 Y.2.1 Y.2.2.1 Y.2.2.2 :: jm_tbl) B.pre
  have hown : s.vm.findClass Y.1.cls = some m.cls := findClass_of_methodNamed B.named
  have hlocks := B.notSynchronized
  have hin : meth.name = Y.1.name := (name_of_methodNamed B.named B.method).1
  have hl := lv_entry (av.map (jm_cv E)) (n := Y.2.2.1) hlen
  rw [lg_entry_eq]
  have C : jm_ctx E Y p s m (av.map (jm_cv E)).toArray meth c := ⟨B.exec, B.bytes, hml, hown, fun w hw => hts w (List.mem_cons_of_mem _ hw), B.returns, hin, hK, hX, hb⟩
  refine h hav p e s m _ below meth c _ s.heap [] _ C ?_ hR va_S.rf (jm_lv_mono hl (jm_en_args av 0 _)) (jm_en_ok av _ hav) (fun v hv => by cases hv)
  intro o m1 H1 locs1 pc1 ls1 hQ ho hrok hR1 hS1 hdg
  have hf : ∀ q ∈ locs1, jm_A E q.base := hS1.2.2
  have post : ∀ t : State, t.heap = H1 → ∀ v : Option Value, v = o.map (jm_cv E) → jm_Qc E Y n' Q (av.map (jm_cv E)).toArray s (.returned v) t := fun t ht v hv => ⟨o, m1, by rw [hv], ho, hrok, hQ, by rw [ht]; exact hR1, by rw [ht]; exact hS1.1, fun q q1 q2 => by rw [ht]; exact hS1.2.1 q q1 q2⟩
  have hret := B.returns
  rcases hrok with ⟨r1, r2⟩ | ⟨r1, x, r2⟩ | ⟨r1, x, r2, r3⟩ | ⟨r1, x, r2⟩ | ⟨⟨nm, r1⟩, x, r2⟩ | ⟨ty, -, r1, x, r2, r3⟩ <;> subst r2 <;> rw [r1] at hret
  · exact W.vret (cells := mc) (slots := ms) (R := jm_rm d mc ms) B.exec B.bytes hret (fun t ht _ => post t ht _ rfl) hf hdg
  · exact W.iret (cells := mc) (slots := ms) (R := jm_rm d mc ms) B.exec B.bytes hret (fun t ht _ => post t ht _ rfl) hf hdg
  · exact W.zret (cells := mc) (slots := ms) (R := jm_rm d mc ms) B.exec B.bytes hret (jm_nz r3) (fun t ht _ => post t ht _ rfl) hf hdg
  · exact W.lret (cells := mc) (slots := ms) (R := jm_rm d mc ms) B.exec B.bytes hret (fun t ht _ => post t ht _ rfl) hf hdg
  · have hcv : jm_cv E (jm_R x) = .null ∨ ∃ a, jm_cv E (jm_R x) = .ref a := by
      show (if x = -1 then Value.null else Value.ref (jm_ad E x)) = .null ∨ ∃ a, (if x = -1 then Value.null else Value.ref (jm_ad E x)) = .ref a
      split
      · exact Or.inl rfl
      · exact Or.inr ⟨_, rfl⟩
    exact W.aret (cells := mc) (slots := ms) (R := jm_rm d mc ms) B.exec B.bytes hret (Or.inl ⟨nm, rfl⟩) hcv (fun t ht _ => post t ht _ rfl) hf hdg
  · exact W.zret (cells := mc) (slots := ms) (R := jm_rm d mc ms) B.exec B.bytes hret r3 (fun t ht _ => post t ht _ rfl) hf hdg
/-- behind a call -/
theorem jm_after {Y' : jm_Y} {n1 mc ms : Nat} {Q' : Option jm_V → jm_M → Prop} {p : Program} {e : Env} {s : State} {m : MethodId} {args a : Array Value} {below : List Frame} {meth : Method} {c : Code} {Z : State → Prop} {H : Heap} {locs : List Loc} {ls : Array Slot} {rest st0 : List Value}
    (hr : va_Run p (jm_l E) e R s m args below meth c H locs cs sl mc ms (F0 m pc ls st0) rest (jm_Qc E Y' n1 Q' a) (jm_A E)) (hS : va_S (jm_A E) s.heap H locs)
    (kk : ∀ (o : Option jm_V) (m1 : jm_M) (H1 : Heap) (locs1 : List Loc), Q' o m1 → (∀ v, o = some v → jm_ok v) → jm_rok Y'.2.2.2 o → jm_Rel E n1 m1 H1 → va_S (jm_A E) s.heap H1 locs1 → W p (jm_l E) e R s m args below meth c H1 locs1 (cs + mc) (sl + ms) Z (F0 m (pc + 3) ls ((o.map (jm_cv E)).toList ++ rest))) :
    W p (jm_l E) e R s m args below meth c H locs cs sl Z (F0 m pc ls st0) := by
  intro T hT X
  obtain ⟨v, st₀, t, T', L, h0, X', hL, e1, e2, ⟨o, m1, hv, ho, hrok, hq, hR1, hz, hk⟩, stp⟩ := hr T hT X
  cases hv
  rw [h0] at hz hk
  obtain ⟨t2, a1, b1⟩ := kk o m1 T'.heap (locs ++ L) hq ho hrok (by rw [e1]; exact hR1)
    ⟨Nat.le_trans hS.1 (by rw [e1]; exact hz), fun q h1 h2 => by rw [e1, hk q (Nat.lt_of_lt_of_le h1 hS.1) h2]; exact hS.2.1 q h1 h2, fun q hq => by
      rcases List.mem_append.mp hq with h | h
      · exact hS.2.2 q h
      · exact hL q h⟩ T' rfl X'
  exact ⟨t2, stp t2 a1, b1⟩
theorem jm_blind {av : List jm_V} : FrameBlind (jm_Pc E n av μ) := by
  intro a U g mk q
  obtain ⟨q1, q2, q3, q4, q5⟩ := q
  exact ⟨q1, q2, va_K.moved (u := U) (U := U.calling g mk a) (Vm.Alike.refl U.vm) q3, jm_X.moved (u := U) (U := U.calling g mk a) (State.WarmedH.refl U) q4, q5⟩
theorem jm_enter {p : Program} {s : State} {m : MethodId} {args : Array Value} {meth : Method} {c : Code} {H : Heap} {locs : List Loc} {av : List jm_V} (C : jm_ctx E Y p s m args meth c) (hR : jm_Rel E n μ H) (hS : va_S (jm_A E) s.heap H locs) : ∀ U : State, U.heap = H → s.WarmedH U.vm → jm_Pc E n av μ (av.map (jm_cv E)).toArray U := by
  intro U hU hW
  have hX : jm_X E s s.heap := C.2.2.2.2.2.2.2.2.1
  have hb : jm_b E ≤ s.heap.size := C.2.2.2.2.2.2.2.2.2
  refine ⟨rfl, by rw [hU]; exact hR, va_K.moved hW.alike C.2.2.2.2.2.2.2.1, ?_, by rw [hU]; exact Nat.le_trans hb hS.1⟩
  rw [hU]
  exact (hX.kept hb hS.2.1).moved hW
/-- a callee: its rows of the tables -/
def jm_wC (Y : jm_Y) (k : Nat) : Prop := Cond.code Y.1 Y.2.1 Y.2.2.1 Y.2.2.2 ∈ jm_tbl ∧ Cond.initialized Y.1.cls ∈ jm_tbl ∧ (Y.1.cls ≠ "java/lang/invoke/MethodHandle" ∧ Y.1.cls ≠ "java/lang/invoke/VarHandle" ∧ (parseMethodDescriptor Y.1.desc).map (fun d => d.parameters.length) = some k) ∧ Y.2.2.1 ≤ 25
def jm_wV (Y : jm_Y) (k : Nat) : Prop := jm_wC Y k ∧ Cond.instanceMethod Y.1 ∈ jm_tbl ∧ Cond.selects Y.1.cls Y.1 Y.1 ∈ jm_tbl
def jm_wS (Y : jm_Y) (k : Nat) : Prop := jm_wC Y k ∧ Cond.static Y.1 ∈ jm_tbl
def jm_wI (Y : jm_Y) (k : Nat) : Prop := jm_wC Y k ∧ Y.2.2.2 = none ∧ Y.1.name = "<init>" ∧ Cond.instanceMethod Y.1 ∈ jm_tbl
theorem jm_callB {Y' : jm_Y} {k d mc ms idx C2 S2 : Nat} {s : State} {args : Array Value} (hw : jm_wC Y' k) (hts : ∀ w ∈ jm_tbl, w.before args s = true) (hlink : Cond.methodLink Y.1.cls idx Y'.1 ∈ jm_tbl) :
    CallB (jm_rm (d + 1) C2 S2) s args Y.1.cls idx Y'.1 Y'.2.1 Y'.2.2.1 Y'.2.2.2 (Cond.code Y'.1 Y'.2.1 Y'.2.2.1 Y'.2.2.2 :: jm_tbl) (jm_rm d mc ms) mc ms k :=
  callB_of k hts (jm_goodIn hw.1) rfl rfl rfl (hts _ hw.2.1) (hts _ hlink) hw.2.2.1 ⟨Nat.le_refl _, by have := hw.2.2.2; show 8 + (Y'.2.2.1 + 11) + 44 * d ≤ 44 * (d + 1); omega⟩
theorem jm_catsum : ∀ (st : List jm_V), st.length ≤ 4 → ((st.map (jm_cv E)).map fun v => v.category).sum ≤ 8 := by
  have key : ∀ (st : List jm_V), ((st.map (jm_cv E)).map fun v => v.category).sum ≤ 2 * st.length := by
    intro st
    induction st with
    | nil => simp
    | cons v t ih =>
      rw [List.map_cons, List.map_cons, List.sum_cons, List.length_cons]
      have : (jm_cv E v).category ≤ 2 := by
        rcases lv_cat (jm_cv E v) with h | h <;> omega
      omega
  intro st h
  have := key st
  omega
theorem jm_map_app (av : List jm_V) (v : jm_V) : (av.reverse ++ v :: st).map (jm_cv E) = (av.map (jm_cv E)).reverse ++ jm_cv E v :: st.map (jm_cv E) := by
  rw [List.map_append, List.map_cons, List.map_reverse]
theorem jm_okav {av : List jm_V} {v : jm_V} (h : ∀ w ∈ av.reverse ++ v :: st, jm_ok w) : ∀ w ∈ v :: av, jm_ok w := by
  intro w hw
  rcases List.mem_cons.mp hw with h1 | h1
  · exact h w (by rw [h1]; simp)
  · exact h w (by simp [h1])
theorem jm_okst {av : List jm_V} {o : Option jm_V} (h : ∀ w ∈ av ++ st, jm_ok w) (ho : ∀ v, o = some v → jm_ok v) : ∀ w ∈ o.toList ++ st, jm_ok w := by
  intro w hw
  rcases List.mem_append.mp hw with h1 | h1
  · cases o with
    | none => cases h1
    | some v =>
      have : w = v := by simpa using h1
      rw [this]; exact ho v rfl
  · exact h w (List.mem_append_right _ h1)
theorem jm_invV {Y' : jm_Y} {idx k n1 mc ms d C2 S2 cc : Nat} {av : List jm_V} {a : Int} {stf : List jm_V} (hw : jm_wV Y' k) (hlink : Cond.methodLink Y.1.cls idx Y'.1 ∈ jm_tbl) (hd : decode Y.2.1 pc = .ok (.invokevirtual idx, 3)) (hlen : av.length = k) (hx : jm_is n a 1 cc) (hcn : ∃ T N, jm_cl[cc]? = some (Y'.1.cls, T, N)) (hroom : cs + mc ≤ C2 ∧ sl + ms ≤ S2) (hrest : st.length ≤ 4) (hst : stf = av.reverse ++ jm_R a :: st)
    (h : jm_Cl E Y' d n n1 mc ms (jm_R a :: av) μ (fun o m1 => jm_rok Y'.2.2.2 o → jm_G E Y (jm_rm (d + 1) C2 S2) n' n1 (cs + mc) (sl + ms) (pc + 3) L (o.toList ++ st) m1 Q)) : jm_G E Y (jm_rm (d + 1) C2 S2) n' n cs sl pc L stf μ Q := by
  subst hst
  obtain ⟨x1, x2, x3, x4⟩ := hx
  obtain ⟨q, rfl⟩ := jm_nat x1
  rw [jm_sk_nat] at x3
  rw [jm_sn_nat] at x4
  have hq : q < n := by omega
  intro p e s m args below meth c Z H locs ls C hZ hR hS hl hL hst
  have hts := C.2.2.2.2.1
  have hg := jm_ws_get (E := E) (m := μ) hq
  rw [jm_cell_o x3 x4] at hg
  obtain ⟨T, N, hcn⟩ := hcn
  have hM := h (jm_okav hst)
  rw [jm_map_app, jm_cvR]
  refine jm_after (va_runV (As := av.map (jm_cv E)) (rest := st.map (jm_cv E)) (C := Y'.1.cls) ⟨C.1, C.2.1, C.2.2.1, C.2.2.2.1, hts⟩ hM ⟨jm_callB hw.1 hts hlink, hts _ hw.2.1, hts _ hw.2.2⟩ ⟨jm_blind, va_recv C.2.2.2.2.2.2.2.1 hR.1 hcn hg, ?_⟩ rfl (by rw [List.length_map]; exact hlen) hl.1 rfl (lv_room (jm_catsum st hrest)) hd hroom) hS (fun o m1 H1 locs1 hQ ho hrok hR1 hS1 => ?_)
  · have := jm_enter (av := jm_R (q : Int) :: av) C hR hS
    rw [List.map_cons, jm_cvR] at this
    exact this
  · have h2 := hQ hrok p e s m args below meth c Z H1 locs1 ls C hZ hR1 hS1 hl hL (jm_okst (av := av.reverse ++ [jm_R (q : Int)]) (by rw [List.append_assoc]; exact hst) ho)
    rw [List.map_append] at h2
    have e1 : (o.map (jm_cv E)).toList = o.toList.map (jm_cv E) := by cases o <;> rfl
    rw [e1]
    exact h2
theorem jm_invS {Y' : jm_Y} {idx k n1 mc ms d C2 S2 : Nat} {av : List jm_V} {stf : List jm_V} (hw : jm_wS Y' k) (hlink : Cond.methodLink Y.1.cls idx Y'.1 ∈ jm_tbl) (hd : decode Y.2.1 pc = .ok (.invokestatic idx, 3)) (hlen : av.length = k) (hroom : cs + mc ≤ C2 ∧ sl + ms ≤ S2) (hrest : st.length ≤ 4) (hst : stf = av.reverse ++ st)
    (h : jm_Cl E Y' d n n1 mc ms av μ (fun o m1 => jm_rok Y'.2.2.2 o → jm_G E Y (jm_rm (d + 1) C2 S2) n' n1 (cs + mc) (sl + ms) (pc + 3) L (o.toList ++ st) m1 Q)) : jm_G E Y (jm_rm (d + 1) C2 S2) n' n cs sl pc L stf μ Q := by
  subst hst
  intro p e s m args below meth c Z H locs ls C hZ hR hS hl hL hst
  have hts := C.2.2.2.2.1
  have hM := h (fun w hw => hst w (List.mem_append_left _ (List.mem_reverse.mpr hw)))
  rw [List.map_append, List.map_reverse]
  refine jm_after (va_runS (As := av.map (jm_cv E)) (rest := st.map (jm_cv E)) ⟨C.1, C.2.1, C.2.2.1, C.2.2.2.1, hts⟩ hM ⟨jm_callB hw.1 hts hlink, hts _ hw.2⟩ ⟨jm_blind, jm_enter C hR hS⟩ rfl (by rw [List.length_map]; exact hlen) hl.1 rfl (lv_room (jm_catsum st hrest)) hd hroom) hS (fun o m1 H1 locs1 hQ ho hrok hR1 hS1 => ?_)
  have h2 := hQ hrok p e s m args below meth c Z H1 locs1 ls C hZ hR1 hS1 hl hL (jm_okst hst ho)
  rw [List.map_append] at h2
  have e1 : (o.map (jm_cv E)).toList = o.toList.map (jm_cv E) := by cases o <;> rfl
  rw [e1]
  exact h2
theorem jm_invI {Y' : jm_Y} {idx k n1 mc ms d C2 S2 : Nat} {av : List jm_V} {a : Int} {stf : List jm_V} (hw : jm_wI Y' k) (hlink : Cond.methodLink Y.1.cls idx Y'.1 ∈ jm_tbl ∨ ∃ host, Cond.methodLinkNest Y.1.cls idx Y'.1 host ∈ jm_tbl) (hd : decode Y.2.1 pc = .ok (.invokespecial idx, 3)) (hlen : av.length = k) (hx : 0 ≤ a) (hroom : cs + mc ≤ C2 ∧ sl + ms ≤ S2) (hrest : st.length ≤ 4) (hst : stf = av.reverse ++ jm_R a :: st)
    (h : jm_Cl E Y' d n n1 mc ms (jm_R a :: av) μ (fun o m1 => jm_rok Y'.2.2.2 o → jm_G E Y (jm_rm (d + 1) C2 S2) n' n1 (cs + mc) (sl + ms) (pc + 3) L (o.toList ++ st) m1 Q)) : jm_G E Y (jm_rm (d + 1) C2 S2) n' n cs sl pc L stf μ Q := by
  subst hst
  obtain ⟨q, rfl⟩ := jm_nat hx
  obtain ⟨y1, b1, ml1, rt1⟩ := Y'
  have hrt : rt1 = none := hw.2.1
  subst hrt
  intro p e s m args below meth c Z H locs ls C hZ hR hS hl hL hst
  have hts := C.2.2.2.2.1
  have hM := h (jm_okav hst)
  rw [jm_map_app, jm_cvR]
  have hen := jm_enter (av := jm_R (q : Int) :: av) C hR hS
  rw [List.map_cons, jm_cvR] at hen
  have hlast : ∀ (o : Option jm_V) (m1 : jm_M) (H1 : Heap) (locs1 : List Loc), (jm_rok (none : Option FieldType) o → jm_G E Y (jm_rm (d + 1) C2 S2) n' n1 (cs + mc) (sl + ms) (pc + 3) L (o.toList ++ st) m1 Q) → (∀ v, o = some v → jm_ok v) → jm_rok (none : Option FieldType) o → jm_Rel E n1 m1 H1 → va_S (jm_A E) s.heap H1 locs1 → W p (jm_l E) e (jm_rm (d + 1) C2 S2) s m args below meth c H1 locs1 (cs + mc) (sl + ms) Z (F0 m (pc + 3) ls ((o.map (jm_cv E)).toList ++ st.map (jm_cv E))) := by
    intro o m1 H1 locs1 hQ ho hrok hR1 hS1
    have h2 := hQ hrok p e s m args below meth c Z H1 locs1 ls C hZ hR1 hS1 hl hL (jm_okst (av := av.reverse ++ [jm_R (q : Int)]) (by rw [List.append_assoc]; exact hst) ho)
    rw [List.map_append] at h2
    have e1 : (o.map (jm_cv E)).toList = o.toList.map (jm_cv E) := by cases o <;> rfl
    rw [e1]
    exact h2
  rcases hlink with hlink | ⟨host, hlink⟩
  · have hcb := jm_callB (Y := Y) (d := d) (mc := mc) (ms := ms) (C2 := C2) (S2 := S2) hw.1 hts hlink
    exact jm_after (va_runI (As := av.map (jm_cv E)) (rest := st.map (jm_cv E)) ⟨C.1, C.2.1, C.2.2.1, C.2.2.2.1, hts⟩ hM ⟨hcb, hw.2.2.1, hts _ hw.2.2.2⟩ ⟨jm_blind, hen⟩ rfl (by rw [List.length_map]; exact hlen) hl.1 rfl (lv_room (jm_catsum st hrest)) hd hroom) hS hlast
  · have hcb : va_CN (jm_rm (d + 1) C2 S2) s args Y.1.cls idx y1 host b1 ml1 (none : Option FieldType) (Cond.code y1 b1 ml1 (none : Option FieldType) :: jm_tbl) (jm_rm d mc ms) mc ms k :=
      va_cnB k hts (jm_goodIn hw.1.1) rfl rfl rfl (hts _ hlink) (hts _ hw.1.2.1) hw.1.2.2.1 ⟨Nat.le_refl _, by have h25 : ml1 ≤ 25 := hw.1.2.2.2; show 8 + (ml1 + 11) + 44 * d ≤ 44 * (d + 1); omega⟩
    exact jm_after (va_runIN (As := av.map (jm_cv E)) (rest := st.map (jm_cv E)) ⟨C.1, C.2.1, C.2.2.1, C.2.2.2.1, hts⟩ hM ⟨hcb, hw.2.2.1, hts _ hw.2.2.2⟩ ⟨jm_blind, hen⟩ rfl (by rw [List.length_map]; exact hlen) hl.1 rfl (lv_room (jm_catsum st hrest)) hd hroom) hS hlast
theorem jm_objInit {idx d C2 S2 : Nat} {a : Int} (hlink : Cond.methodLink Y.1.cls idx Lib.objectInit ∈ jm_tbl) (hinst : Cond.instanceMethod Lib.objectInit ∈ jm_tbl) (hcode : Cond.code Lib.objectInit ⟨#[0xb1]⟩ 1 none ∈ jm_tbl) (hd : decode Y.2.1 pc = .ok (.invokespecial idx, 3)) (hx : 0 ≤ a) (hrest : st.length ≤ 4) (h : jm_G E Y (jm_rm (d + 1) C2 S2) n' n cs sl (pc + 3) L st μ Q) : jm_G E Y (jm_rm (d + 1) C2 S2) n' n cs sl pc L (jm_R a :: st) μ Q := by
  obtain ⟨q, rfl⟩ := jm_nat hx
  intro p e s m args below meth c Z H locs ls C hZ hR hS hl hL hst
  have hts := C.2.2.2.2.1
  rw [List.map_cons, jm_cvR]
  refine W.objInit C.1 C.2.1 C.2.2.2.1 (hts _ hlink) (hts _ hinst) (hts _ hcode) rfl (by rw [C.2.2.1]; exact hl.1) (rest := st.map (jm_cv E)) rfl hd (by show 1 ≤ d + 1; omega) (by have := jm_catsum (E := E) st hrest; show 2 * 0 + _ + 12 ≤ 44 * (d + 1); omega) ?_
  exact h p e s m args below meth c Z H locs ls C hZ hR hS hl hL (jm_tail hst)
end JMM
