/-! kind and word: what the class answers or throws, and what the law's own calls of them make of it -/
def jm_Ch (E : jm_E) (Y : jm_Y) (hh : List (Nat × Nat × Nat × Nat)) (d : Nat) (av : List jm_V) (μ : jm_M) (Q : Option jm_V → jm_M → Prop) : Prop :=
  (∀ v ∈ av, jm_ok v) → Met (jm_l E) Y.1 (Cond.codeWith Y.1 Y.2.1 Y.2.2.1 Y.2.2.2 hh :: jm_tbl) (jm_rm d 1 6) (jm_Pc E jm_N av μ) (jm_Qc E Y jm_N Q) 1 6 (jm_A E)
section KW
variable {E : jm_E} {Y : jm_Y} {R : Room} {n' n cs sl pc : Nat} {K : jm_K} {L : List (Option jm_V)} {st : List jm_V} {μ : jm_M} {Q : Option jm_V → jm_M → Prop}
theorem jm_Ch_of {d : Nat} {hh : List (Nat × Nat × Nat × Nat)} {av : List jm_V} {L0 : List (Option jm_V)} (hy : plainName Y.1.cls = true) (hL : jm_en av ++ List.replicate (Y.2.2.1 - (jm_en av).length) none = L0) (hlen : (jm_en av).length ≤ Y.2.2.1)
    (h : ∀ (p : Program) (e : Env) (s : State) (m : MethodId) (args : Array Value) (below : List Frame) (meth : Method) (c : Code), jm_Kc E Y (p, e, s, m, args, below, meth, c, MQ below (jm_Qc E Y jm_N Q) args s 1 6 (jm_A E)) → c.exceptionTable.toList = tableOf hh → jm_Kz E Y (jm_rm d 1 6) jm_N Q (p, e, s, m, args, below, meth, c, MQ below (jm_Qc E Y jm_N Q) args s 1 6 (jm_A E)) → jm_P E Y (jm_rm d 1 6) jm_N 0 0 (p, e, s, m, args, below, meth, c, MQ below (jm_Qc E Y jm_N Q) args s 1 6 (jm_A E)) 0 L0 [] μ) : jm_Ch E Y hh d av μ Q := by
  intro hav
  refine MetFree.of_bodyS (code := Y.2.1) (maxLocals := Y.2.2.1) (ret := Y.2.2.2) hy ?_ ?_
  · intro args s m h hn
    obtain ⟨m9, meth, c, hn9, h1, h2, h3, h4, -, h5, h6, -⟩ := Cond.codeWith_spec (atoms_spec (ws := Cond.codeWith Y.1 Y.2.1 Y.2.2.1 Y.2.2.2 hh :: jm_tbl) h _ List.mem_cons_self)
    cases hn.symm.trans hn9
    exact ⟨meth, c, h1, h2, h3, h4, h5, h6⟩
  · intro p e s m args below meth c s₁ B hml hv _
    have hh0 : s₁.heap = s.heap := by rw [B.state]; rfl
    have ht := vx_table (x := Y.1) B (atoms_spec (ws := Cond.codeWith Y.1 Y.2.1 Y.2.2.1 Y.2.2.2 hh :: jm_tbl) B.pre _ List.mem_cons_self)
    obtain ⟨rfl, hR, hK, hX, hb⟩ := hv
    have hl := lv_entry (av.map (jm_cv E)) (n := Y.2.2.1) (by rw [jm_sl_len]; exact hlen)
    have w : W p (jm_l E) e (jm_rm d 1 6) s m (av.map (jm_cv E)).toArray below meth c s.heap [] 0 0 (MQ below (jm_Qc E Y jm_N Q) (av.map (jm_cv E)).toArray s 1 6 (jm_A E)) (entryFrame m (av.map (jm_cv E)).toArray Y.2.2.1) := by
      rw [lg_entry_eq]
      refine h p e s m _ below meth c (jm_ctx_of B hml hK hX hb) ht (jm_HZ_of B) s.heap [] _ hR va_S.rf ?_ ?_ (fun v hv => by cases hv)
      · rw [← hL]; exact jm_lv_mono hl (jm_en_args av 0 _)
      · rw [← hL]; exact jm_en_ok av _ hav
    obtain ⟨t, a1, o, b1, b2, b3⟩ := w s₁ hh0 (Stand.of_body B)
    exact ⟨t, o, a1, b1, b2, ⟨b3.1, b3.2⟩⟩
/-- a call that returns or throws -/
theorem jp_invX (C : jm_Kc E Y K) {Y' : jm_Y} {idx k d C2 S2 cc : Nat} {av : List jm_V} {a : Int} {stf : List jm_V} {Q' : Option jm_V → jm_M → Prop} {Qx : jm_M → Prop} (hw : jm_wV Y' k) (hlink : Cond.methodLink Y.1.cls idx Y'.1 ∈ jm_tbl) (hd : decode Y.2.1 pc = .ok (.invokevirtual idx, 3)) (hlen : av.length = k) (hx : jm_is jm_N a 1 cc) (hcn : ∃ T N, jm_cl[cc]? = some (Y'.1.cls, T, N)) (hroom : cs + 1 ≤ C2 ∧ sl + 6 ≤ S2) (hrest : st.length ≤ 4) (hst : stf = av.reverse ++ jm_R a :: st)
    (h : jm_Cx E Y' d (jm_R a :: av) μ Q' Qx)
    (kk : ∀ (o : Option jm_V) (m1 : jm_M), Q' o m1 → jm_rok Y'.2.2.2 o → jm_P E Y (jm_rm (d + 1) C2 S2) jm_N (cs + 1) (sl + 6) K (pc + 3) L (o.toList ++ st) m1)
    (kx : ∀ (m1 : jm_M) (q : Addr) (ce : Cell) (H1 : Heap) (locs1 : List Loc) (ls : Array Slot), Qx m1 → jm_Rel E jm_N m1 H1 → va_S (jm_A E) K.2.2.1.heap H1 locs1 → lv_has ls Y.2.2.1 (jm_lo E 0 L) → (∀ (i : Nat) (v : jm_V), L[i]? = some (some v) → jm_ok v) → H1[q]? = some ce → ce.vm = .none → K.2.2.1.vm.findClass jm_nx = some ce.cls →
      vx_W K.1 (jm_l E) K.2.1 (jm_rm (d + 1) C2 S2) K.2.2.1 K.2.2.2.1 K.2.2.2.2.1 K.2.2.2.2.2.1 K.2.2.2.2.2.2.1 K.2.2.2.2.2.2.2.1 H1 locs1 (cs + 1) (sl + 6) K.2.2.2.2.2.2.2.2 (F0 K.2.2.2.1 pc ls (st.map (jm_cv E))) q) :
    jm_P E Y (jm_rm (d + 1) C2 S2) jm_N cs sl K pc L stf μ := by
  subst hst
  obtain ⟨x1, x2, x3, x4⟩ := hx
  obtain ⟨q, rfl⟩ := jm_nat x1
  rw [jm_sk_nat] at x3
  rw [jm_sn_nat] at x4
  have hq : q < jm_N := by omega
  intro H locs ls hR hS hl hL hst
  have hts := C.2.2.2.2.1
  have hg := jm_ws_get (E := E) (m := μ) hq
  rw [jm_cell_o x3 x4] at hg
  obtain ⟨T9, N9, hcn⟩ := hcn
  have hM := h (jm_okav hst)
  rw [jm_map_app, jm_cvR]
  have hr := vx_runV (e := K.2.1) (below := K.2.2.2.2.2.1) (meth := K.2.2.2.2.2.2.1) (As := av.map (jm_cv E)) (rest := st.map (jm_cv E)) (C := Y'.1.cls) (cells := cs) (slots := sl) (R := jm_rm (d + 1) C2 S2) (locs := locs) ⟨C.1, C.2.1, C.2.2.1, C.2.2.2.1, hts⟩ hM ⟨jm_callB hw.1 hts hlink, hts _ hw.2.1, hts _ hw.2.2⟩ ⟨jm_blind, va_recv C.2.2.2.2.2.2.2.1 hR.1 hcn hg, by
    have := jm_enter (av := jm_R (q : Int) :: av) C hR hS
    rw [List.map_cons, jm_cvR] at this
    exact this⟩ (g := F0 K.2.2.2.1 pc ls ((av.map (jm_cv E)).reverse ++ .ref (jm_b E + q) :: st.map (jm_cv E))) rfl (by rw [List.length_map]; exact hlen) hl.1 rfl (lv_room (jm_catsum st hrest)) hd hroom
  intro T hT X
  rcases hr T hT X with ⟨v, st₀, t, T', L2, h0, X', hL2, e1, e2, ⟨o, m1, hv, ho, hrok, hq2, hR1, hz, hk⟩, stp⟩ | ⟨q2, st₀, t, T', L2, Ex, ce, h0, X', hL2, e1, e2, ⟨rfl, m1, hx2, hR1, hz, hk⟩, hce, hcv, hcl, stp⟩
  · cases hv
    rw [h0] at hz hk
    have h2 := kk o m1 hq2 hrok T'.heap (locs ++ L2) ls (by rw [e1]; exact hR1) ⟨Nat.le_trans hS.1 (by rw [e1]; exact hz), fun q h1 h2 => by rw [e1, hk q (Nat.lt_of_lt_of_le h1 hS.1) h2]; exact hS.2.1 q h1 h2, fun q hq => by
      rcases List.mem_append.mp hq with h | h
      · exact hS.2.2 q h
      · exact hL2 q h⟩ hl hL (jm_okst (av := av.reverse ++ [jm_R (q : Int)]) (by rw [List.append_assoc]; exact hst) ho)
    rw [List.map_append] at h2
    have e3 : (o.map (jm_cv E)).toList = o.toList.map (jm_cv E) := by cases o <;> rfl
    rw [← e3] at h2
    obtain ⟨t2, a1, b1⟩ := h2 T' rfl X'
    exact ⟨t2, stp t2 a1, b1⟩
  · rw [h0] at hz hk
    obtain ⟨t2, a1, b1⟩ := kx m1 q2 ce T'.heap (locs ++ L2) ls hx2 (by rw [e1]; exact hR1) ⟨Nat.le_trans hS.1 (by rw [e1]; exact hz), fun q h1 h2 => by rw [e1, hk q (Nat.lt_of_lt_of_le h1 hS.1) h2]; exact hS.2.1 q h1 h2, fun q hq => by
      rcases List.mem_append.mp hq with h | h
      · exact hS.2.2 q h
      · exact hL2 q h⟩ hl hL (by rw [e1]; exact hce) hcv hcl T' rfl X'
    exact ⟨t2, stp.trans a1, b1⟩
/-- the law's call of kind or word: the answer, or -7 -/
theorem jm_Ch_law {Y Y' : jm_Y} {d idx : Nat} {a b : Int} {Q' : Option jm_V → jm_M → Prop} {Qx : jm_M → Prop} {Q : Option jm_V → jm_M → Prop} (hY : Y.1.cls = RL ∧ Y.2.2.1 = 4 ∧ Y.2.2.2 = some .int) (hY' : Y'.2.2.2 = some .int) (hw : jm_wV Y' 2) (hcn : ∃ T N, jm_cl[9]? = some (Y'.1.cls, T, N)) (hlink : Cond.methodLink Y.1.cls idx Y'.1 ∈ jm_tbl)
    (d0 : decode Y.2.1 0 = .ok (.aload_n 0, 1)) (d1 : decode Y.2.1 1 = .ok (.iload_n 1, 1)) (d2 : decode Y.2.1 2 = .ok (.iload_n 2, 1)) (d3 : decode Y.2.1 3 = .ok (.invokevirtual idx, 3)) (d6 : decode Y.2.1 6 = .ok (.ireturn, 1)) (d7 : decode Y.2.1 7 = .ok (.astore_n 3, 1)) (d8 : decode Y.2.1 8 = .ok (.bipush (-7), 2)) (d10 : decode Y.2.1 10 = .ok (.ireturn, 1))
    (h : jm_Cx E Y' d [jm_R 0, jm_I a, jm_I b] μ Q' Qx) (h1 : ∀ v m1, Q' (some (jm_I v)) m1 → Q (some (jm_I v)) m1) (h2 : ∀ m1, Qx m1 → Q (some (jm_I (-7))) m1) : jm_Ch E Y [(0, 6, 7, 161)] (d + 1) [jm_R 0, jm_I a, jm_I b] μ Q := by
  obtain ⟨Yn, Yb, Yl, Yr⟩ := Y
  obtain ⟨yc, y5, yr⟩ := hY
  have y5 : Yl = 4 := y5
  have yr : Yr = some .int := yr
  subst y5
  subst yr
  refine jm_Ch_of (L0 := [some (jm_R 0), some (jm_I a), some (jm_I b), none]) (by show plainName Yn.cls = true; rw [show Yn.cls = RL from yc]; decide +kernel) rfl (Nat.le_of_ble_eq_true rfl) (fun p e s m args below meth c C ht hZ => ?_)
  refine jp_aloadn (k := 0) C d0 rfl (by decide) ?_
  refine jp_iloadn (k := 1) C d1 rfl ?_
  refine jp_iloadn (k := 2) C d2 rfl ?_
  refine jp_invX (av := [jm_I a, jm_I b]) C hw hlink d3 rfl is_0 hcn ⟨Nat.le_refl _, Nat.le_refl _⟩ (by decide) rfl h (fun o m1 hq hr => ?_) (fun m1 q ce H1 locs1 ls hq hR hS hl hL hce hcv hcl => ?_)
  · obtain ⟨v, rfl⟩ : ∃ v, o = some (jm_I v) := by rw [hY'] at hr; exact jm_rokI hr
    refine jp_of C hZ ?_
    exact jm_ret (o := some (jm_I _)) d6 rfl ⟨Nat.le_refl _, Nat.le_refl _⟩ jm_r_I (h1 v m1 hq) rfl
  · have hts : ∀ w ∈ jm_tbl, w.before args s = true := C.2.2.2.2.1
    have hX : jm_X1 E s s.heap := C.2.2.2.2.2.2.2.2.1.2.1
    have ho : s.vm.findClass RL = some m.cls := by rw [← yc]; exact C.2.2.2.1
    refine vx_catch (own := RL) (name := jm_nx) (E := jm_nx) (ce := ce) ho [] ⟨0, 6, 7, 161⟩ [] (by rw [ht]; rfl) (fun z hz => nomatch hz) (by decide) (by decide) (hts _ nx_3) (va_Nw.use rfl hX.2.1.2.2.2.1) hce hcv hcl ?_
    refine lv_astore_n (k := 3) C.1 C.2.1 d7 rfl hl (Nat.le_of_ble_eq_true rfl) rfl (fun ls' hl' => ?_)
    have w : jm_P E (Yn, Yb, 4, some .int) (jm_rm (d + 1) 1 6) jm_N 1 6 (p, e, s, m, args, below, meth, c, MQ below (jm_Qc E (Yn, Yb, 4, some .int) jm_N Q) args s 1 6 (jm_A E)) 8 [some (jm_R 0), some (jm_I a), some (jm_I b), none] [] m1 := by
      refine jp_of C hZ ?_
      refine jm_bipush (v := (-7)) d8 rfl (jm_okI (by decide) (by decide)) ?_
      exact jm_ret (o := some (jm_I _)) d10 rfl ⟨Nat.le_refl _, Nat.le_refl _⟩ jm_r_I (h2 m1 hq) rfl
    refine w H1 locs1 ls' hR hS (jm_lv_mono hl' (fun z hz => ?_)) hL (fun v hv => by cases hv)
    have hz4 : z = (0, jm_cv E (jm_R 0)) ∨ z = (1, jm_cv E (jm_I a)) ∨ z = (2, jm_cv E (jm_I b)) := by simpa [jm_lo] using hz
    refine List.mem_cons_of_mem _ (List.mem_filter.mpr ⟨hz, ?_⟩)
    rcases hz4 with rfl | rfl | rfl
    · rfl
    · rfl
    · rfl
variable {d : Nat} {ρ : sR}
/-- X5.tell -/
theorem c_T_tellKind {k x : Int} (hW : sWR ρ) (hr : tRu μ 3 ρ) (k0 : 0 ≤ k) (k1 : k < ρ 1) (x0 : 0 ≤ x) (x1 : x ≤ 3) (h : Q (some (jm_I (ρ (20 + 4 * k + x)))) μ) : jc E m_X5_tell (d + 2) [jm_R 3, jm_I k, jm_I x] μ Q := by
  have k9 : k < 10 := by have := hW.2.2.2.1; omega
  obtain ⟨e0, e1, e2, e3⟩ := hr.2.2.2.2.2.2.2.2.2 k k0 k1
  refine e_X5_tell (d := d + 1) (fun _ => ⟨fun z => ⟨is_3, ?_⟩, fun z => ⟨fun z1 => ⟨is_3, ?_⟩, fun z1 => ⟨fun z2 => ⟨is_3, ?_⟩, fun z2 => ⟨is_3, ?_⟩⟩⟩⟩)
  · refine e_X5_openingOf (d := d) (fun _ => ⟨fun q => absurd q (by omega), fun _ => ⟨fun q => absurd q (by omega), fun _ => ⟨is_3, ⟨k0, k9⟩, jq_I ?_⟩⟩⟩)
    have : μ (3 + 4) k = ρ (20 + 4 * k + x) := by rw [e0]; unfold sOp; congr 1; omega
    rw [this]; exact h
  · refine e_X5_doingOf (d := d) (fun _ => ⟨fun q => absurd q (by omega), fun _ => ⟨fun q => absurd q (by omega), fun _ => ⟨is_3, ⟨k0, k9⟩, jq_I ?_⟩⟩⟩)
    have : μ (3 + 5) k = ρ (20 + 4 * k + x) := by rw [e1]; unfold sDo; congr 1; omega
    rw [this]; exact h
  · refine e_X5_spanOf (d := d) (fun _ => ⟨fun q => absurd q (by omega), fun _ => ⟨fun q => absurd q (by omega), fun _ => ⟨is_3, ⟨k0, k9⟩, jq_I ?_⟩⟩⟩)
    have : μ (3 + 6) k = ρ (20 + 4 * k + x) := by rw [e2]; unfold sDu; congr 1; omega
    rw [this]; exact h
  · refine c_T_hasKind (d := d) is_3 hW hr (fun _ _ => jq_Z (jb_f (by decide) ⟨⟨k0, k9⟩, ?_⟩)) (fun z => absurd ⟨k0, k1⟩ z)
    have : μ (3 + 7) k = ρ (20 + 4 * k + x) := by rw [e3]; unfold sMa; congr 1; omega
    rw [this]; exact h
theorem jp_call {d2 : Nat} {Y' : jm_Y} {idx k cc : Nat} {av : List jm_V} {a : Int} {stf : List jm_V} (C : jm_Kc E Y K) (hw : jm_wV Y' k) (hlink : Cond.methodLink Y.1.cls idx Y'.1 ∈ jm_tbl) (hd : decode Y.2.1 pc = .ok (.invokevirtual idx, 3)) (hlen : av.length = k) (hx : jm_is jm_N a 1 cc) (hcn : ∃ T N, jm_cl[cc]? = some (Y'.1.cls, T, N)) (hrest : st.length ≤ 4) (hst : stf = av.reverse ++ jm_R a :: st)
    (h : jc E Y' d2 (jm_R a :: av) μ (fun o m1 => jm_rok Y'.2.2.2 o → jm_P E Y (jm_rm (d2 + 1) 1 6) jm_N 0 0 K (pc + 3) L (o.toList ++ st) m1)) : jm_P E Y (jm_rm (d2 + 1) 1 6) jm_N 0 0 K pc L stf μ :=
  jp_invV (mc := 0) (ms := 0) C hw hlink hd hlen hx hcn ⟨by decide, by decide⟩ hrest hst h
/-- kind of the class -/
theorem x_C_kind {k x : Int} {Qx : jm_M → Prop} (hW : sWR ρ) (hr : tRu μ 3 ρ) (h1 : ¬ ((0 ≤ k ∧ k < ρ 1) ∧ 0 ≤ x ∧ x ≤ 3) → Qx μ) (h2 : 0 ≤ k → k < ρ 1 → 0 ≤ x → x ≤ 3 → Q (some (jm_I (ρ (20 + 4 * k + x)))) μ) : jm_Cx E m_X10_kind (d + 6) [jm_R 0, jm_I k, jm_I x] μ Q Qx := by
  refine jm_Cx_of (L0 := [some (jm_R 0), some (jm_I k), some (jm_I x)]) (by decide +kernel) rfl (Nat.le_of_ble_eq_true rfl) (fun p e s m args below meth c C hlk hno hZ => ?_)
  refine jp_aloadn (k := 0) C d_X10_kind_0 rfl (by decide) ?_
  refine jp_getF (k := 1) C cf_X10 (by decide) f_X10_19 d_X10_kind_1 rfl rfl is_0 fr_0_1 ?_
  refine jp_iloadn (k := 1) C d_X10_kind_4 rfl ?_
  have thr : ¬ ((0 ≤ k ∧ k < ρ 1) ∧ 0 ≤ x ∧ x ≤ 3) → jm_P E m_X10_kind (jm_rm (d + 6) 1 6) jm_N 0 0 (p, e, s, m, args, below, meth, c, vx_MQ below (jm_Qc E m_X10_kind jm_N Q) (jm_XC E Qx) args s 1 6 (jm_A E)) 20 [some (jm_R 0), some (jm_I k), some (jm_I x)] [] μ := fun z => jp_throw C rfl hlk hno d_X10_kind_20 d_X10_kind_23 d_X10_kind_24 d_X10_kind_27 (h1 z)
  refine jp_call (d2 := d + 5) (av := [jm_I k]) C w_X5_hasKind l_X10_132 d_X10_kind_5 rfl is_3 ⟨_, _, rfl⟩ (by decide) rfl ?_
  refine c_T_hasKind (d := d + 4) is_3 hW hr (fun k0 k1 _ => ?_) (fun z _ => ?_)
  · refine jp_if_eq (tgt := 20) C d_X10_kind_8 (by decide) (fun z => absurd z (by decide)) (fun _ => ?_)
    refine jp_iloadn (k := 2) C d_X10_kind_11 rfl ?_
    refine jp_if_lt (tgt := 20) C d_X10_kind_12 (by decide) (fun z => thr (by omega)) (fun z0 => ?_)
    refine jp_iloadn (k := 2) C d_X10_kind_15 rfl ?_
    refine jp_iconst (v := 3) C d_X10_kind_16 rfl ⟨by decide, by decide⟩ ?_
    refine jp_icmp_le (tgt := 28) C d_X10_kind_17 (by decide) (fun z1 => ?_) (fun z1 => thr (by omega))
    refine jp_aloadn (k := 0) C d_X10_kind_28 rfl (by decide) ?_
    refine jp_getF (k := 1) C cf_X10 (by decide) f_X10_19 d_X10_kind_29 rfl rfl is_0 fr_0_1 ?_
    refine jp_iloadn (k := 1) C d_X10_kind_32 rfl ?_
    refine jp_iloadn (k := 2) C d_X10_kind_33 rfl ?_
    refine jp_call (d2 := d + 5) (av := [jm_I k, jm_I x]) C w_X5_tell l_X10_138 d_X10_kind_34 rfl is_3 ⟨_, _, rfl⟩ (by decide) rfl ?_
    refine c_T_tellKind (d := d + 3) hW hr k0 k1 (by omega) z1 (fun _ => ?_)
    refine jp_of C hZ ?_
    exact jm_ret (o := some (jm_I _)) d_X10_kind_37 rfl ⟨Nat.zero_le _, Nat.zero_le _⟩ jm_r_I (h2 k0 k1 (by omega) z1) rfl
  · exact jp_if_eq (tgt := 20) C d_X10_kind_8 (by decide) (fun _ => thr (fun q => z q.1)) (fun q => absurd rfl q)
theorem x_C_word {t x : Int} {w : Int → Int} {n : Nat} {Qx : jm_M → Prop} (h0 : tTl μ ρ w n) (h1 : ¬ ((0 ≤ t ∧ t < n) ∧ 0 ≤ x ∧ x ≤ 7) → Qx μ) (h2 : 0 ≤ t → t < n → 0 ≤ x → x ≤ 7 → Q (some (jm_I (sWord ρ (sLay ρ w n) t x))) μ) : jm_Cx E m_X10_word (d + 6) [jm_R 0, jm_I t, jm_I x] μ Q Qx := by
  obtain ⟨hr, p9, hp9, hA⟩ := h0
  have hn : (sLay ρ w n).2.1 = n := sLay_n n
  refine jm_Cx_of (L0 := [some (jm_R 0), some (jm_I t), some (jm_I x)]) (by decide +kernel) rfl (Nat.le_of_ble_eq_true rfl) (fun p e s m args below meth c C hlk hno hZ => ?_)
  refine jp_aloadn (k := 0) C d_X10_word_0 rfl (by decide) ?_
  refine jp_getF (k := 3) C cf_X10 (by decide) f_X10_31 d_X10_word_1 rfl rfl is_0 fr_0_3 ?_
  refine jp_iloadn (k := 1) C d_X10_word_4 rfl ?_
  have thr : ¬ ((0 ≤ t ∧ t < n) ∧ 0 ≤ x ∧ x ≤ 7) → jm_P E m_X10_word (jm_rm (d + 6) 1 6) jm_N 0 0 (p, e, s, m, args, below, meth, c, vx_MQ below (jm_Qc E m_X10_word jm_N Q) (jm_XC E Qx) args s 1 6 (jm_A E)) 21 [some (jm_R 0), some (jm_I t), some (jm_I x)] [] μ := fun z => jp_throw C rfl hlk hno d_X10_word_21 d_X10_word_24 d_X10_word_25 d_X10_word_28 (h1 z)
  refine jp_call (d2 := d + 5) (av := [jm_I t]) C w_X6_has l_X10_168 d_X10_word_5 rfl is_21 ⟨_, _, rfl⟩ (by decide) rfl ?_
  refine c_T_has (d := d + 4) (b := sLay ρ w n) is_21 hA.2.2.2.2.1 (fun t0 t1 _ => ?_) (fun z _ => ?_)
  · rw [hn] at t1
    refine jp_if_eq (tgt := 21) C d_X10_word_8 (by decide) (fun z => absurd z (by decide)) (fun _ => ?_)
    refine jp_iloadn (k := 2) C d_X10_word_11 rfl ?_
    refine jp_if_lt (tgt := 21) C d_X10_word_12 (by decide) (fun z => thr (by omega)) (fun z0 => ?_)
    refine jp_iloadn (k := 2) C d_X10_word_15 rfl ?_
    refine jp_bipush (v := 7) C d_X10_word_16 rfl ⟨by decide, by decide⟩ ?_
    refine jp_icmp_le (tgt := 29) C d_X10_word_18 (by decide) (fun z1 => ?_) (fun z1 => thr (by omega))
    refine jp_aloadn (k := 0) C d_X10_word_29 rfl (by decide) ?_
    refine jp_getF (k := 3) C cf_X10 (by decide) f_X10_31 d_X10_word_30 rfl rfl is_0 fr_0_3 ?_
    refine jp_iloadn (k := 1) C d_X10_word_33 rfl ?_
    refine jp_iloadn (k := 2) C d_X10_word_34 rfl ?_
    refine jp_call (d2 := d + 5) (av := [jm_I t, jm_I x]) C w_X6_tell l_X10_171 d_X10_word_35 rfl is_21 ⟨_, _, rfl⟩ (by decide) rfl ?_
    refine c_T_tell (d := d + 1) hA t0 (by rw [hn]; exact t1) (by omega) z1 (fun _ => ?_)
    refine jp_of C hZ ?_
    exact jm_ret (o := some (jm_I _)) d_X10_word_38 rfl ⟨Nat.zero_le _, Nat.zero_le _⟩ jm_r_I (h2 t0 t1 (by omega) z1) rfl
  · rw [hn] at z
    exact jp_if_eq (tgt := 21) C d_X10_word_8 (by decide) (fun _ => thr (fun q => z q.1)) (fun q => absurd rfl q)
/-- kind and word as the law calls them -/
theorem x_L_kind {k x : Int} (hW : sWR ρ) (hr : tRu μ 3 ρ) (h1 : ¬ ((0 ≤ k ∧ k < ρ 1) ∧ 0 ≤ x ∧ x ≤ 3) → Q (some (jm_I (-7))) μ) (h2 : 0 ≤ k → k < ρ 1 → 0 ≤ x → x ≤ 3 → Q (some (jm_I (ρ (20 + 4 * k + x)))) μ) : jm_Ch E m_L_kind [(0, 6, 7, 161)] (d + 7) [jm_R 0, jm_I k, jm_I x] μ Q :=
  jm_Ch_law (Q' := Q) (Qx := fun m => Q (some (jm_I (-7))) m) ⟨rfl, rfl, rfl⟩ rfl w_X10_kind ⟨_, _, rfl⟩ l_L_159 d_L_kind_0 d_L_kind_1 d_L_kind_2 d_L_kind_3 d_L_kind_6 d_L_kind_7 d_L_kind_8 d_L_kind_10 (x_C_kind (d := d) hW hr h1 h2) (fun v m1 hq => hq) (fun m1 hq => hq)
theorem x_L_word {t x : Int} {w : Int → Int} {n : Nat} (h0 : tTl μ ρ w n) (h1 : ¬ ((0 ≤ t ∧ t < n) ∧ 0 ≤ x ∧ x ≤ 7) → Q (some (jm_I (-7))) μ) (h2 : 0 ≤ t → t < n → 0 ≤ x → x ≤ 7 → Q (some (jm_I (sWord ρ (sLay ρ w n) t x))) μ) : jm_Ch E m_L_word [(0, 6, 7, 161)] (d + 7) [jm_R 0, jm_I t, jm_I x] μ Q :=
  jm_Ch_law (Q' := Q) (Qx := fun m => Q (some (jm_I (-7))) m) ⟨rfl, rfl, rfl⟩ rfl w_X10_word ⟨_, _, rfl⟩ l_L_163 d_L_word_0 d_L_word_1 d_L_word_2 d_L_word_3 d_L_word_6 d_L_word_7 d_L_word_8 d_L_word_10 (x_C_word (d := d) h0 h1 h2) (fun v m1 hq => hq) (fun m1 hq => hq)
end KW
