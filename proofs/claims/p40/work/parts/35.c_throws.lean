/-! kind and word of the class, which throw; the law's own calls of them, which catch -/
def jm_xn : List String := ["java/lang/RuntimeException", "java/lang/Exception"]
theorem nx_g : (vx_at0 RX10 137 jm_nx jm_xn).filter goodWord = ([40, 941, 950, 952, 955, 957, 942, 943, 50, 51, 944, 949, 953, 969, 931, 970, 933, 971, 935, 945, 947, 937, 959, 960, 961, 962, 962, 963, 964, 965, 965, 966, 967, 942, 958, 920, 928, 929, 930, 932, 934, 936, 940, 939, 938] : List Nat).filterMap (fun i => lw_tbl[i]?) := by decide +kernel
theorem nx_b : (vx_at0 RX10 137 jm_nx jm_xn).filter (fun w => !goodWord w) = [.declares (Bundle.init0 "java/lang/RuntimeException"), .declares (Bundle.init0 "java/lang/Exception"), .declares (Bundle.init0 Bundle.tN), .castable jm_nx jm_nx] := by decide +kernel
theorem nx_w : ∀ w ∈ (vx_at0 RX10 137 jm_nx jm_xn).filter goodWord, w ∈ jm_tbl := by
  intro w hw
  have hg := (List.mem_filter.mp hw).2
  rw [nx_g] at hw
  obtain ⟨i, -, hi⟩ := List.mem_filterMap.mp hw
  exact jm_tb (List.mem_of_getElem? hi) hg
theorem nx_o : ∀ w ∈ Cond.classLink RX10 135 jm_nx :: Cond.initialized jm_nx :: vx_at0 RX10 137 jm_nx jm_xn, vx_ot w = true := List.all_eq_true.mp (by decide +kernel)
theorem nx_1 : Cond.classLink RX10 135 jm_nx ∈ jm_tbl := jm_tb (List.mem_append_right _ (List.mem_append_right _ (List.mem_append_right _ (List.mem_append_right _ (List.mem_append_left _ (List.mem_of_getElem? (i := 179) rfl)))))) rfl
theorem nx_2 : Cond.initialized jm_nx ∈ jm_tbl := jm_tb (List.mem_append_right _ (List.mem_append_left _ (List.mem_of_getElem? (i := 23) rfl))) rfl
theorem nx_3 : Cond.classLink RL 161 jm_nx ∈ jm_tbl := jm_tb (List.mem_append_right _ (List.mem_append_right _ (List.mem_append_right _ (List.mem_append_right _ (List.mem_append_left _ (List.mem_of_getElem? (i := 174) rfl)))))) rfl
/-- one call as the machine has it: program, surroundings, the state at its entry, method, arguments, the frames below, .., what is to come -/
abbrev jm_K : Type := Program × Env × State × MethodId × Array Value × List Frame × Method × Code × (State → Prop)
def jm_Kc (E : jm_E) (Y : jm_Y) (K : jm_K) : Prop := jm_ctx E Y K.1 K.2.2.1 K.2.2.2.1 K.2.2.2.2.1 K.2.2.2.2.2.2.1 K.2.2.2.2.2.2.2.1
def jm_P (E : jm_E) (Y : jm_Y) (R : Room) (n cs sl : Nat) (K : jm_K) (pc : Nat) (L : List (Option jm_V)) (st : List jm_V) (μ : jm_M) : Prop :=
  ∀ (H : Heap) (locs : List Loc) (ls : Array Slot), jm_Rel E n μ H → va_S (jm_A E) K.2.2.1.heap H locs → lv_has ls Y.2.2.1 (jm_lo E 0 L) → (∀ (i : Nat) (v : jm_V), L[i]? = some (some v) → jm_ok v) → (∀ v ∈ st, jm_ok v) →
    W K.1 (jm_l E) K.2.1 R K.2.2.1 K.2.2.2.1 K.2.2.2.2.1 K.2.2.2.2.2.1 K.2.2.2.2.2.2.1 K.2.2.2.2.2.2.2.1 H locs cs sl K.2.2.2.2.2.2.2.2 (F0 K.2.2.2.1 pc ls (st.map (jm_cv E)))
def jm_Kz (E : jm_E) (Y : jm_Y) (R : Room) (n' : Nat) (Q : Option jm_V → jm_M → Prop) (K : jm_K) : Prop := jm_HZ E Y R n' Q K.1 K.2.1 K.2.2.1 K.2.2.2.1 K.2.2.2.2.1 K.2.2.2.2.2.1 K.2.2.2.2.2.2.1 K.2.2.2.2.2.2.2.1 K.2.2.2.2.2.2.2.2
section JP
variable {E : jm_E} {Y : jm_Y} {R : Room} {n' n cs sl pc : Nat} {K : jm_K} {L : List (Option jm_V)} {st : List jm_V} {μ : jm_M} {Q : Option jm_V → jm_M → Prop}
theorem jp_of (C : jm_Kc E Y K) (hZ : jm_Kz E Y R n' Q K) (h : jm_G E Y R n' n cs sl pc L st μ Q) : jm_P E Y R n cs sl K pc L st μ := fun H locs ls hR hS hl hL hst => h _ _ _ _ _ _ _ _ _ H locs ls C hZ hR hS hl hL hst
theorem jp_aloadn (C : jm_Kc E Y K) {k : Fin 4} {x : Int} (hd : decode Y.2.1 pc = .ok (.aload_n k, 1)) (hv : L[(k : Nat)]? = some (some (jm_R x))) (hz : x ≠ -1) (h : jm_P E Y R n cs sl K (pc + 1) L (jm_R x :: st) μ) : jm_P E Y R n cs sl K pc L st μ := by
  intro H locs ls hR hS hl hL hst
  have h1 := jm_lo_at hl hv
  have e1 : jm_cv E (jm_R x) = .ref (jm_ad E x) := by simp [jm_cv, hz]
  have w := h H locs ls hR hS hl hL (jm_cons trivial hst)
  rw [List.map_cons, e1] at w
  rw [e1] at h1
  exact lv_aload_n C.1 C.2.1 hd rfl h1 w
theorem jp_iloadn (C : jm_Kc E Y K) {k : Fin 4} {x : Int} (hd : decode Y.2.1 pc = .ok (.iload_n k, 1)) (hv : L[(k : Nat)]? = some (some (jm_I x))) (h : jm_P E Y R n cs sl K (pc + 1) L (jm_I x :: st) μ) : jm_P E Y R n cs sl K pc L st μ := fun H locs ls hR hS hl hL hst => lv_iload_n C.1 C.2.1 hd rfl (jm_lo_at hl hv) (h H locs ls hR hS hl hL (jm_cons (hL _ _ hv) hst))
theorem jp_iconst (C : jm_Kc E Y K) {k : Int} {v : Int} (hd : decode Y.2.1 pc = .ok (.iconst k, 1)) (hv : Int32.ofInt k = Int32.ofInt v) (ho : jm_ok (jm_I v)) (h : jm_P E Y R n cs sl K (pc + 1) L (jm_I v :: st) μ) : jm_P E Y R n cs sl K pc L st μ := fun H locs ls hR hS hl hL hst => lv_iconst C.1 C.2.1 hd hv (h H locs ls hR hS hl hL (jm_cons ho hst))
theorem jp_bipush (C : jm_Kc E Y K) {k : Int} {v : Int} (hd : decode Y.2.1 pc = .ok (.bipush k, 2)) (hv : (Int8.ofInt k).toInt32 = Int32.ofInt v) (ho : jm_ok (jm_I v)) (h : jm_P E Y R n cs sl K (pc + 2) L (jm_I v :: st) μ) : jm_P E Y R n cs sl K pc L st μ := fun H locs ls hR hS hl hL hst => lv_bipush C.1 C.2.1 hd hv (h H locs ls hR hS hl hL (jm_cons ho hst))
theorem jp_if_eq (C : jm_Kc E Y K) {a off : Int} {tgt : Nat} (hd : decode Y.2.1 pc = .ok (.ifCond .eq off, 3)) (ht : (pc : Int) + off = (tgt : Int)) (kt : a = 0 → jm_P E Y R n cs sl K tgt L st μ) (kf : ¬ (a = 0) → jm_P E Y R n cs sl K (pc + 3) L st μ) : jm_P E Y R n cs sl K pc L (jm_I a :: st) μ := fun H locs ls hR hS hl hL hst =>
  have h1 := hst _ List.mem_cons_self
  lv_if_eq C.1 C.2.1 hd ht (fun z => kt ((jm_eq32 h1 jm_0ok).mp z) H locs ls hR hS hl hL (jm_tail hst)) (fun z => kf (fun w => z ((jm_eq32 h1 jm_0ok).mpr w)) H locs ls hR hS hl hL (jm_tail hst))
theorem jp_if_lt (C : jm_Kc E Y K) {a off : Int} {tgt : Nat} (hd : decode Y.2.1 pc = .ok (.ifCond .lt off, 3)) (ht : (pc : Int) + off = (tgt : Int)) (kt : a < 0 → jm_P E Y R n cs sl K tgt L st μ) (kf : ¬ (a < 0) → jm_P E Y R n cs sl K (pc + 3) L st μ) : jm_P E Y R n cs sl K pc L (jm_I a :: st) μ := fun H locs ls hR hS hl hL hst =>
  have h1 := hst _ List.mem_cons_self
  lv_if_lt C.1 C.2.1 hd ht (fun z => kt ((jm_lt32 h1 jm_0ok).mp z) H locs ls hR hS hl hL (jm_tail hst)) (fun z => kf (fun w => z ((jm_lt32 h1 jm_0ok).mpr w)) H locs ls hR hS hl hL (jm_tail hst))
theorem jp_icmp_le (C : jm_Kc E Y K) {a b off : Int} {tgt : Nat} (hd : decode Y.2.1 pc = .ok (.if_icmp .le off, 3)) (ht : (pc : Int) + off = (tgt : Int)) (kt : a ≤ b → jm_P E Y R n cs sl K tgt L st μ) (kf : ¬ (a ≤ b) → jm_P E Y R n cs sl K (pc + 3) L st μ) : jm_P E Y R n cs sl K pc L (jm_I b :: jm_I a :: st) μ := fun H locs ls hR hS hl hL hst =>
  have h1 := hst _ (List.mem_cons_of_mem _ List.mem_cons_self)
  have h2 := hst _ List.mem_cons_self
  lv_icmp_le C.1 C.2.1 hd ht (fun z => kt ((jm_le32 h1 h2).mp z) H locs ls hR hS hl hL (jm_tail2 hst)) (fun z => kf (fun w => z ((jm_le32 h1 h2).mpr w)) H locs ls hR hS hl hL (jm_tail2 hst))
theorem jp_getF (C : jm_Kc E Y K) {CC : String} {T : u_T} {N c idx k : Nat} {ty0 : Nat → FieldType} {a ki x : Int} (hcf : jm_cf CC T N c ty0) (hk : k < N) (hlink : Cond.fieldLink Y.1.cls idx (T k).1 (T k).2.1 (T k).2.2.1 ∈ jm_tbl) (hd : decode Y.2.1 pc = .ok (.getfield idx, 3)) (ht : jm_ft c k = 2) (hki : (k : Int) = ki)
    (hx : jm_is jm_N a 1 c) (hv : (a, ki, x) ∈ jm_frl) (h : jm_P E Y R jm_N cs sl K (pc + 3) L (jm_R x :: st) μ) : jm_P E Y R jm_N cs sl K pc L (jm_R a :: st) μ := by
  intro H locs ls hR hS hl hL hst
  have hw : μ a ki = x := (hR.2.2.2.2.2 rfl).1 (a, ki, x) hv
  obtain ⟨x1, x2, x3, x4⟩ := hx
  obtain ⟨q, rfl⟩ := jm_nat x1
  rw [jm_sk_nat] at x3
  rw [jm_sn_nat] at x4
  have hq : q < jm_N := by omega
  have hg := jm_ws_get (E := E) (m := μ) hq
  rw [jm_cell_o x3 x4] at hg
  have e : jm_cv E (jm_mk (jm_ft c k) (μ q k)) = jm_cv E (jm_R x) := by rw [ht, ← hw, ← hki]; rfl
  have w := h H locs ls hR hS hl hL (jm_cons trivial (jm_tail hst))
  rw [List.map_cons, ← e] at w
  rw [List.map_cons, jm_cvR]
  exact va_get C.1 C.2.1 C.2.2.2.2.1 hcf.1 C.2.2.2.1 C.2.2.2.2.2.2.2.1 hR.1 q hg hcf.2.1 k hk (C.2.2.2.2.1 _ hlink) (fun _ z => z) (jm_fs_get (by have := hcf.2.2.1; omega)) hd w
theorem jp_invV (C : jm_Kc E Y K) {Y' : jm_Y} {idx k n1 mc ms d C2 S2 cc : Nat} {av : List jm_V} {a : Int} {stf : List jm_V} (hw : jm_wV Y' k) (hlink : Cond.methodLink Y.1.cls idx Y'.1 ∈ jm_tbl) (hd : decode Y.2.1 pc = .ok (.invokevirtual idx, 3)) (hlen : av.length = k) (hx : jm_is n a 1 cc) (hcn : ∃ T N, jm_cl[cc]? = some (Y'.1.cls, T, N)) (hroom : cs + mc ≤ C2 ∧ sl + ms ≤ S2) (hrest : st.length ≤ 4) (hst : stf = av.reverse ++ jm_R a :: st)
    (h : jm_Cl E Y' d n n1 mc ms (jm_R a :: av) μ (fun o m1 => jm_rok Y'.2.2.2 o → jm_P E Y (jm_rm (d + 1) C2 S2) n1 (cs + mc) (sl + ms) K (pc + 3) L (o.toList ++ st) m1)) : jm_P E Y (jm_rm (d + 1) C2 S2) n cs sl K pc L stf μ := by
  subst hst
  obtain ⟨x1, x2, x3, x4⟩ := hx
  obtain ⟨q, rfl⟩ := jm_nat x1
  rw [jm_sk_nat] at x3
  rw [jm_sn_nat] at x4
  have hq : q < n := by omega
  intro H locs ls hR hS hl hL hst
  have hts := C.2.2.2.2.1
  have hg := jm_ws_get (E := E) (m := μ) hq
  rw [jm_cell_o x3 x4] at hg
  obtain ⟨T, N, hcn⟩ := hcn
  have hM := h (jm_okav hst)
  rw [jm_map_app, jm_cvR]
  refine jm_after (va_runV (As := av.map (jm_cv E)) (rest := st.map (jm_cv E)) (C := Y'.1.cls) ⟨C.1, C.2.1, C.2.2.1, C.2.2.2.1, hts⟩ hM ⟨jm_callB hw.1 hts hlink, hts _ hw.2.1, hts _ hw.2.2⟩ ⟨jm_blind, va_recv C.2.2.2.2.2.2.2.1 hR.1 hcn hg, ?_⟩ rfl (by rw [List.length_map]; exact hlen) hl.1 rfl (lv_room (jm_catsum st hrest)) hd hroom) hS (fun o m1 H1 locs1 hQ ho hrok hR1 hS1 => ?_)
  · have := jm_enter (av := jm_R (q : Int) :: av) C hR hS
    rw [List.map_cons, jm_cvR] at this
    exact this
  · have h2 := hQ hrok H1 locs1 ls hR1 hS1 hl hL (jm_okst (av := av.reverse ++ [jm_R (q : Int)]) (by rw [List.append_assoc]; exact hst) ho)
    rw [List.map_append] at h2
    have e1 : (o.map (jm_cv E)).toList = o.toList.map (jm_cv E) := by cases o <;> rfl
    rw [e1]
    exact h2
/-- the heap may grow behind the places -/
theorem jm_Rel_ext {H H1 : Heap} (hR : jm_Rel E jm_N μ H) (h1 : H.size ≤ H1.size) (h2 : ∀ q : Nat, q < H.size → H1[q]? = H[q]?) : jm_Rel E jm_N μ H1 :=
  ⟨hR.1.kept (fun k q hk => h2 _ (hR.1 k q hk).lt), hR.2.1, hR.2.2.1, Nat.le_trans hR.2.2.2.1 h1, fun z => absurd z (Nat.lt_irrefl _), fun z => ⟨(hR.2.2.2.2.2 z).1, (hR.2.2.2.2.2 z).2.kept (fun q _ q3 => h2 q q3)⟩⟩
/-- where it throws -/
def jm_XC (E : jm_E) (Qx : jm_M → Prop) : String → State → State → Prop := fun C9 st t => C9 = jm_nx ∧ ∃ m1 : jm_M, Qx m1 ∧ jm_Rel E jm_N m1 t.heap ∧ st.heap.size ≤ t.heap.size ∧ ∀ q : Nat, q < st.heap.size → ¬ jm_A E q → t.heap[q]? = st.heap[q]?
def jm_Cx (E : jm_E) (Y : jm_Y) (d : Nat) (av : List jm_V) (μ : jm_M) (Q : Option jm_V → jm_M → Prop) (Qx : jm_M → Prop) : Prop :=
  (∀ v ∈ av, jm_ok v) → vx_Met (jm_l E) Y.1 (Cond.code Y.1 Y.2.1 Y.2.2.1 Y.2.2.2 :: jm_tbl) (jm_rm d 1 6) (jm_Pc E jm_N av μ) (jm_Qc E Y jm_N Q) (jm_XC E Qx) 1 6 (jm_A E)
theorem jm_HZ_of {S : Spec} {d mc ms : Nat} {p : Program} {e : Env} {s s₁ : State} {m : MethodId} {args : Array Value} {below : List Frame} {meth : Method} {c : Code} (B : BodyLoose p (jm_l E) Y.1 S Y.2.1 Y.2.2.1 Y.2.2.2 e s m args below meth c s₁) : jm_HZ E Y (jm_rm d mc ms) n' Q p e s m args below meth c (MQ below (jm_Qc E Y n' Q) args s mc ms (jm_A E)) := by
  intro o m1 H1 locs1 pc1 ls1 hQ ho hrok hR1 hS1 hdg
  have hlocks := B.notSynchronized
  have hf : ∀ q ∈ locs1, jm_A E q.base := hS1.2.2
  have post : ∀ t : State, t.heap = H1 → ∀ v : Option Value, v = o.map (jm_cv E) → jm_Qc E Y n' Q args s (.returned v) t := fun t ht v hv => ⟨o, m1, by rw [hv], ho, hrok, hQ, by rw [ht]; exact hR1, by rw [ht]; exact hS1.1, fun q q1 q2 => by rw [ht]; exact hS1.2.1 q q1 q2⟩
  have hret := B.returns
  rcases hrok with ⟨r1, r2⟩ | ⟨r1, x, r2⟩ | ⟨r1, x, r2, r3⟩ | ⟨r1, x, r2⟩ | ⟨⟨nm, r1⟩, x, r2⟩ | ⟨ty, -, r1, x, r2, r3⟩ <;> subst r2 <;> rw [r1] at hret
  · exact W.vret (cells := mc) (slots := ms) (R := jm_rm d mc ms) B.exec B.bytes hret (fun t ht _ => post t ht _ rfl) hf hdg
  · exact W.iret (cells := mc) (slots := ms) (R := jm_rm d mc ms) B.exec B.bytes hret (fun t ht _ => post t ht _ rfl) hf hdg
  · exact W.zret (cells := mc) (slots := ms) (R := jm_rm d mc ms) B.exec B.bytes hret (jm_nz r3) (fun t ht _ => post t ht _ rfl) hf hdg
  · exact W.lret (cells := mc) (slots := ms) (R := jm_rm d mc ms) B.exec B.bytes hret (fun t ht _ => post t ht _ rfl) hf hdg
  · have hcv : jm_cv E (jm_R x) = .null ∨ ∃ a, jm_cv E (jm_R x) = .ref a := by
      show (if x = -1 then Value.null else Value.ref (jm_ad E x)) = .null ∨ ∃ a, (if x = -1 then Value.null else Value.ref (jm_ad E x)) = .ref a
      split
      · exact Or.inl rfl
      · exact Or.inr ⟨_, rfl⟩
    exact W.aret (cells := mc) (slots := ms) (R := jm_rm d mc ms) B.exec B.bytes hret (Or.inl ⟨nm, rfl⟩) hcv (fun t ht _ => post t ht _ rfl) hf hdg
  · exact W.zret (cells := mc) (slots := ms) (R := jm_rm d mc ms) B.exec B.bytes hret r3 (fun t ht _ => post t ht _ rfl) hf hdg
theorem jm_ctx_of {w0 : Cond} {rm : Room} {p : Program} {e : Env} {s s₁ : State} {m : MethodId} {args : Array Value} {below : List Frame} {meth : Method} {c : Code} (B : BodyLoose p (jm_l E) Y.1 (headSpec (w0 :: jm_tbl) rm) Y.2.1 Y.2.2.1 Y.2.2.2 e s m args below meth c s₁) (hml : c.maxLocals = Y.2.2.1) (hK : va_K (jm_D E) jm_cl (jm_tys E) s) (hX : jm_X E s s.heap) (hb : jm_b E ≤ s.heap.size) : jm_ctx E Y p s m args meth c := by
  have hts := atoms_spec (ws := w0 :: jm_tbl) B.pre
  exact ⟨B.exec, B.bytes, hml, findClass_of_methodNamed B.named, fun w hw => hts w (List.mem_cons_of_mem _ hw), B.returns, (name_of_methodNamed B.named B.method).1, hK, hX, hb⟩
theorem jm_Cx_of {d : Nat} {av : List jm_V} {L0 : List (Option jm_V)} {Qx : jm_M → Prop} (hy : plainName Y.1.cls = true) (hL : jm_en av ++ List.replicate (Y.2.2.1 - (jm_en av).length) none = L0) (hlen : (jm_en av).length ≤ Y.2.2.1)
    (h : ∀ (p : Program) (e : Env) (s : State) (m : MethodId) (args : Array Value) (below : List Frame) (meth : Method) (c : Code), jm_Kc E Y (p, e, s, m, args, below, meth, c, vx_MQ below (jm_Qc E Y jm_N Q) (jm_XC E Qx) args s 1 6 (jm_A E)) → meth.locks = false → (∀ x ∈ c.exceptionTable.toList, False) → jm_Kz E Y (jm_rm d 1 6) jm_N Q (p, e, s, m, args, below, meth, c, vx_MQ below (jm_Qc E Y jm_N Q) (jm_XC E Qx) args s 1 6 (jm_A E)) → jm_P E Y (jm_rm d 1 6) jm_N 0 0 (p, e, s, m, args, below, meth, c, vx_MQ below (jm_Qc E Y jm_N Q) (jm_XC E Qx) args s 1 6 (jm_A E)) 0 L0 [] μ) : jm_Cx E Y d av μ Q Qx := by
  intro hav
  refine vx_ofW (cc := Y.2.1) (maxL := Y.2.2.1) (ret := Y.2.2.2) hy rfl ?_
  intro p e s m args below meth c s₁ B hml ht hv
  obtain ⟨rfl, hR, hK, hX, hb⟩ := hv
  have hl := lv_entry (av.map (jm_cv E)) (n := Y.2.2.1) (by rw [jm_sl_len]; exact hlen)
  rw [lg_entry_eq]
  refine h p e s m _ below meth c (jm_ctx_of B hml hK hX hb) B.notSynchronized ht (fun o m1 H1 locs1 pc1 ls1 a1 a2 a3 a4 a5 a6 => vx_ret (jm_HZ_of B o m1 H1 locs1 pc1 ls1 a1 a2 a3 a4 a5 a6)) s.heap [] _ hR va_S.rf ?_ ?_ (fun v hv => by cases hv)
  · rw [← hL]; exact jm_lv_mono hl (jm_en_args av 0 _)
  · rw [← hL]; exact jm_en_ok av _ hav
theorem jp_throw {d : Nat} {Qx : jm_M → Prop} {p : Program} {e : Env} {s : State} {m : MethodId} {args : Array Value} {below : List Frame} {meth : Method} {c : Code} (C : jm_Kc E Y (p, e, s, m, args, below, meth, c, vx_MQ below (jm_Qc E Y jm_N Q) (jm_XC E Qx) args s 1 6 (jm_A E))) (hown : Y.1.cls = RX10) (hlk : meth.locks = false) (hno : ∀ x ∈ c.exceptionTable.toList, False)
    (d0 : decode Y.2.1 pc = .ok (.new 135, 3)) (d3 : decode Y.2.1 (pc + 3) = .ok (.dup, 1)) (d4 : decode Y.2.1 (pc + 4) = .ok (.invokespecial 137, 3)) (d7 : decode Y.2.1 (pc + 7) = .ok (.athrow, 1)) (hq : Qx μ) : jm_P E Y (jm_rm (d + 6) 1 6) jm_N 0 0 (p, e, s, m, args, below, meth, c, vx_MQ below (jm_Qc E Y jm_N Q) (jm_XC E Qx) args s 1 6 (jm_A E)) pc L [] μ := by
  intro H locs ls hR hS hl hL hst
  have hX : jm_X1 E s s.heap := C.2.2.2.2.2.2.2.2.1.2.1
  have hts : ∀ w ∈ jm_tbl, w.before args s = true := C.2.2.2.2.1
  have ho : s.vm.findClass RX10 = some m.cls := by rw [← hown]; exact C.2.2.2.1
  refine vx_throw0 C.1 C.2.1 hX.1 (own := RX10) (cls := jm_nx) (names := jm_xn) (ik := 135) (ic := 137) (A := jm_A E) ho (by decide +kernel) (by decide +kernel) (hts _ nx_1) (hts _ nx_2) ?_ nx_o hX.2.2.1 hX.2.2.2 hS (hl.1.trans C.2.2.1.symm) d0 d3 d4 d7 (fun x hx => (hno x hx).elim) (by show 2 + 3 < d + 6; omega) (by show 0 + (13 * (2 + 1) + 42) ≤ 44 * (d + 6); omega) (Nat.le_refl _) (Nat.le_refl _) hlk ?_ hS.2.2 (Nat.le_refl _) (Nat.le_refl _)
  · refine vx_hat (B := [.declares (Bundle.init0 "java/lang/RuntimeException"), .declares (Bundle.init0 "java/lang/Exception"), .declares (Bundle.init0 Bundle.tN), .castable jm_nx jm_nx]) (fun w hw => hts w (nx_w w hw)) (fun w hw => by rw [nx_b] at hw; exact hw) (vx_c (va_Nw.use rfl hX.2.1.1) (vx_c (va_Nw.use rfl hX.2.1.2.1) (vx_c (va_Nw.use rfl hX.2.1.2.2.1) (vx_c (va_Nw.use rfl hX.2.1.2.2.2.1) vx_n))))
  · intro t _ h1 h2
    exact ⟨rfl, μ, hq, jm_Rel_ext hR h1 h2, Nat.le_trans hS.1 h1, fun q q1 q2 => (h2 q (Nat.lt_of_lt_of_le q1 hS.1)).trans (hS.2.1 q q1 q2)⟩
end JP
