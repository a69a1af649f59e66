/-! what the statement gives of Term's constants, TERMS and the script -/
def jm_tn : List String := ["NAME", "WHO", "KIND", "MAY", "COMB", "RANKS", "TWICE", "OPENS", "BEGINS", "ASKS", "GRANTS", "REFUSES", "KEEPS", "BREAKS", "FREES", "ANY", "OR", "AND", "NOT", "BY", "TO", "IS", "PLACE", "THREAD", "DEPTH", "STATE"]
def jm_td : List Int := [0, 0, 0, 0, 0, 0, 0, 0, 0, 1, 2, 3, 4, 5, 6, 0, 0, 0, 0, 0, 0, 0, 0, 0, 0, 0]
def jm_tle : List Int := [0, 23823, 370116, 13369, 114082, 18921843, 21734501, 16258515, 72590803, 52595, 253803155, 19502124211, 11703827, 86148467, 6886579, 1497, 498, 1476, 14836, 89, 655, 307, 17171557, 680072228, 4375176, 20579973]
def jm_X0 (E : jm_E) (U : State) (H : Heap) : Prop :=
  (∀ i, i < 26 → va_Z "CombTable$Term" (jm_tn.getD i "") "LCombTable$Term;" (.ref (jm_aT E i)) (jm_A E) U H ∧ va_OF "CombTable$Term" "letters" "J" (.long (Int64.ofInt (jm_tle.getD i 0))) (jm_aT E i) (jm_A E) U H ∧ va_OF "CombTable$Term" "does" "I" (.int (Int32.ofInt (jm_td.getD i 0))) (jm_aT E i) (jm_A E) U H) ∧
  (∀ i j, i < 26 → j < 26 → jm_aT E i = jm_aT E j → i = j) ∧
  va_Z "CombTable$Tape" "TERMS" "[LCombTable$Term;" (.ref (jm_ts E)) (jm_A E) U H ∧ va_T (.object "CombTable$Term") (jm_ts E) 26 (fun i => .ref (jm_aT E i)) (jm_A E) U H ∧
  va_X (jm_sc E) (jm_sL E) (jm_sx E) U H ∧ jm_sc E < jm_b E
theorem jm_X0.moved {E : jm_E} {u U : State} {H : Heap} (hvm : u.vm.Alike U.vm) (h : jm_X0 E u H) : jm_X0 E U H :=
  ⟨fun i hi => ⟨va_Z.moved hvm (h.1 i hi).1, va_OF.moved hvm (h.1 i hi).2.1, va_OF.moved hvm (h.1 i hi).2.2⟩, h.2.1, va_Z.moved hvm h.2.2.1, va_T.moved hvm h.2.2.2.1, va_X.moved hvm h.2.2.2.2.1, h.2.2.2.2.2⟩
theorem jm_X0.kept {E : jm_E} {U : State} {H H1 : Heap} (h : jm_X0 E U H) (hb : jm_b E ≤ H.size) (hq : ∀ a : Nat, a < H.size → ¬ jm_A E a → H1[a]? = H[a]?) : jm_X0 E U H1 :=
  ⟨fun i hi => ⟨va_Z.kept (h.1 i hi).1 hq, va_OF.kept (h.1 i hi).2.1 hq, va_OF.kept (h.1 i hi).2.2 hq⟩, h.2.1, va_Z.kept h.2.2.1 hq, va_T.kept h.2.2.2.1 hq, va_X.kept h.2.2.2.2.1 (hq _ (Nat.lt_of_lt_of_le h.2.2.2.2.2 hb) (Nat.not_le.mpr h.2.2.2.2.2)), h.2.2.2.2.2⟩
/-- what a throw wants, and the links to makers inside the nest -/
def jm_nx : String := "java/util/NoSuchElementException"
def jm_nl : List (String × Nat × MethodName × String) := [(RX10, 9, yX7_init, RX10), (RX10, 43, yX1_init, RX10), (RX10, 53, yX4_init, RX10), (RX10, 63, yX0_init, RX10), (RX0, 27, yX1_init, RX10), (RX0, 34, yX4_init, RX10), (RX10, 73, yX3_init, RX10), (RX10, 80, yX9_init, RX10), (RX10, 87, yX2_init, RX10)]
def jm_X1 (E : jm_E) (U : State) (H : Heap) : Prop :=
  (jm_l E).stackTraces = false ∧ (va_Nw (.declares (Bundle.init0 "java/lang/RuntimeException")) U ∧ va_Nw (.declares (Bundle.init0 "java/lang/Exception")) U ∧ va_Nw (.declares (Bundle.init0 Bundle.tN)) U ∧ va_Nw (.castable jm_nx jm_nx) U ∧ ∀ q ∈ jm_nl, va_Nw (.methodLinkNest q.1 q.2.1 q.2.2.1 q.2.2.2) U) ∧
  vx_Zq Bundle.tN "UNASSIGNED_STACK" Bundle.steD (jm_A E) U H ∧ vx_Zq Bundle.tN "SUPPRESSED_SENTINEL" Bundle.listD (jm_A E) U H
theorem jm_X1.moved {E : jm_E} {u U : State} {H : Heap} (hW : u.WarmedH U.vm) (h : jm_X1 E u H) : jm_X1 E U H :=
  ⟨h.1, ⟨h.2.1.1.warmD hW, h.2.1.2.1.warmD hW, h.2.1.2.2.1.warmD hW, h.2.1.2.2.2.1.warmC hW, fun q hq => (h.2.1.2.2.2.2 q hq).warmM hW⟩, vx_Zq.moved hW.alike h.2.2.1, vx_Zq.moved hW.alike h.2.2.2⟩
theorem jm_X1.kept {E : jm_E} {U : State} {H H1 : Heap} (h : jm_X1 E U H) (hq : ∀ a : Nat, a < H.size → ¬ jm_A E a → H1[a]? = H[a]?) : jm_X1 E U H1 := ⟨h.1, h.2.1, h.2.2.1.kept hq, h.2.2.2.kept hq⟩
/-- String constants of the law: numbers of the pool, texts, letters -/
def jm_ks : List (Nat × String) := [(51, "who "), (37, "kind q opens asks"), (39, "kind y grants "), (41, "kind n refuses"), (43, "kind k keeps"), (45, "kind x breaks"), (47, "kind f frees"), (49, "kind s"), (64, " opens"), (66, " begins"), (68, "comb"), (70, "ranks;"), (72, "twice;"), (78, "may ")]
def jm_kt : List (List Int) := [[119, 104, 111, 32], [107, 105, 110, 100, 32, 113, 32, 111, 112, 101, 110, 115, 32, 97, 115, 107, 115], [107, 105, 110, 100, 32, 121, 32, 103, 114, 97, 110, 116, 115, 32], [107, 105, 110, 100, 32, 110, 32, 114, 101, 102, 117, 115, 101, 115], [107, 105, 110, 100, 32, 107, 32, 107, 101, 101, 112, 115], [107, 105, 110, 100, 32, 120, 32, 98, 114, 101, 97, 107, 115], [107, 105, 110, 100, 32, 102, 32, 102, 114, 101, 101, 115], [107, 105, 110, 100, 32, 115], [32, 111, 112, 101, 110, 115], [32, 98, 101, 103, 105, 110, 115], [99, 111, 109, 98], [114, 97, 110, 107, 115, 59], [116, 119, 105, 99, 101, 59], [109, 97, 121, 32]]
def jm_kn : List Nat := [4, 17, 14, 14, 12, 13, 12, 6, 6, 7, 4, 6, 6, 4]
def jm_kb : List (List Int32) := [[119, 104, 111, 32], [107, 105, 110, 100, 32, 113, 32, 111, 112, 101, 110, 115, 32, 97, 115, 107, 115], [107, 105, 110, 100, 32, 121, 32, 103, 114, 97, 110, 116, 115, 32], [107, 105, 110, 100, 32, 110, 32, 114, 101, 102, 117, 115, 101, 115], [107, 105, 110, 100, 32, 107, 32, 107, 101, 101, 112, 115], [107, 105, 110, 100, 32, 120, 32, 98, 114, 101, 97, 107, 115], [107, 105, 110, 100, 32, 102, 32, 102, 114, 101, 101, 115], [107, 105, 110, 100, 32, 115], [32, 111, 112, 101, 110, 115], [32, 98, 101, 103, 105, 110, 115], [99, 111, 109, 98], [114, 97, 110, 107, 115, 59], [116, 119, 105, 99, 101, 59], [109, 97, 121, 32]]
def jm_fmC : String := "jdk/internal/util/Preconditions"
def jm_fmD : String := "Ljava/util/function/BiFunction;"
def jm_XS (E : jm_E) (U : State) (H : Heap) : Prop :=
  va_Z "java/lang/String" "COMPACT_STRINGS" "Z" (.int 1) (jm_A E) U H ∧ (va_Z jm_fmC "SIOOBE_FORMATTER" jm_fmD .null (jm_A E) U H ∨ va_Z jm_fmC "SIOOBE_FORMATTER" jm_fmD (.ref (jm_aK E 20)) (jm_A E) U H) ∧
  vk_S 14 jm_kn jm_kb (jm_aK E) (jm_aV E) (jm_A E) U H ∧ ∀ i, i < 14 → vk_R "CombTableLaw" (jm_ks.getD i (0, "")).1 (jm_ks.getD i (0, "")).2 (jm_aK E i) U
theorem jm_XS.moved {E : jm_E} {u U : State} {H : Heap} (hW : u.WarmedH U.vm) (h : jm_XS E u H) : jm_XS E U H := ⟨va_Z.moved hW.alike h.1, h.2.1.imp (va_Z.moved hW.alike) (va_Z.moved hW.alike), vk_S.moved hW.alike h.2.2.1, fun i hi => (h.2.2.2 i hi).warm hW⟩
theorem jm_XS.kept {E : jm_E} {U : State} {H H1 : Heap} (h : jm_XS E U H) (hq : ∀ a : Nat, a < H.size → ¬ jm_A E a → H1[a]? = H[a]?) : jm_XS E U H1 := ⟨va_Z.kept h.1 hq, h.2.1.imp (fun q => va_Z.kept q hq) (fun q => va_Z.kept q hq), vk_S.kept h.2.2.1 hq, h.2.2.2⟩
def jm_X (E : jm_E) (U : State) (H : Heap) : Prop := jm_X0 E U H ∧ jm_X1 E U H ∧ jm_XS E U H
theorem jm_X.moved {E : jm_E} {u U : State} {H : Heap} (hW : u.WarmedH U.vm) (h : jm_X E u H) : jm_X E U H := ⟨h.1.moved hW.alike, h.2.1.moved hW, h.2.2.moved hW⟩
theorem jm_X.kept {E : jm_E} {U : State} {H H1 : Heap} (h : jm_X E U H) (hb : jm_b E ≤ H.size) (hq : ∀ a : Nat, a < H.size → ¬ jm_A E a → H1[a]? = H[a]?) : jm_X E U H1 := ⟨h.1.kept hb hq, h.2.1.kept hq, h.2.2.kept hq⟩
/-! a method: its name, bytes, locals, what it returns -/
abbrev jm_Y : Type := MethodName × ByteArray × Nat × Option FieldType
def jm_ctx (E : jm_E) (Y : jm_Y) (p : Program) (s : State) (m : MethodId) (args : Array Value) (meth : Method) (c : Code) : Prop :=
  p.tables.exec = Jvm.exec ∧ c.code = Y.2.1 ∧ c.maxLocals = Y.2.2.1 ∧ s.vm.findClass Y.1.cls = some m.cls ∧ (∀ w ∈ jm_tbl, w.before args s = true) ∧ meth.sig.returnType = Y.2.2.2 ∧ meth.name = Y.1.name ∧ va_K (jm_D E) jm_cl (jm_tys E) s ∧ jm_X E s s.heap ∧ jm_b E ≤ s.heap.size
/-- the instruction that returns it -/
def jm_ri : Option jm_V → Instr
  | none => .return_
  | some (.inl _) => .ireturn
  | some (.inr (.inl _)) => .lreturn
  | some (.inr (.inr _)) => .areturn
def jm_rok (r : Option FieldType) (o : Option jm_V) : Prop :=
  (r = none ∧ o = none) ∨ (r = some .int ∧ ∃ x, o = some (jm_I x)) ∨ (r = some .boolean ∧ ∃ x, o = some (jm_I x) ∧ (x = 0 ∨ x = 1)) ∨ (r = some .long ∧ ∃ x, o = some (jm_L x)) ∨ ((∃ n, r = some (.object n)) ∧ ∃ x, o = some (jm_R x)) ∨ (∃ ty, (ty = .char ∨ ty = .byte) ∧ r = some ty ∧ ∃ x, o = some (jm_I x) ∧ narrow ty (.int (Int32.ofInt x)) = .int (Int32.ofInt x))
def jm_lo (E : jm_E) : Nat → List (Option jm_V) → List (Nat × Value)
  | _, [] => []
  | i, none :: t => jm_lo E (i + 1) t
  | i, some v :: t => (i, jm_cv E v) :: jm_lo E (i + 1) t
def jm_HZ (E : jm_E) (Y : jm_Y) (R : Room) (n' : Nat) (Q : Option jm_V → jm_M → Prop) (p : Program) (e : Env) (s : State) (m : MethodId) (args : Array Value) (below : List Frame) (meth : Method) (c : Code) (Z : State → Prop) : Prop :=
  ∀ (o : Option jm_V) (m1 : jm_M) (H1 : Heap) (locs1 : List Loc) (pc1 : Nat) (ls1 : Array Slot), Q o m1 → (∀ v, o = some v → jm_ok v) → jm_rok Y.2.2.2 o → jm_Rel E n' m1 H1 → va_S (jm_A E) s.heap H1 locs1 → decode Y.2.1 pc1 = .ok (jm_ri o, 1) →
    W p (jm_l E) e R s m args below meth c H1 locs1 R.cells R.slots Z (F0 m pc1 ls1 (o.map (jm_cv E)).toList)
/-- from here on the method comes to an end at which Q holds of its answer and the memory -/
def jm_G (E : jm_E) (Y : jm_Y) (R : Room) (n' n cs sl pc : Nat) (L : List (Option jm_V)) (st : List jm_V) (μ : jm_M) (Q : Option jm_V → jm_M → Prop) : Prop :=
  ∀ (p : Program) (e : Env) (s : State) (m : MethodId) (args : Array Value) (below : List Frame) (meth : Method) (c : Code) (Z : State → Prop) (H : Heap) (locs : List Loc) (ls : Array Slot),
    jm_ctx E Y p s m args meth c → jm_HZ E Y R n' Q p e s m args below meth c Z → jm_Rel E n μ H → va_S (jm_A E) s.heap H locs → lv_has ls Y.2.2.1 (jm_lo E 0 L) → (∀ (i : Nat) (v : jm_V), L[i]? = some (some v) → jm_ok v) → (∀ v ∈ st, jm_ok v) →
    W p (jm_l E) e R s m args below meth c H locs cs sl Z (F0 m pc ls (st.map (jm_cv E)))
section JMS
variable {E : jm_E} {Y : jm_Y} {R : Room} {n' n cs sl pc : Nat} {L : List (Option jm_V)} {st : List jm_V} {μ : jm_M} {Q : Option jm_V → jm_M → Prop}
theorem jm_lo_mem : ∀ (L : List (Option jm_V)) (k i : Nat) (v : jm_V), L[i]? = some (some v) → (k + i, jm_cv E v) ∈ jm_lo E k L
  | [], k, i, v, h => by simp at h
  | none :: t, k, 0, v, h => by simp at h
  | none :: t, k, i + 1, v, h => by
    have h1 : t[i]? = some (some v) := by simpa using h
    have h2 := jm_lo_mem t (k + 1) i v h1
    have e : k + 1 + i = k + (i + 1) := by omega
    rw [e] at h2
    exact h2
  | some w :: t, k, 0, v, h => by
    have h1 : w = v := by simpa using h
    subst h1
    exact List.mem_cons_self
  | some w :: t, k, i + 1, v, h => by
    have h1 : t[i]? = some (some v) := by simpa using h
    have h2 := jm_lo_mem t (k + 1) i v h1
    have e : k + 1 + i = k + (i + 1) := by omega
    rw [e] at h2
    exact List.mem_cons_of_mem _ h2
theorem jm_lo_inv : ∀ (L : List (Option jm_V)) (k : Nat) (q : Nat × Value), q ∈ jm_lo E k L → ∃ (i : Nat) (v : jm_V), q = (k + i, jm_cv E v) ∧ L[i]? = some (some v)
  | [], k, q, h => by simp [jm_lo] at h
  | none :: t, k, q, h => by
    obtain ⟨i, v, h1, h2⟩ := jm_lo_inv t (k + 1) q h
    exact ⟨i + 1, v, by rw [h1]; congr 1; omega, by simpa using h2⟩
  | some w :: t, k, q, h => by
    rcases List.mem_cons.mp h with h | h
    · exact ⟨0, w, h, rfl⟩
    · obtain ⟨i, v, h1, h2⟩ := jm_lo_inv t (k + 1) q h
      exact ⟨i + 1, v, by rw [h1]; congr 1; omega, by simpa using h2⟩
theorem jm_lo_at {ls : Array Slot} {nL i : Nat} {v : jm_V} (h : lv_has ls nL (jm_lo E 0 L)) (hv : L[i]? = some (some v)) : ls[i]? = some (.val (jm_cv E v)) := by
  have h1 := h.2.2 _ (jm_lo_mem L 0 i v hv)
  rwa [Nat.zero_add] at h1
theorem jm_lv_mono {ls : Array Slot} {nL : Nat} {l l' : List (Nat × Value)} (h : lv_has ls nL l) (hs : ∀ q ∈ l', q ∈ l) : lv_has ls nL l' := ⟨h.1, h.2.1, fun q hq => h.2.2 q (hs q hq)⟩
/-- the general step that moves the stack alone -/
theorem jm_step {pc' : Nat} {st' : List jm_V} (k : jm_G E Y R n' n cs sl pc' L st' μ Q) (hok : (∀ v ∈ st, jm_ok v) → (∀ (i : Nat) (v : jm_V), L[i]? = some (some v) → jm_ok v) → ∀ v ∈ st', jm_ok v)
    (hw : ∀ (p : Program) (e : Env) (s : State) (m : MethodId) (args : Array Value) (below : List Frame) (meth : Method) (c : Code) (Z : State → Prop) (H : Heap) (locs : List Loc) (ls : Array Slot), p.tables.exec = Jvm.exec → c.code = Y.2.1 → jm_ctx E Y p s m args meth c → va_S (jm_A E) s.heap H locs → jm_Rel E n μ H → lv_has ls Y.2.2.1 (jm_lo E 0 L) → (∀ v ∈ st, jm_ok v) →
      W p (jm_l E) e R s m args below meth c H locs cs sl Z (F0 m pc' ls (st'.map (jm_cv E))) → W p (jm_l E) e R s m args below meth c H locs cs sl Z (F0 m pc ls (st.map (jm_cv E)))) : jm_G E Y R n' n cs sl pc L st μ Q := by
  intro p e s m args below meth c Z H locs ls C hZ hR hS hl hL hst
  exact hw p e s m args below meth c Z H locs ls C.1 C.2.1 C hS hR hl hst (k p e s m args below meth c Z H locs ls C hZ hR hS hl hL (hok hst hL))
theorem jm_tail {v : jm_V} {l : List jm_V} (h : ∀ w ∈ v :: l, jm_ok w) : ∀ w ∈ l, jm_ok w := fun w hw => h w (List.mem_cons_of_mem _ hw)
theorem jm_cons {v : jm_V} {l : List jm_V} (h1 : jm_ok v) (h : ∀ w ∈ l, jm_ok w) : ∀ w ∈ v :: l, jm_ok w := fun w hw => by
  rcases List.mem_cons.mp hw with h2 | h2
  · rw [h2]; exact h1
  · exact h w h2
/-! constants -/
theorem jm_iconst {k : Int} {v : Int} (hd : decode Y.2.1 pc = .ok (.iconst k, 1)) (hv : Int32.ofInt k = Int32.ofInt v) (ho : jm_ok (jm_I v)) (h : jm_G E Y R n' n cs sl (pc + 1) L (jm_I v :: st) μ Q) : jm_G E Y R n' n cs sl pc L st μ Q :=
  jm_step h (fun q _ => jm_cons ho q) (fun p e s m args below meth c Z H locs ls hx hb _ _ _ _ _ w => lv_iconst hx hb hd hv w)
theorem jm_bipush {k : Int} {v : Int} (hd : decode Y.2.1 pc = .ok (.bipush k, 2)) (hv : (Int8.ofInt k).toInt32 = Int32.ofInt v) (ho : jm_ok (jm_I v)) (h : jm_G E Y R n' n cs sl (pc + 2) L (jm_I v :: st) μ Q) : jm_G E Y R n' n cs sl pc L st μ Q :=
  jm_step h (fun q _ => jm_cons ho q) (fun p e s m args below meth c Z H locs ls hx hb _ _ _ _ _ w => lv_bipush hx hb hd hv w)
theorem jm_sipush {k : Int} {v : Int} (hd : decode Y.2.1 pc = .ok (.sipush k, 3)) (hv : (Int16.ofInt k).toInt32 = Int32.ofInt v) (ho : jm_ok (jm_I v)) (h : jm_G E Y R n' n cs sl (pc + 3) L (jm_I v :: st) μ Q) : jm_G E Y R n' n cs sl pc L st μ Q :=
  jm_step h (fun q _ => jm_cons ho q) (fun p e s m args below meth c Z H locs ls hx hb _ _ _ _ _ w => lv_sipush hx hb hd hv w)
theorem jm_lconst {k : Fin 2} {v : Int} (hd : decode Y.2.1 pc = .ok (.lconst k, 1)) (hv : Int64.ofNat (k : Nat) = Int64.ofInt v) (ho : jm_ok (jm_L v)) (h : jm_G E Y R n' n cs sl (pc + 1) L (jm_L v :: st) μ Q) : jm_G E Y R n' n cs sl pc L st μ Q :=
  jm_step h (fun q _ => jm_cons ho q) (fun p e s m args below meth c Z H locs ls hx hb _ _ _ _ _ w => lv_lconst hx hb hd hv w)
theorem jm_ldc {i : Nat} {v : Int} (hd : decode Y.2.1 pc = .ok (.ldc i, 2)) (hw : Cond.constant Y.1.cls i (Int32.ofInt v) ∈ jm_tbl) (ho : jm_ok (jm_I v)) (h : jm_G E Y R n' n cs sl (pc + 2) L (jm_I v :: st) μ Q) : jm_G E Y R n' n cs sl pc L st μ Q :=
  jm_step h (fun q _ => jm_cons ho q) (fun p e s m args below meth c Z H locs ls hx hb C _ _ _ _ w => lv_ldc hx hb C.2.2.2.1 (C.2.2.2.2.1 _ hw) hd w)
theorem jm_ldcw {i : Nat} {v : Int} (hd : decode Y.2.1 pc = .ok (.ldc_w i, 3)) (hw : Cond.constant Y.1.cls i (Int32.ofInt v) ∈ jm_tbl) (ho : jm_ok (jm_I v)) (h : jm_G E Y R n' n cs sl (pc + 3) L (jm_I v :: st) μ Q) : jm_G E Y R n' n cs sl pc L st μ Q :=
  jm_step h (fun q _ => jm_cons ho q) (fun p e s m args below meth c Z H locs ls hx hb C _ _ _ _ w => lv_ldcw hx hb C.2.2.2.1 (C.2.2.2.2.1 _ hw) hd w)
theorem jm_ldc2 {i : Nat} {v : Int} (hd : decode Y.2.1 pc = .ok (.ldc2_w i, 3)) (hw : Cond.constantLong Y.1.cls i (Int64.ofInt v) ∈ jm_tbl) (ho : jm_ok (jm_L v)) (h : jm_G E Y R n' n cs sl (pc + 3) L (jm_L v :: st) μ Q) : jm_G E Y R n' n cs sl pc L st μ Q :=
  jm_step h (fun q _ => jm_cons ho q) (fun p e s m args below meth c Z H locs ls hx hb C _ _ _ _ w => lv_ldc2 hx hb C.2.2.2.1 (C.2.2.2.2.1 _ hw) hd w)
theorem jm_aconst (hd : decode Y.2.1 pc = .ok (.aconst_null, 1)) (h : jm_G E Y R n' n cs sl (pc + 1) L (jm_R (-1) :: st) μ Q) : jm_G E Y R n' n cs sl pc L st μ Q :=
  jm_step h (fun q _ => jm_cons trivial q) (fun p e s m args below meth c Z H locs ls hx hb _ _ _ _ _ w => lv_null hx hb hd w)
/-! locals -/
theorem jm_iload {i : Nat} {x : Int} (hd : decode Y.2.1 pc = .ok (.iload i, 2)) (hv : L[i]? = some (some (jm_I x))) (h : jm_G E Y R n' n cs sl (pc + 2) L (jm_I x :: st) μ Q) : jm_G E Y R n' n cs sl pc L st μ Q :=
  jm_step h (fun q g => jm_cons (g i _ hv) q) (fun p e s m args below meth c Z H locs ls hx hb _ _ _ hl _ w => lv_iload hx hb hd (jm_lo_at hl hv) w)
theorem jm_iloadn {k : Fin 4} {x : Int} (hd : decode Y.2.1 pc = .ok (.iload_n k, 1)) (hv : L[(k : Nat)]? = some (some (jm_I x))) (h : jm_G E Y R n' n cs sl (pc + 1) L (jm_I x :: st) μ Q) : jm_G E Y R n' n cs sl pc L st μ Q :=
  jm_step h (fun q g => jm_cons (g _ _ hv) q) (fun p e s m args below meth c Z H locs ls hx hb _ _ _ hl _ w => lv_iload_n hx hb hd rfl (jm_lo_at hl hv) w)
theorem jm_lload {i : Nat} {x : Int} (hd : decode Y.2.1 pc = .ok (.lload i, 2)) (hv : L[i]? = some (some (jm_L x))) (h : jm_G E Y R n' n cs sl (pc + 2) L (jm_L x :: st) μ Q) : jm_G E Y R n' n cs sl pc L st μ Q :=
  jm_step h (fun q g => jm_cons (g i _ hv) q) (fun p e s m args below meth c Z H locs ls hx hb _ _ _ hl _ w => lv_lload hx hb hd (jm_lo_at hl hv) w)
theorem jm_lloadn {k : Fin 4} {x : Int} (hd : decode Y.2.1 pc = .ok (.lload_n k, 1)) (hv : L[(k : Nat)]? = some (some (jm_L x))) (h : jm_G E Y R n' n cs sl (pc + 1) L (jm_L x :: st) μ Q) : jm_G E Y R n' n cs sl pc L st μ Q :=
  jm_step h (fun q g => jm_cons (g _ _ hv) q) (fun p e s m args below meth c Z H locs ls hx hb _ _ _ hl _ w => lv_lload_n hx hb hd rfl (jm_lo_at hl hv) w)
end JMS
