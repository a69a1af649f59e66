/-! Term's constants, the script, copies of rows; calls and returns -/
def jm_le (a : Int) : Int := jm_tle.getD (-11 - a).toNat 0
def jm_do (a : Int) : Int := jm_td.getD (-11 - a).toNat 0
def jm_cpy (μ : jm_M) (src sp dst dp k : Int) : jm_M := fun q j => if q = dst ∧ dp ≤ j ∧ j < dp + k then μ src (sp + (j - dp)) else μ q j
def jm_rm (d mc ms : Nat) : Room := { frames := d, cells := mc, slots := ms, locals := 44 * d }
section JMC
variable {E : jm_E} {Y : jm_Y} {R : Room} {n' n cs sl pc : Nat} {L : List (Option jm_V)} {st : List jm_V} {μ : jm_M} {Q : Option jm_V → jm_M → Prop}
theorem jm_cvT {i : Nat} (hi : i < 26) : jm_cv E (jm_R (-11 - (i : Int))) = .ref (jm_aT E i) := by
  show (if (-11 - (i : Int)) = -1 then Value.null else Value.ref (jm_ad E (-11 - (i : Int)))) = _
  rw [if_neg (by omega)]
  unfold jm_ad
  rw [if_neg (by omega), if_neg (by omega), if_neg (by omega), if_neg (by omega), if_neg (by omega)]
  congr 2
  omega
theorem jm_getT {i idx : Nat} {nm : String} {a : Int} (hi : i < 26) (ha : a = -11 - (i : Int)) (hnm : jm_tn.getD i "" = nm) (hlink : Cond.fieldLink Y.1.cls idx "CombTable$Term" nm "LCombTable$Term;" ∈ jm_tbl) (hd : decode Y.2.1 pc = .ok (.getstatic idx, 3)) (h : jm_G E Y R n' n cs sl (pc + 3) L (jm_R a :: st) μ Q) : jm_G E Y R n' n cs sl pc L st μ Q := by
  subst ha
  intro p e s m args below meth c Z H locs ls C hZ hR hS hl hL hst
  have hX : jm_X0 E s s.heap := C.2.2.2.2.2.2.2.2.1.1
  have hz := (hX.1 i hi).1
  rw [hnm] at hz
  refine va_gets C.1 C.2.1 hz hS C.2.2.2.1 (C.2.2.2.2.1 _ hlink) (fun _ z => z) hd ?_
  rw [← jm_cvT (E := E) hi]
  exact h p e s m args below meth c Z H locs ls C hZ hR hS hl hL (jm_cons trivial hst)
theorem jm_cvTS : jm_cv E (jm_R (-3)) = .ref (jm_ts E) := by
  show (if (-3 : Int) = -1 then Value.null else Value.ref (jm_ad E (-3))) = _
  rw [if_neg (by omega)]
  unfold jm_ad
  rw [if_neg (by omega), if_neg (by omega), if_pos rfl]
theorem jm_getTS {idx : Nat} (hlink : Cond.fieldLink Y.1.cls idx "CombTable$Tape" "TERMS" "[LCombTable$Term;" ∈ jm_tbl) (hd : decode Y.2.1 pc = .ok (.getstatic idx, 3)) (h : jm_G E Y R n' n cs sl (pc + 3) L (jm_R (-3) :: st) μ Q) : jm_G E Y R n' n cs sl pc L st μ Q := by
  intro p e s m args below meth c Z H locs ls C hZ hR hS hl hL hst
  have hX : jm_X0 E s s.heap := C.2.2.2.2.2.2.2.2.1.1
  refine va_gets C.1 C.2.1 hX.2.2.1 hS C.2.2.2.1 (C.2.2.2.2.1 _ hlink) (fun _ z => z) hd ?_
  rw [← jm_cvTS (E := E)]
  exact h p e s m args below meth c Z H locs ls C hZ hR hS hl hL (jm_cons trivial hst)
theorem jm_TSlen (hd : decode Y.2.1 pc = .ok (.arraylength, 1)) (h : jm_G E Y R n' n cs sl (pc + 1) L (jm_I 26 :: st) μ Q) : jm_G E Y R n' n cs sl pc L (jm_R (-3) :: st) μ Q := by
  intro p e s m args below meth c Z H locs ls C hZ hR hS hl hL hst
  have hX : jm_X0 E s s.heap := C.2.2.2.2.2.2.2.2.1.1
  rw [List.map_cons, jm_cvTS]
  exact va_tlen C.1 C.2.1 hX.2.2.2.1 hS (v := Int32.ofInt 26) rfl hd (h p e s m args below meth c Z H locs ls C hZ hR hS hl hL (jm_cons ⟨by omega, by omega⟩ (jm_tail hst)))
theorem jm_TSld {i : Int} (hd : decode Y.2.1 pc = .ok (.aaload, 1)) (h0 : 0 ≤ i) (h1 : i < 26) (h : jm_G E Y R n' n cs sl (pc + 1) L (jm_R (-11 - i) :: st) μ Q) : jm_G E Y R n' n cs sl pc L (jm_I i :: jm_R (-3) :: st) μ Q := by
  obtain ⟨j, rfl⟩ := jm_nat h0
  intro p e s m args below meth c Z H locs ls C hZ hR hS hl hL hst
  have hX : jm_X0 E s s.heap := C.2.2.2.2.2.2.2.2.1.1
  have hi := hst _ List.mem_cons_self
  rw [List.map_cons, List.map_cons, jm_cvTS]
  refine vb_tq C.1 C.2.1 hX.2.2.2.1 hS (i := Int32.ofInt j) (v := .ref (jm_aT E j)) (jm_vpin hi (by omega)) (by rw [jm_clamp hi]) hd ?_
  rw [← jm_cvT (E := E) (show j < 26 by omega)]
  exact h p e s m args below meth c Z H locs ls C hZ hR hS hl hL (jm_cons trivial (jm_tail2 hst))
theorem jm_it_nat {a : Int} (ha : jm_it a) : ∃ i : Nat, i < 26 ∧ a = -11 - (i : Int) ∧ (-11 - a).toNat = i := ⟨(-11 - a).toNat, by unfold jm_it at ha; omega, by unfold jm_it at ha; omega, rfl⟩
theorem jm_tdr : ∀ i : Nat, i < 26 → jm_ok (jm_I (jm_td.getD i 0)) := by
  have h : ∀ i : Fin 26, (-2147483648 ≤ jm_td.getD i.1 0 ∧ jm_td.getD i.1 0 < 2147483648) := by decide +kernel
  exact fun i hi => h ⟨i, hi⟩
theorem jm_tler : ∀ i : Nat, i < 26 → jm_ok (jm_L (jm_tle.getD i 0)) := by
  have h : ∀ i : Fin 26, (-9223372036854775808 ≤ jm_tle.getD i.1 0 ∧ jm_tle.getD i.1 0 < 9223372036854775808) := by decide +kernel
  exact fun i hi => h ⟨i, hi⟩
theorem jm_getTl {idx : Nat} {a : Int} (ha : jm_it a) (hlink : Cond.fieldLink Y.1.cls idx "CombTable$Term" "letters" "J" ∈ jm_tbl) (hd : decode Y.2.1 pc = .ok (.getfield idx, 3)) (h : jm_G E Y R n' n cs sl (pc + 3) L (jm_L (jm_le a) :: st) μ Q) : jm_G E Y R n' n cs sl pc L (jm_R a :: st) μ Q := by
  obtain ⟨i, hi, rfl, e⟩ := jm_it_nat ha
  intro p e s m args below meth c Z H locs ls C hZ hR hS hl hL hst
  have hX : jm_X0 E s s.heap := C.2.2.2.2.2.2.2.2.1.1
  obtain ⟨cf, k, fi, f, cell, h1, h2, h3, h4, h5, h6⟩ := ((hX.1 i hi).2.1).kept hS.2.1
  rw [List.map_cons, jm_cvT hi]
  refine W.getf C.1 C.2.1 C.2.2.2.1 (C.2.2.2.2.1 _ hlink) h1 h2 h3 h4 h5 rfl rfl hd ?_
  have := h p e s m args below meth c Z H locs ls C hZ hR hS hl hL (jm_cons (by unfold jm_le; rename_i e0; rw [e0]; exact jm_tler i hi) (jm_tail hst))
  unfold jm_le at this
  rename_i e0
  rw [e0] at this
  exact this
theorem jm_getTd {idx : Nat} {a : Int} (ha : jm_it a) (hlink : Cond.fieldLink Y.1.cls idx "CombTable$Term" "does" "I" ∈ jm_tbl) (hd : decode Y.2.1 pc = .ok (.getfield idx, 3)) (h : jm_G E Y R n' n cs sl (pc + 3) L (jm_I (jm_do a) :: st) μ Q) : jm_G E Y R n' n cs sl pc L (jm_R a :: st) μ Q := by
  obtain ⟨i, hi, rfl, e⟩ := jm_it_nat ha
  intro p e s m args below meth c Z H locs ls C hZ hR hS hl hL hst
  have hX : jm_X0 E s s.heap := C.2.2.2.2.2.2.2.2.1.1
  obtain ⟨cf, k, fi, f, cell, h1, h2, h3, h4, h5, h6⟩ := ((hX.1 i hi).2.2).kept hS.2.1
  rw [List.map_cons, jm_cvT hi]
  refine W.getf C.1 C.2.1 C.2.2.2.1 (C.2.2.2.2.1 _ hlink) h1 h2 h3 h4 h5 rfl rfl hd ?_
  have := h p e s m args below meth c Z H locs ls C hZ hR hS hl hL (jm_cons (by unfold jm_do; rename_i e0; rw [e0]; exact jm_tdr i hi) (jm_tail hst))
  unfold jm_do at this
  rename_i e0
  rw [e0] at this
  exact this
/-! the script -/
theorem jm_cvS : jm_cv E (jm_R (-2)) = .ref (jm_sc E) := by
  show (if (-2 : Int) = -1 then Value.null else Value.ref (jm_ad E (-2))) = _
  rw [if_neg (by omega)]
  unfold jm_ad
  rw [if_neg (by omega), if_pos rfl]
theorem jm_slen (hL0 : jm_sL E < 2147483648) (hd : decode Y.2.1 pc = .ok (.arraylength, 1)) (h : jm_G E Y R n' n cs sl (pc + 1) L (jm_I (jm_sL E) :: st) μ Q) : jm_G E Y R n' n cs sl pc L (jm_R (-2) :: st) μ Q := by
  intro p e s m args below meth c Z H locs ls C hZ hR hS hl hL hst
  have hX : jm_X0 E s s.heap := C.2.2.2.2.2.2.2.2.1.1
  have hb : jm_b E ≤ s.heap.size := C.2.2.2.2.2.2.2.2.2
  rw [List.map_cons, jm_cvS]
  exact va_slen C.1 C.2.1 hX.2.2.2.2.1 (Nat.lt_of_lt_of_le hX.2.2.2.2.2 hb) (Nat.not_le.mpr hX.2.2.2.2.2) hS hd (h p e s m args below meth c Z H locs ls C hZ hR hS hl hL (jm_cons ⟨by omega, by omega⟩ (jm_tail hst)))
theorem jm_sld {i : Int} (hd : decode Y.2.1 pc = .ok (.iaload, 1)) (h0 : 0 ≤ i) (h1 : i < jm_sL E) (h : jm_G E Y R n' n cs sl (pc + 1) L (jm_I (jm_sx E i.toNat).toInt :: st) μ Q) : jm_G E Y R n' n cs sl pc L (jm_I i :: jm_R (-2) :: st) μ Q := by
  obtain ⟨j, rfl⟩ := jm_nat h0
  intro p e s m args below meth c Z H locs ls C hZ hR hS hl hL hst
  have hX : jm_X0 E s s.heap := C.2.2.2.2.2.2.2.2.1.1
  have hb : jm_b E ≤ s.heap.size := C.2.2.2.2.2.2.2.2.2
  have hi := hst _ List.mem_cons_self
  rw [List.map_cons, List.map_cons, jm_cvS]
  refine va_sld C.1 C.2.1 hX.2.2.2.2.1 (Nat.lt_of_lt_of_le hX.2.2.2.2.2 hb) (Nat.not_le.mpr hX.2.2.2.2.2) hS (i := Int32.ofInt j) (jm_vpin hi (by omega)) hd ?_
  rw [jm_clamp hi]
  have := h p e s m args below meth c Z H locs ls C hZ hR hS hl hL (jm_cons (jm_ok32 _) (jm_tail2 hst))
  rw [List.map_cons] at this
  have e1 : jm_cv E (jm_I (jm_sx E (j : Int).toNat).toInt) = .int (jm_sx E j) := by
    show Value.int (Int32.ofInt _) = _
    rw [jm_ofToInt]
    rfl
  rw [e1] at this
  exact this
/-! copies of rows -/
theorem jm_cpy_ne {src sp dst dp k q : Int} (h : q ≠ dst) : jm_cpy μ src sp dst dp k q = μ q := by
  funext j
  unfold jm_cpy
  rw [if_neg (fun z => h z.1)]
/-- the row of cells beside the places -/
def jm_xl (E : jm_E) (f : Nat → Int32) : va_W := if jm_xp E = 0 then [] else [(jm_b E + jm_xp E, .inl (jm_cA E 0, 60, .inl f))]
theorem jm_xl_of {H : Heap} (h : jm_xr E H) (hn : n ≤ jm_N) : ∃ f : Nat → Int32, va_P (jm_D E) jm_cl (jm_xl E f) H ∧ va_D (jm_A E) (jm_ws E n μ ++ jm_xl E f) := by
  have key : ∀ (X : va_W), (X = [] ∨ ∃ (x : Nat) (e : va_E), jm_N ≤ x ∧ X = [(jm_b E + x, e)]) → va_D (jm_A E) (jm_ws E n μ ++ X) := by
    intro X hX
    have k1 : ∀ (k : Nat) (q : Nat × va_E), (jm_ws E n μ ++ X)[k]? = some q → (k < n ∧ q.1 = jm_b E + k) ∨ (k = n ∧ jm_b E + jm_N ≤ q.1) := by
      intro k q hk
      by_cases hkn : k < n
      · rw [List.getElem?_append_left (by rw [jm_ws_len]; exact hkn), jm_ws_get hkn] at hk
        cases hk
        exact Or.inl ⟨hkn, rfl⟩
      · rw [List.getElem?_append_right (by rw [jm_ws_len]; omega), jm_ws_len] at hk
        rcases hX with rfl | ⟨x, e, hx, rfl⟩
        · simp at hk
        · by_cases h0 : k - n = 0
          · rw [h0] at hk
            cases hk
            exact Or.inr ⟨by omega, Nat.add_le_add_left hx _⟩
          · have := (List.getElem?_eq_some_iff.mp hk).1
            simp at this
            omega
    refine ⟨fun i j p q hi hj hpq => ?_, fun k q hk => ?_⟩
    · have h1 := k1 i p hi
      have h2 := k1 j q hj
      omega
    · have h1 := k1 k q hk
      show jm_b E ≤ q.1
      omega
  rcases h with h | ⟨h1, f, h2⟩
  · refine ⟨fun _ => 0, ?_, key _ (Or.inl (by unfold jm_xl; rw [if_pos h]))⟩
    unfold jm_xl
    rw [if_pos h]
    intro k q hk
    simp at hk
  · have h0 : jm_xp E ≠ 0 := fun z => absurd (z ▸ h1 : jm_N ≤ 0) (by decide)
    refine ⟨f, ?_, key _ (Or.inr ⟨_, _, h1, by unfold jm_xl; rw [if_neg h0]⟩)⟩
    unfold jm_xl
    rw [if_neg h0]
    intro k q hk
    have hk0 : k < 1 := (List.getElem?_eq_some_iff.mp hk).1
    rw [show k = 0 by omega] at hk
    cases hk
    exact h2
theorem jm_xl_back {H1 : Heap} {f : Nat → Int32} {H : Heap} (h0 : jm_xr E H) (h : va_P (jm_D E) jm_cl (jm_xl E f) H1) : jm_xr E H1 := by
  rcases h0 with h1 | ⟨h1, -, -⟩
  · exact Or.inl h1
  · have h2 : jm_xp E ≠ 0 := fun z => absurd (z ▸ h1 : jm_N ≤ 0) (by decide)
    refine Or.inr ⟨h1, f, h 0 _ ?_⟩
    unfold jm_xl
    rw [if_neg h2]
    rfl
theorem jm_P_left {w1 w2 : va_W} {H : Heap} (h : va_P (jm_D E) jm_cl (w1 ++ w2) H) : va_P (jm_D E) jm_cl w1 H ∧ va_P (jm_D E) jm_cl w2 H := by
  refine ⟨fun k q hk => h k q ?_, fun k q hk => h (w1.length + k) q ?_⟩
  · rw [List.getElem?_append_left (List.getElem?_eq_some_iff.mp hk).1]
    exact hk
  · rw [List.getElem?_append_right (Nat.le_add_right _ _), Nat.add_sub_cancel_left]
    exact hk
theorem jm_Rel_cpy {H1 : Heap} {d : Nat} {e : va_E} {μ' : jm_M} (hn : n = jm_N) (hd : d < n) (hd1 : (jm_s d).1 ≠ 1) (hxr : jm_xr E H1) (hW : jm_WF μ) (hO : ∀ k : Nat, k < n → jm_okc μ k) (hne : ∀ j : Nat, j ≠ d → μ' (j : Int) = μ j) (he : jm_cell E μ' d = e) (ho : jm_okc μ' d) (hP : va_P (jm_D E) jm_cl ((jm_ws E n μ).set d (jm_b E + d, e)) H1) : jm_Rel E n μ' H1 := by
  have hw : (jm_ws E n μ).set d (jm_b E + d, e) = jm_ws E n μ' := jm_ws_set hd he (fun j hj => by unfold jm_cell; rw [hne j hj])
  rw [hw] at hP
  refine ⟨hP, fun j hj => ?_, by omega, ?_, fun z => absurd z (by omega), fun _ => ⟨fun q hq => ?_, hxr⟩⟩
  · by_cases e2 : j = d
    · subst e2; exact ho
    · have h4 := hO j hj
      unfold jm_okc at h4 ⊢
      rw [hne j e2]
      exact h4
  · have h0 : 0 < n := by rw [hn]; decide
    have h1 := (hP (n - 1) _ (jm_ws_get (show n - 1 < n by omega))).lt
    have h2 : jm_b E + (n - 1) < H1.size := h1
    omega
  · have h5 := jm_frl_ok q hq
    have h6 : q.1 = ((q.1.toNat : Nat) : Int) := by omega
    have h7 : q.1.toNat ≠ d := fun z => hd1 (by rw [← z]; exact h5.2.2.1)
    have h8 := hne _ h7
    rw [← h6] at h8
    rw [h8]
    exact hW q hq
theorem jm_nfw : nativeFrameWords "java/lang/System" "arraycopy" 5 + 11 ≤ 36 := by decide +kernel
theorem jm_acopy {idx : Nat} {src dst k : Int} (hn : n = jm_N) (hml : 36 ≤ R.locals ∧ 1 ≤ R.frames) (hst0 : st = []) (hlink : Cond.methodLink Y.1.cls idx arraycopyName ∈ jm_tbl) (hnat : Cond.native arraycopyName ∈ jm_tbl) (hstat : Cond.static arraycopyName ∈ jm_tbl) (hini : Cond.initialized "java/lang/System" ∈ jm_tbl) (hd : decode Y.2.1 pc = .ok (.invokestatic idx, 3))
    (h0 : 0 ≤ k) (hx : 0 ≤ src ∧ src < n ∧ jm_sk src = 2 ∧ k ≤ jm_sn src) (hy : 0 ≤ dst ∧ dst < n ∧ jm_sk dst = 2 ∧ k ≤ jm_sn dst) (h : jm_G E Y R n' n cs sl (pc + 3) L st (jm_cpy μ src 0 dst 0 k) Q) : jm_G E Y R n' n cs sl pc L (jm_I k :: jm_I 0 :: jm_R dst :: jm_I 0 :: jm_R src :: st) μ Q := by
  subst hst0
  obtain ⟨x1, x2, x3, x4⟩ := hx
  obtain ⟨y1, y2, y3, y4⟩ := hy
  obtain ⟨q0, rfl⟩ := jm_nat x1
  obtain ⟨q1, rfl⟩ := jm_nat y1
  obtain ⟨j, rfl⟩ := jm_nat h0
  rw [jm_sk_nat] at x3 y3
  rw [jm_sn_nat] at x4 y4
  have k0 : q0 < n := by omega
  have k1 : q1 < n := by omega
  intro p e s m args below meth c Z H locs ls C hZ hR hS hl hL hst
  have hts := C.2.2.2.2.1
  have hK : va_K (jm_D E) jm_cl (jm_tys E) s := C.2.2.2.2.2.2.2.1
  have hi := hst _ List.mem_cons_self
  have g0 := jm_ws_get (E := E) (m := μ) k0
  have g1 := jm_ws_get (E := E) (m := μ) k1
  rw [jm_cell_a (by omega) (by omega), x3] at g0
  rw [jm_cell_a (by omega) (by omega), y3] at g1
  rw [List.map_cons, List.map_cons, List.map_cons, List.map_cons, List.map_cons, jm_cvR, jm_cvR]
  have c0 : (Int32.ofInt (0 : Int)).toNatClampNeg = 0 := by decide +kernel
  have n0 : ¬ Int32.ofInt (0 : Int) < 0 := by decide +kernel
  have hxr := (hR.2.2.2.2.2 hn).2
  obtain ⟨fx, hXP, hXD⟩ := jm_xl_of (μ := μ) (n := n) hxr (Nat.le_of_eq hn)
  have g0' := (List.getElem?_append_left (l₂ := jm_xl E fx) (by rw [jm_ws_len]; exact k0)).trans g0
  have g1' := (List.getElem?_append_left (l₂ := jm_xl E fx) (by rw [jm_ws_len]; exact k1)).trans g1
  refine va_copyi C.1 C.2.1 (C.2.2.1.trans hl.1.symm) C.2.2.2.1 (hts _ hlink) (hts _ hnat) (hts _ hstat) (hts _ hini) hK (hR.1.app hXP) hXD hS q0 q1 0 0 g0' g1' rfl rfl rfl (sp := Int32.ofInt 0) (dp := Int32.ofInt 0) (n := Int32.ofInt j) n0 n0 (fun z => by have := (jm_lt32 hi jm_0ok).mp z; omega)
    (by rw [c0, jm_clamp hi]; omega) (by rw [c0, jm_clamp hi]; omega) (fun _ _ => rfl) hml.2 (by have := jm_nfw; have := hml.1; simp; omega) hd fun H1 locs1 hP1 _ hS1 => ?_
  rw [c0, jm_clamp hi, List.set_append_left _ _ (by rw [jm_ws_len]; exact k1)] at hP1
  obtain ⟨hP1, hPx⟩ := jm_P_left hP1
  refine h p e s m args below meth c Z H1 locs1 ls C hZ (jm_Rel_cpy hn k1 (by omega) (jm_xl_back hxr hPx) (hR.2.2.2.2.2 hn).1 hR.2.1 (fun z hz => jm_cpy_ne (by omega)) ?_ ?_ hP1) hS1 hl hL (fun _ z => by cases z)
  · rw [jm_cell_a (by omega) (by omega), y3]
    congr 4
    funext z
    unfold jm_cpy va_cpy
    by_cases hz : z < j
    · rw [if_pos ⟨rfl, by omega, by omega⟩, if_pos ⟨by omega, by omega⟩]
      first | (congr 2; done) | (congr 2; omega)
    · rw [if_neg (by omega), if_neg (by omega)]
  · unfold jm_okc
    rw [if_neg (by omega), if_neg (by omega)]
    intro z hz
    unfold jm_cpy
    by_cases hzj : (z : Int) < 0 + j
    · rw [if_pos ⟨rfl, by omega, hzj⟩]
      have e2 : (0 : Int) + ((z : Int) - 0) = z := by omega
      rw [e2]
      exact jm_okc_a (by omega) (by omega) (hR.2.1 q0 k0) (by omega)
    · rw [if_neg (fun q => hzj q.2.2)]
      exact jm_okc_a (by omega) (by omega) (hR.2.1 q1 k1) hz
theorem jm_acopyl {idx : Nat} {src dst k : Int} (hn : n = jm_N) (hml : 36 ≤ R.locals ∧ 1 ≤ R.frames) (hst0 : st = []) (hlink : Cond.methodLink Y.1.cls idx arraycopyName ∈ jm_tbl) (hnat : Cond.native arraycopyName ∈ jm_tbl) (hstat : Cond.static arraycopyName ∈ jm_tbl) (hini : Cond.initialized "java/lang/System" ∈ jm_tbl) (hd : decode Y.2.1 pc = .ok (.invokestatic idx, 3))
    (h0 : 0 ≤ k) (hx : 0 ≤ src ∧ src < n ∧ jm_sk src = 3 ∧ k ≤ jm_sn src) (hy : 0 ≤ dst ∧ dst < n ∧ jm_sk dst = 3 ∧ k ≤ jm_sn dst) (h : jm_G E Y R n' n cs sl (pc + 3) L st (jm_cpy μ src 0 dst 0 k) Q) : jm_G E Y R n' n cs sl pc L (jm_I k :: jm_I 0 :: jm_R dst :: jm_I 0 :: jm_R src :: st) μ Q := by
  subst hst0
  obtain ⟨x1, x2, x3, x4⟩ := hx
  obtain ⟨y1, y2, y3, y4⟩ := hy
  obtain ⟨q0, rfl⟩ := jm_nat x1
  obtain ⟨q1, rfl⟩ := jm_nat y1
  obtain ⟨j, rfl⟩ := jm_nat h0
  rw [jm_sk_nat] at x3 y3
  rw [jm_sn_nat] at x4 y4
  have k0 : q0 < n := by omega
  have k1 : q1 < n := by omega
  intro p e s m args below meth c Z H locs ls C hZ hR hS hl hL hst
  have hts := C.2.2.2.2.1
  have hK : va_K (jm_D E) jm_cl (jm_tys E) s := C.2.2.2.2.2.2.2.1
  have hi := hst _ List.mem_cons_self
  have g0 := jm_ws_get (E := E) (m := μ) k0
  have g1 := jm_ws_get (E := E) (m := μ) k1
  rw [jm_cell_l x3] at g0
  rw [jm_cell_l y3] at g1
  rw [List.map_cons, List.map_cons, List.map_cons, List.map_cons, List.map_cons, jm_cvR, jm_cvR]
  have c0 : (Int32.ofInt (0 : Int)).toNatClampNeg = 0 := by decide +kernel
  have n0 : ¬ Int32.ofInt (0 : Int) < 0 := by decide +kernel
  have hxr := (hR.2.2.2.2.2 hn).2
  obtain ⟨fx, hXP, hXD⟩ := jm_xl_of (μ := μ) (n := n) hxr (Nat.le_of_eq hn)
  have g0' := (List.getElem?_append_left (l₂ := jm_xl E fx) (by rw [jm_ws_len]; exact k0)).trans g0
  have g1' := (List.getElem?_append_left (l₂ := jm_xl E fx) (by rw [jm_ws_len]; exact k1)).trans g1
  refine va_copyl C.1 C.2.1 (C.2.2.1.trans hl.1.symm) C.2.2.2.1 (hts _ hlink) (hts _ hnat) (hts _ hstat) (hts _ hini) hK (hR.1.app hXP) hXD hS q0 q1 1 1 g0' g1' rfl rfl rfl (sp := Int32.ofInt 0) (dp := Int32.ofInt 0) (n := Int32.ofInt j) n0 n0 (fun z => by have := (jm_lt32 hi jm_0ok).mp z; omega)
    (by rw [c0, jm_clamp hi]; omega) (by rw [c0, jm_clamp hi]; omega) (fun _ _ => rfl) hml.2 (by have := jm_nfw; have := hml.1; simp; omega) hd fun H1 locs1 hP1 _ hS1 => ?_
  rw [c0, jm_clamp hi, List.set_append_left _ _ (by rw [jm_ws_len]; exact k1)] at hP1
  obtain ⟨hP1, hPx⟩ := jm_P_left hP1
  refine h p e s m args below meth c Z H1 locs1 ls C hZ (jm_Rel_cpy hn k1 (by omega) (jm_xl_back hxr hPx) (hR.2.2.2.2.2 hn).1 hR.2.1 (fun z hz => jm_cpy_ne (by omega)) ?_ ?_ hP1) hS1 hl hL (fun _ z => by cases z)
  · rw [jm_cell_l y3]
    congr 5
    funext z
    unfold jm_cpy va_cpy
    by_cases hz : z < j
    · rw [if_pos ⟨rfl, by omega, by omega⟩, if_pos ⟨by omega, by omega⟩]
      first | (congr 2; done) | (congr 2; omega)
    · rw [if_neg (by omega), if_neg (by omega)]
  · unfold jm_okc
    rw [if_neg (by omega), if_pos y3]
    intro z hz
    unfold jm_cpy
    by_cases hzj : (z : Int) < 0 + j
    · rw [if_pos ⟨rfl, by omega, hzj⟩]
      have e2 : (0 : Int) + ((z : Int) - 0) = z := by omega
      rw [e2]
      exact jm_okc_l x3 (hR.2.1 q0 k0) (by omega)
    · rw [if_neg (fun q => hzj q.2.2)]
      exact jm_okc_l y3 (hR.2.1 q1 k1) hz
end JMC
