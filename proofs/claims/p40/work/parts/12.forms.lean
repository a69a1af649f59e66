/-! the forms that the printed rules take -/
abbrev jg (E : jm_E) (Y : jm_Y) (d pc : Nat) (L : List (Option jm_V)) (st : List jm_V) (μ : jm_M) (Q : Option jm_V → jm_M → Prop) : Prop := jm_G E Y (jm_rm (d + 1) 0 0) jm_N jm_N 0 0 pc L st μ Q
abbrev jc (E : jm_E) (Y : jm_Y) (d : Nat) (av : List jm_V) (μ : jm_M) (Q : Option jm_V → jm_M → Prop) : Prop := jm_Cl E Y d jm_N jm_N 0 0 av μ Q
theorem jm_Cl.mono {E : jm_E} {Y : jm_Y} {d n n' mc ms : Nat} {av : List jm_V} {μ : jm_M} {Q Q' : Option jm_V → jm_M → Prop} (h : jm_Cl E Y d n n' mc ms av μ Q) (hq : ∀ o m, Q o m → jm_rok Y.2.2.2 o → Q' o m) : jm_Cl E Y d n n' mc ms av μ Q' := by
  intro hav p e h1 h2 h3 s m args below h4 h5 h6 h7
  obtain ⟨k, o, a1, a2, a3, ⟨r, m1, b1, b2, b3, b4, b5⟩, a5⟩ := h hav p e h1 h2 h3 s m args below h4 h5 h6 h7
  exact ⟨k, o, a1, a2, a3, ⟨r, m1, b1, b2, b3, hq r m1 b4 b3, b5⟩, a5⟩
def jm_cf (C : String) (T : u_T) (N c : Nat) (ty0 : Nat → FieldType) : Prop := (∀ w ∈ u_ws C T N, w ∈ jm_tbl) ∧ jm_cl[c]? = some (C, T, N) ∧ jm_nf c = N ∧ (∀ k, k < N → parseFieldDescriptor (T k).2.2.1 = some (ty0 k)) ∧ (∀ a, a < N → ∀ b, b < N → a ≠ b → (T a).2.1 ≠ (T b).2.1)
def jm_subl : List (Option jm_V) → List (Option jm_V) → Prop
  | [], _ => True
  | none :: t, _ :: u => jm_subl t u
  | some a :: t, b :: u => b = some a ∧ jm_subl t u
  | _ :: _, [] => False
def jm_ia (n : Nat) (a : Int) (t : Nat) : Prop := 0 ≤ a ∧ a < n ∧ jm_sk a = t ∧ jm_sn a < 2147483648
section JMF2
variable {E : jm_E} {Y : jm_Y} {R : Room} {n' n cs sl pc : Nat} {L : List (Option jm_V)} {st : List jm_V} {μ : jm_M} {Q : Option jm_V → jm_M → Prop}
theorem jm_okI {x : Int} (h1 : -2147483648 ≤ x) (h2 : x < 2147483648) : jm_ok (jm_I x) := ⟨h1, h2⟩
theorem jm_okL {x : Int} (h1 : -9223372036854775808 ≤ x) (h2 : x < 9223372036854775808) : jm_ok (jm_L x) := ⟨h1, h2⟩
theorem jm_subl_at : ∀ (L' L : List (Option jm_V)), jm_subl L' L → ∀ (i : Nat) (v : jm_V), L'[i]? = some (some v) → L[i]? = some (some v)
  | [], _, _, i, v, h => by simp at h
  | none :: t, [], hs, _, _, _ => hs.elim
  | some a :: t, [], hs, _, _, _ => hs.elim
  | none :: t, b :: u, hs, 0, v, h => by simp at h
  | none :: t, b :: u, hs, i + 1, v, h => by
    have h1 : t[i]? = some (some v) := by simpa using h
    simpa using jm_subl_at t u hs i v h1
  | some a :: t, b :: u, hs, 0, v, h => by
    have h1 : a = v := by simpa using h
    subst h1
    simp [hs.1]
  | some a :: t, b :: u, hs, i + 1, v, h => by
    have h1 : t[i]? = some (some v) := by simpa using h
    simpa using jm_subl_at t u hs.2 i v h1
theorem jm_weak {L' : List (Option jm_V)} (hs : jm_subl L' L) (h : jm_G E Y R n' n cs sl pc L' st μ Q) : jm_G E Y R n' n cs sl pc L st μ Q := by
  intro p e s m args below meth c Z H locs ls C hZ hR hS hl hL hst
  refine h p e s m args below meth c Z H locs ls C hZ hR hS (jm_lv_mono hl fun q hq => ?_) (fun i v hv => hL i v (jm_subl_at L' L hs i v hv)) hst
  obtain ⟨i, v, h1, h2⟩ := jm_lo_inv _ _ _ hq
  rw [h1]
  exact jm_lo_mem L 0 i v (jm_subl_at L' L hs i v h2)
theorem jm_rokI {o : Option jm_V} (h : jm_rok (some .int) o) : ∃ r, o = some (jm_I r) := by
  rcases h with ⟨q, -⟩ | ⟨-, h⟩ | ⟨q, -⟩ | ⟨q, -⟩ | ⟨⟨_, q⟩, -⟩ | ⟨_, q1 | q1, q, -⟩ <;> first | exact h | (cases q; done) | (subst q1; cases q)
theorem jm_rokZ {o : Option jm_V} (h : jm_rok (some .boolean) o) : ∃ r, o = some (jm_I r) ∧ (r = 0 ∨ r = 1) := by
  rcases h with ⟨q, -⟩ | ⟨q, -⟩ | ⟨-, h⟩ | ⟨q, -⟩ | ⟨⟨_, q⟩, -⟩ | ⟨_, q1 | q1, q, -⟩ <;> first | exact h | (cases q; done) | (subst q1; cases q)
theorem jm_rokL {o : Option jm_V} (h : jm_rok (some .long) o) : ∃ r, o = some (jm_L r) := by
  rcases h with ⟨q, -⟩ | ⟨q, -⟩ | ⟨q, -⟩ | ⟨-, h⟩ | ⟨⟨_, q⟩, -⟩ | ⟨_, q1 | q1, q, -⟩ <;> first | exact h | (cases q; done) | (subst q1; cases q)
theorem jm_rokV {o : Option jm_V} (h : jm_rok none o) : o = none := by
  rcases h with ⟨-, h⟩ | ⟨q, -⟩ | ⟨q, -⟩ | ⟨q, -⟩ | ⟨⟨_, q⟩, -⟩ | ⟨_, q1 | q1, q, -⟩ <;> first | exact h | (cases q; done) | (subst q1; cases q)
theorem jm_rokR {o : Option jm_V} {nm : String} (h : jm_rok (some (.object nm)) o) : ∃ r, o = some (jm_R r) := by
  rcases h with ⟨q, -⟩ | ⟨q, -⟩ | ⟨q, -⟩ | ⟨q, -⟩ | ⟨-, h⟩ | ⟨_, q1 | q1, q, -⟩ <;> first | exact h | (cases q; done) | (subst q1; cases q)
theorem jm_r_I {x : Int} : jm_rok (some .int) (some (jm_I x)) := Or.inr (Or.inl ⟨rfl, x, rfl⟩)
theorem jm_r_Z {x : Int} (h : x = 0 ∨ x = 1) : jm_rok (some .boolean) (some (jm_I x)) := Or.inr (Or.inr (Or.inl ⟨rfl, x, rfl, h⟩))
theorem jm_r_L {x : Int} : jm_rok (some .long) (some (jm_L x)) := Or.inr (Or.inr (Or.inr (Or.inl ⟨rfl, x, rfl⟩)))
theorem jm_r_V : jm_rok none none := Or.inl ⟨rfl, rfl⟩
theorem jm_r_R {x : Int} {nm : String} : jm_rok (some (.object nm)) (some (jm_R x)) := Or.inr (Or.inr (Or.inr (Or.inr (Or.inl ⟨⟨nm, rfl⟩, x, rfl⟩))))
theorem jm_r_C {x : Int} (h : narrow .char (.int (Int32.ofInt x)) = .int (Int32.ofInt x)) : jm_rok (some .char) (some (jm_I x)) := Or.inr (Or.inr (Or.inr (Or.inr (Or.inr ⟨.char, Or.inl rfl, rfl, x, rfl, h⟩))))
theorem jm_r_B {x : Int} (h : narrow .byte (.int (Int32.ofInt x)) = .int (Int32.ofInt x)) : jm_rok (some .byte) (some (jm_I x)) := Or.inr (Or.inr (Or.inr (Or.inr (Or.inr ⟨.byte, Or.inr rfl, rfl, x, rfl, h⟩))))
theorem jm_rokC {o : Option jm_V} (h : jm_rok (some .char) o) : ∃ r, o = some (jm_I r) := by
  rcases h with ⟨q, -⟩ | ⟨q, -⟩ | ⟨q, -⟩ | ⟨q, -⟩ | ⟨⟨_, q⟩, -⟩ | ⟨_, -, -, x, h, -⟩ <;> first | exact ⟨_, h⟩ | cases q
theorem jm_rokB {o : Option jm_V} (h : jm_rok (some .byte) o) : ∃ r, o = some (jm_I r) := by
  rcases h with ⟨q, -⟩ | ⟨q, -⟩ | ⟨q, -⟩ | ⟨q, -⟩ | ⟨⟨_, q⟩, -⟩ | ⟨_, -, -, x, h, -⟩ <;> first | exact ⟨_, h⟩ | cases q
theorem jm_getI {C : String} {T : u_T} {N c idx k : Nat} {ty0 : Nat → FieldType} {a ki x : Int} (hcf : jm_cf C T N c ty0) (hk : k < N) (hlink : Cond.fieldLink Y.1.cls idx (T k).1 (T k).2.1 (T k).2.2.1 ∈ jm_tbl) (hd : decode Y.2.1 pc = .ok (.getfield idx, 3)) (ht : jm_ft c k = 0) (hki : (k : Int) = ki)
    (hx : jm_is n a 1 c) (hv : μ a ki = x) (h : jm_G E Y R n' n cs sl (pc + 3) L (jm_I x :: st) μ Q) : jm_G E Y R n' n cs sl pc L (jm_R a :: st) μ Q :=
  jm_getf hcf.1 hcf.2.1 hcf.2.2.1 hk hlink hd hx (by rw [ht, hki, hv]; exact h)
theorem jm_getL {C : String} {T : u_T} {N c idx k : Nat} {ty0 : Nat → FieldType} {a ki x : Int} (hcf : jm_cf C T N c ty0) (hk : k < N) (hlink : Cond.fieldLink Y.1.cls idx (T k).1 (T k).2.1 (T k).2.2.1 ∈ jm_tbl) (hd : decode Y.2.1 pc = .ok (.getfield idx, 3)) (ht : jm_ft c k = 1) (hki : (k : Int) = ki)
    (hx : jm_is n a 1 c) (hv : μ a ki = x) (h : jm_G E Y R n' n cs sl (pc + 3) L (jm_L x :: st) μ Q) : jm_G E Y R n' n cs sl pc L (jm_R a :: st) μ Q :=
  jm_getf hcf.1 hcf.2.1 hcf.2.2.1 hk hlink hd hx (by rw [ht, hki, hv]; exact h)
theorem jm_getR {C : String} {T : u_T} {N c idx k : Nat} {ty0 : Nat → FieldType} {a ki x : Int} (hcf : jm_cf C T N c ty0) (hk : k < N) (hlink : Cond.fieldLink Y.1.cls idx (T k).1 (T k).2.1 (T k).2.2.1 ∈ jm_tbl) (hd : decode Y.2.1 pc = .ok (.getfield idx, 3)) (ht : jm_ft c k = 2) (hki : (k : Int) = ki)
    (hx : jm_is n a 1 c) (hv : μ a ki = x) (h : jm_G E Y R n' n cs sl (pc + 3) L (jm_R x :: st) μ Q) : jm_G E Y R n' n cs sl pc L (jm_R a :: st) μ Q :=
  jm_getf hcf.1 hcf.2.1 hcf.2.2.1 hk hlink hd hx (by rw [ht, hki, hv]; exact h)
theorem jm_putI {C : String} {T : u_T} {N c idx k : Nat} {ty0 : Nat → FieldType} {a ki x : Int} (hcf : jm_cf C T N c ty0) (hk : k < N) (hlink : Cond.fieldLink Y.1.cls idx (T k).1 (T k).2.1 (T k).2.2.1 ∈ jm_tbl) (hd : decode Y.2.1 pc = .ok (.putfield idx, 3)) (hfin : (T k).2.2.2 = true → Y.1.name = "<init>" ∧ (T k).1 = Y.1.cls) (ht : jm_ft c k = 0) (hty : ty0 k = .int) (hki : (k : Int) = ki)
    (hwf : n = jm_N → jm_fin c k = false) (hx : jm_is n a 1 c) (h : jm_G E Y R n' n cs sl (pc + 3) L st (jm_up μ a ki x) Q) : jm_G E Y R n' n cs sl pc L (jm_I x :: jm_R a :: st) μ Q :=
  jm_putf ty0 hcf.1 hcf.2.2.2.1 hcf.2.2.2.2 hcf.2.1 hcf.2.2.1 hk hlink hfin hd (x := x) (by rw [ht]; rfl) (by rw [hty]; rfl) (by rw [hty]; rfl) hwf hx (by rw [hki]; exact h)
theorem jm_putZ {C : String} {T : u_T} {N c idx k : Nat} {ty0 : Nat → FieldType} {a ki x : Int} (hcf : jm_cf C T N c ty0) (hk : k < N) (hlink : Cond.fieldLink Y.1.cls idx (T k).1 (T k).2.1 (T k).2.2.1 ∈ jm_tbl) (hd : decode Y.2.1 pc = .ok (.putfield idx, 3)) (hfin : (T k).2.2.2 = true → Y.1.name = "<init>" ∧ (T k).1 = Y.1.cls) (ht : jm_ft c k = 0) (hty : ty0 k = .boolean) (hki : (k : Int) = ki)
    (h01 : x = 0 ∨ x = 1) (hwf : n = jm_N → jm_fin c k = false) (hx : jm_is n a 1 c) (h : jm_G E Y R n' n cs sl (pc + 3) L st (jm_up μ a ki x) Q) : jm_G E Y R n' n cs sl pc L (jm_I x :: jm_R a :: st) μ Q :=
  jm_putf ty0 hcf.1 hcf.2.2.2.1 hcf.2.2.2.2 hcf.2.1 hcf.2.2.1 hk hlink hfin hd (x := x) (by rw [ht]; rfl) (by rw [hty]; exact jm_nz h01) (by rw [hty]; exact jm_fz h01) hwf hx (by rw [hki]; exact h)
theorem jm_putL {C : String} {T : u_T} {N c idx k : Nat} {ty0 : Nat → FieldType} {a ki x : Int} (hcf : jm_cf C T N c ty0) (hk : k < N) (hlink : Cond.fieldLink Y.1.cls idx (T k).1 (T k).2.1 (T k).2.2.1 ∈ jm_tbl) (hd : decode Y.2.1 pc = .ok (.putfield idx, 3)) (hfin : (T k).2.2.2 = true → Y.1.name = "<init>" ∧ (T k).1 = Y.1.cls) (ht : jm_ft c k = 1) (hty : ty0 k = .long) (hki : (k : Int) = ki)
    (hwf : n = jm_N → jm_fin c k = false) (hx : jm_is n a 1 c) (h : jm_G E Y R n' n cs sl (pc + 3) L st (jm_up μ a ki x) Q) : jm_G E Y R n' n cs sl pc L (jm_L x :: jm_R a :: st) μ Q :=
  jm_putf ty0 hcf.1 hcf.2.2.2.1 hcf.2.2.2.2 hcf.2.1 hcf.2.2.1 hk hlink hfin hd (x := x) (by rw [ht]; rfl) (by rw [hty]; rfl) (by rw [hty]; rfl) hwf hx (by rw [hki]; exact h)
theorem jm_putR {C : String} {T : u_T} {N c idx k : Nat} {ty0 : Nat → FieldType} {a ki x : Int} (hcf : jm_cf C T N c ty0) (hk : k < N) (hlink : Cond.fieldLink Y.1.cls idx (T k).1 (T k).2.1 (T k).2.2.1 ∈ jm_tbl) (hd : decode Y.2.1 pc = .ok (.putfield idx, 3)) (hfin : (T k).2.2.2 = true → Y.1.name = "<init>" ∧ (T k).1 = Y.1.cls) (ht : jm_ft c k = 2) (hty : (∃ nm, ty0 k = .object nm) ∨ ∃ t, ty0 k = .array t) (hki : (k : Int) = ki)
    (hwf : n = jm_N → jm_fin c k = false) (hx : jm_is n a 1 c) (h : jm_G E Y R n' n cs sl (pc + 3) L st (jm_up μ a ki x) Q) : jm_G E Y R n' n cs sl pc L (jm_R x :: jm_R a :: st) μ Q := by
  have hcv : jm_cv E (jm_R x) = .null ∨ ∃ a, jm_cv E (jm_R x) = .ref a := by
    show (if x = -1 then Value.null else Value.ref (jm_ad E x)) = .null ∨ ∃ a, (if x = -1 then Value.null else Value.ref (jm_ad E x)) = .ref a
    split
    · exact Or.inl rfl
    · exact Or.inr ⟨_, rfl⟩
  refine jm_putf ty0 hcf.1 hcf.2.2.2.1 hcf.2.2.2.2 hcf.2.1 hcf.2.2.1 hk hlink hfin hd (x := x) (by rw [ht]; rfl) ?_ ?_ hwf hx (by rw [hki]; exact h)
  · rcases hty with ⟨nm, hty⟩ | ⟨t, hty⟩ <;> rcases hcv with q | ⟨a, q⟩ <;> rw [hty, q] <;> rfl
  · rcases hty with ⟨nm, hty⟩ | ⟨t, hty⟩ <;> rcases hcv with q | ⟨a, q⟩ <;> rw [hty, q] <;> rfl
/-- a field that is set once -/
theorem jm_getF {C : String} {T : u_T} {N c idx k : Nat} {ty0 : Nat → FieldType} {a ki x : Int} (hn : n = jm_N) (hcf : jm_cf C T N c ty0) (hk : k < N) (hlink : Cond.fieldLink Y.1.cls idx (T k).1 (T k).2.1 (T k).2.2.1 ∈ jm_tbl) (hd : decode Y.2.1 pc = .ok (.getfield idx, 3)) (ht : jm_ft c k = 2) (hki : (k : Int) = ki)
    (hx : jm_is n a 1 c) (hv : (a, ki, x) ∈ jm_frl) (h : jm_G E Y R n' n cs sl (pc + 3) L (jm_R x :: st) μ Q) : jm_G E Y R n' n cs sl pc L (jm_R a :: st) μ Q := by
  intro p e s m args below meth cc Z H locs ls C hZ hR hS hl hL hst
  have hw : μ a ki = x := (hR.2.2.2.2.2 hn).1 (a, ki, x) hv
  exact jm_getR hcf hk hlink hd ht hki hx hw h p e s m args below meth cc Z H locs ls C hZ hR hS hl hL hst
theorem jm_alen {a : Int} {t : Nat} (ht : t = 2 ∨ t = 3) (hx : jm_ia n a t) (hd : decode Y.2.1 pc = .ok (.arraylength, 1)) (h : jm_G E Y R n' n cs sl (pc + 1) L (jm_I (jm_sn a) :: st) μ Q) : jm_G E Y R n' n cs sl pc L (jm_R a :: st) μ Q :=
  jm_arrlen ht ⟨hx.1, hx.2.1, hx.2.2.1⟩ hd hx.2.2.2 h
end JMF2
theorem jm_up_k {m : jm_M} {p i v q : Int} (h : jm_sk q ≠ jm_sk p) : jm_up m p i v q = m q := jm_up_ne (fun z => h (by rw [z]))
theorem jm_up_n {m : jm_M} {p i v q : Int} (h : jm_sn q ≠ jm_sn p) : jm_up m p i v q = m q := jm_up_ne (fun z => h (by rw [z]))
theorem jm_up_kj {m : jm_M} {p i v q j : Int} {k1 k2 : Nat} (h1 : jm_sk q = k1) (h2 : jm_sk p = k2) (h : k1 ≠ k2) : jm_up m p i v q j = m q j := by rw [jm_up_k (by rw [h1, h2]; exact h)]
theorem jm_up_nj {m : jm_M} {p i v q j : Int} {k1 k2 : Nat} (h1 : jm_sn q = k1) (h2 : jm_sn p = k2) (h : k1 ≠ k2) : jm_up m p i v q j = m q j := by rw [jm_up_n (by rw [h1, h2]; exact h)]
