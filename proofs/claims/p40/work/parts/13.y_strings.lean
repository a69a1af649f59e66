/-! String constants of the law: length, charAt -/
/-- a String constant's place -/
def jm_ik (a : Int) : Prop := -114 ≤ a ∧ a ≤ -101
def jm_klen (a : Int) : Int := ((jm_kn.getD (-101 - a).toNat 0 : Nat) : Int)
def jm_kch (a j : Int) : Int := (jm_kt.getD (-101 - a).toNat []).getD j.toNat 0
theorem jm_kall : ∀ i : Nat, i < 14 → jm_kn.getD i 0 ≤ 17 ∧ ∀ j : Nat, j < 17 → (j < jm_kn.getD i 0 → (jm_kb.getD i []).getD j 0 = Int32.ofInt ((jm_kt.getD i []).getD j 0) ∧ 0 ≤ (jm_kt.getD i []).getD j 0 ∧ (jm_kt.getD i []).getD j 0 < 128) := by decide +kernel
section JMK
variable {E : jm_E} {Y : jm_Y} {R : Room} {n' n cs sl pc : Nat} {L : List (Option jm_V)} {st : List jm_V} {μ : jm_M} {Q : Option jm_V → jm_M → Prop}
theorem jm_ik_nat {a : Int} (h : jm_ik a) : ∃ i : Nat, i < 14 ∧ a = -101 - (i : Int) ∧ (-101 - a).toNat = i := ⟨(-101 - a).toNat, by unfold jm_ik at h; omega, by unfold jm_ik at h; omega, rfl⟩
theorem jm_cvK {i : Nat} (hi : i < 14) : jm_cv E (jm_R (-101 - (i : Int))) = .ref (jm_aK E i) := by
  show (if (-101 - (i : Int)) = -1 then Value.null else Value.ref (jm_ad E (-101 - (i : Int)))) = _
  rw [if_neg (by omega)]
  unfold jm_ad
  rw [if_neg (by omega), if_neg (by omega), if_neg (by omega), if_neg (by omega), if_pos (by omega)]
  congr 2
  omega
theorem jm_cvF : jm_cv E (jm_R (-121)) = .ref (jm_aK E 20) := rfl
theorem jm_cvB {i : Nat} : jm_cv E (jm_R (-201 - (i : Int))) = .ref (jm_aV E i) := by
  show (if (-201 - (i : Int)) = -1 then Value.null else Value.ref (jm_ad E (-201 - (i : Int)))) = _
  rw [if_neg (by omega)]
  unfold jm_ad
  rw [if_neg (by omega), if_neg (by omega), if_neg (by omega), if_pos (by omega)]
  congr 2
  omega
theorem jm_ldcK {i idx : Nat} {a : Int} (hi : i < 14) (ha : a = -101 - (i : Int)) (hidx : (jm_ks.getD i (0, "")).1 = idx) (hY : Y.1.cls = "CombTableLaw") (hd : decode Y.2.1 pc = .ok (.ldc idx, 2)) (h : jm_G E Y R n' n cs sl (pc + 2) L (jm_R a :: st) μ Q) : jm_G E Y R n' n cs sl pc L st μ Q := by
  subst ha
  intro p e s m args below meth c Z H locs ls C hZ hR hS hl hL hst
  have hX : jm_XS E s s.heap := C.2.2.2.2.2.2.2.2.1.2.2
  have hk := hX.2.2.2 i hi
  rw [hidx] at hk
  refine va_ldcS C.1 C.2.1 (own := "CombTableLaw") (by rw [← hY]; exact C.2.2.2.1) hk hd ?_
  have h1 := h p e s m args below meth c Z H locs ls C hZ hR hS hl hL (jm_cons trivial hst)
  rw [List.map_cons, jm_cvK hi] at h1
  exact h1
theorem jm_getKc {idx : Nat} {a : Int} (ha : jm_ik a) (hlink : Cond.fieldLink Y.1.cls idx "java/lang/String" "coder" "B" ∈ jm_tbl) (hd : decode Y.2.1 pc = .ok (.getfield idx, 3)) (h : jm_G E Y R n' n cs sl (pc + 3) L (jm_I 0 :: st) μ Q) : jm_G E Y R n' n cs sl pc L (jm_R a :: st) μ Q := by
  obtain ⟨i, hi, rfl, -⟩ := jm_ik_nat ha
  intro p e s m args below meth c Z H locs ls C hZ hR hS hl hL hst
  have hX : jm_XS E s s.heap := C.2.2.2.2.2.2.2.2.1.2.2
  rw [List.map_cons, jm_cvK hi]
  exact vk_getf C.1 C.2.1 (hX.2.2.1.1 i hi).2.1 hS C.2.2.2.1 (C.2.2.2.2.1 _ hlink) (fun _ z => z) hd (h p e s m args below meth c Z H locs ls C hZ hR hS hl hL (jm_cons ⟨by omega, by omega⟩ (jm_tail hst)))
theorem jm_getKv {idx : Nat} {a : Int} (ha : jm_ik a) (hlink : Cond.fieldLink Y.1.cls idx "java/lang/String" "value" "[B" ∈ jm_tbl) (hd : decode Y.2.1 pc = .ok (.getfield idx, 3)) (h : jm_G E Y R n' n cs sl (pc + 3) L (jm_R (a - 100) :: st) μ Q) : jm_G E Y R n' n cs sl pc L (jm_R a :: st) μ Q := by
  obtain ⟨i, hi, rfl, -⟩ := jm_ik_nat ha
  intro p e s m args below meth c Z H locs ls C hZ hR hS hl hL hst
  have hX : jm_XS E s s.heap := C.2.2.2.2.2.2.2.2.1.2.2
  rw [List.map_cons, jm_cvK hi]
  refine vk_getf C.1 C.2.1 (hX.2.2.1.1 i hi).2.2.1 hS C.2.2.2.1 (C.2.2.2.2.1 _ hlink) (fun _ z => z) hd ?_
  have h1 := h p e s m args below meth c Z H locs ls C hZ hR hS hl hL (jm_cons trivial (jm_tail hst))
  rw [List.map_cons, show (-101 - (i : Int)) - 100 = -201 - (i : Int) by omega, jm_cvB] at h1
  exact h1
theorem jm_getCS {idx : Nat} (hlink : Cond.fieldLink Y.1.cls idx "java/lang/String" "COMPACT_STRINGS" "Z" ∈ jm_tbl) (hd : decode Y.2.1 pc = .ok (.getstatic idx, 3)) (h : jm_G E Y R n' n cs sl (pc + 3) L (jm_I 1 :: st) μ Q) : jm_G E Y R n' n cs sl pc L st μ Q := by
  intro p e s m args below meth c Z H locs ls C hZ hR hS hl hL hst
  have hX : jm_XS E s s.heap := C.2.2.2.2.2.2.2.2.1.2.2
  exact va_gets C.1 C.2.1 hX.1 hS C.2.2.2.1 (C.2.2.2.2.1 _ hlink) (fun _ z => z) hd (h p e s m args below meth c Z H locs ls C hZ hR hS hl hL (jm_cons ⟨by omega, by omega⟩ hst))
theorem jm_getFm {idx : Nat} (hlink : Cond.fieldLink Y.1.cls idx jm_fmC "SIOOBE_FORMATTER" jm_fmD ∈ jm_tbl) (hd : decode Y.2.1 pc = .ok (.getstatic idx, 3)) (h : ∀ x : Int, jm_G E Y R n' n cs sl (pc + 3) L (jm_R x :: st) μ Q) : jm_G E Y R n' n cs sl pc L st μ Q := by
  intro p e s m args below meth c Z H locs ls C hZ hR hS hl hL hst
  have hX : jm_XS E s s.heap := C.2.2.2.2.2.2.2.2.1.2.2
  rcases hX.2.1 with q | q
  · have h1 := h (-1) p e s m args below meth c Z H locs ls C hZ hR hS hl hL (jm_cons trivial hst)
    rw [List.map_cons, (show jm_cv E (jm_R (-1)) = .null by simp [jm_cv])] at h1
    exact va_gets C.1 C.2.1 q hS C.2.2.2.1 (C.2.2.2.2.1 _ hlink) (fun _ z => z) hd h1
  · have h1 := h (-121) p e s m args below meth c Z H locs ls C hZ hR hS hl hL (jm_cons trivial hst)
    rw [List.map_cons, jm_cvF] at h1
    exact va_gets C.1 C.2.1 q hS C.2.2.2.1 (C.2.2.2.2.1 _ hlink) (fun _ z => z) hd h1
theorem jm_lenB {a : Int} (ha : jm_ik a) (hd : decode Y.2.1 pc = .ok (.arraylength, 1)) (h : jm_G E Y R n' n cs sl (pc + 1) L (jm_I (jm_klen a) :: st) μ Q) : jm_G E Y R n' n cs sl pc L (jm_R (a - 100) :: st) μ Q := by
  obtain ⟨i, hi, rfl, hi2⟩ := jm_ik_nat ha
  intro p e s m args below meth c Z H locs ls C hZ hR hS hl hL hst
  have hX : jm_XS E s s.heap := C.2.2.2.2.2.2.2.2.1.2.2
  have hk := (jm_kall i hi).1
  have h1 := h p e s m args below meth c Z H locs ls C hZ hR hS hl hL (jm_cons (by unfold jm_klen; rw [hi2]; exact ⟨by omega, by omega⟩) (jm_tail hst))
  unfold jm_klen at h1
  rw [hi2] at h1
  rw [List.map_cons, show (-101 - (i : Int)) - 100 = -201 - (i : Int) by omega, jm_cvB]
  exact va_tlen C.1 C.2.1 (hX.2.2.1.1 i hi).2.2.2 hS (v := Int32.ofInt ((jm_kn.getD i 0 : Nat) : Int)) rfl hd h1
theorem jm_ldB {a j : Int} (ha : jm_ik a) (h0 : 0 ≤ j) (hj : j < jm_klen a) (hd : decode Y.2.1 pc = .ok (.baload, 1)) (h : jm_G E Y R n' n cs sl (pc + 1) L (jm_I (jm_kch a j) :: st) μ Q) : jm_G E Y R n' n cs sl pc L (jm_I j :: jm_R (a - 100) :: st) μ Q := by
  obtain ⟨i, hi, rfl, hi2⟩ := jm_ik_nat ha
  obtain ⟨k, rfl⟩ := jm_nat h0
  unfold jm_klen at hj
  rw [hi2] at hj
  intro p e s m args below meth c Z H locs ls C hZ hR hS hl hL hst
  have hX : jm_XS E s s.heap := C.2.2.2.2.2.2.2.2.1.2.2
  have hka := jm_kall i hi
  have hk := hka.2 k (by omega) (by omega)
  have hj' := hst _ List.mem_cons_self
  have h1 := h p e s m args below meth c Z H locs ls C hZ hR hS hl hL (jm_cons (by unfold jm_kch; rw [hi2]; exact ⟨by have := hk.2.1; exact Int.le_trans (by decide) this, Int.lt_trans hk.2.2 (by decide)⟩) (jm_tail2 hst))
  unfold jm_kch at h1
  rw [hi2] at h1
  rw [List.map_cons, List.map_cons, show (-101 - (i : Int)) - 100 = -201 - (i : Int) by omega, jm_cvB]
  refine va_tb C.1 C.2.1 (hX.2.2.1.1 i hi).2.2.2 hS (i := Int32.ofInt (k : Int)) (jm_vpin hj' (by omega)) (v := .int (Int32.ofInt ((jm_kt.getD i []).getD k 0))) (by rw [jm_clamp hj', hk.1]) hd ?_
  exact h1
def jm_i2c (a : Int) : Int := ((Int32.ofInt a).toUInt32 % 65536).toInt32.toInt
theorem jm_i2ct {a : Int} (hd : decode Y.2.1 pc = .ok (.i2c, 1)) (h : jm_G E Y R n' n cs sl (pc + 1) L (jm_I (jm_i2c a) :: st) μ Q) : jm_G E Y R n' n cs sl pc L (jm_I a :: st) μ Q :=
  jm_step h (fun q _ => jm_cons (jm_ok32 _) (jm_tail q)) (fun p e s m args below meth c Z H locs ls he hb _ _ _ _ _ w => lv_i2c he hb hd (v := Int32.ofInt (jm_i2c a)) (jm_ofToInt _).symm w)
/-- a method of a String constant -/
theorem jm_invK {Y' : jm_Y} {idx k mc ms d C2 S2 : Nat} {av : List jm_V} {a : Int} {stf : List jm_V} (hw : jm_wV Y' k) (hcls : Y'.1.cls = "java/lang/String") (hlink : Cond.methodLink Y.1.cls idx Y'.1 ∈ jm_tbl) (hd : decode Y.2.1 pc = .ok (.invokevirtual idx, 3)) (hlen : av.length = k) (ha : jm_ik a) (hroom : cs + mc ≤ C2 ∧ sl + ms ≤ S2) (hrest : st.length ≤ 4) (hst : stf = av.reverse ++ jm_R a :: st)
    (h : jm_Cl E Y' d n n mc ms (jm_R a :: av) μ (fun o m1 => jm_rok Y'.2.2.2 o → jm_G E Y (jm_rm (d + 1) C2 S2) n' n (cs + mc) (sl + ms) (pc + 3) L (o.toList ++ st) m1 Q)) : jm_G E Y (jm_rm (d + 1) C2 S2) n' n cs sl pc L stf μ Q := by
  subst hst
  obtain ⟨i, hi, rfl, -⟩ := jm_ik_nat ha
  intro p e s m args below meth c Z H locs ls C hZ hR hS hl hL hst
  have hts := C.2.2.2.2.1
  have hX : jm_XS E s s.heap := C.2.2.2.2.2.2.2.2.1.2.2
  have hM := h (jm_okav hst)
  have hrc := vk_recv hX.2.2.1 hi hS
  rw [← hcls] at hrc
  rw [jm_map_app, jm_cvK hi]
  refine jm_after (va_runV (As := av.map (jm_cv E)) (rest := st.map (jm_cv E)) (C := Y'.1.cls) ⟨C.1, C.2.1, C.2.2.1, C.2.2.2.1, hts⟩ hM ⟨jm_callB hw.1 hts hlink, hts _ hw.2.1, hts _ hw.2.2⟩ ⟨jm_blind, hrc, ?_⟩ rfl (by rw [List.length_map]; exact hlen) hl.1 rfl (lv_room (jm_catsum st hrest)) hd hroom) hS (fun o m1 H1 locs1 hQ ho hrok hR1 hS1 => ?_)
  · have := jm_enter (av := jm_R (-101 - (i : Int)) :: av) C hR hS
    rw [List.map_cons, jm_cvK hi] at this
    exact this
  · have h2 := hQ hrok p e s m args below meth c Z H1 locs1 ls C hZ hR1 hS1 hl hL (jm_okst (av := av.reverse ++ [jm_R (-101 - (i : Int))]) (by rw [List.append_assoc]; exact hst) ho)
    rw [List.map_append] at h2
    have e1 : (o.map (jm_cv E)).toList = o.toList.map (jm_cv E) := by cases o <;> rfl
    rw [e1]
    exact h2
end JMK
