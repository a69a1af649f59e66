theorem jm_weak2 {E : jm_E} {Y : jm_Y} {R : Room} {n' n cs sl pc : Nat} {L L' : List (Option jm_V)} {st : List jm_V} {μ : jm_M} {Q : Option jm_V → jm_M → Prop} (h : jm_G E Y R n' n cs sl pc L' st μ Q) (hs : jm_subl L' L) : jm_G E Y R n' n cs sl pc L st μ Q := jm_weak hs h
/-! Math.max, Math.min -/
def jm_mx (a b : Int) : Int := if a < b then b else a
def jm_mn (a b : Int) : Int := if b < a then b else a
theorem jm_wmax : Cond.static Lib.Math.max.name ∈ jm_tbl ∧ Cond.initialized "java/lang/Math" ∈ jm_tbl ∧ Cond.code Lib.Math.max.name Lib.Math.max.code 2 (some .int) ∈ jm_tbl := ⟨jm_tb (List.mem_of_getElem? (i := 182) (by decide +kernel)) rfl, jm_tb (List.mem_of_getElem? (i := 27) (by decide +kernel)) rfl, jm_tb (List.mem_of_getElem? (i := 183) (by decide +kernel)) rfl⟩
theorem jm_mmax {E : jm_E} {Y : jm_Y} {d n' n cs sl pc C2 S2 idx : Nat} {L : List (Option jm_V)} {st : List jm_V} {μ : jm_M} {Q : Option jm_V → jm_M → Prop} {a b : Int} (hlink : Cond.methodLink Y.1.cls idx Lib.Math.max.name ∈ jm_tbl) (hd : decode Y.2.1 pc = .ok (.invokestatic idx, 3)) (hc : cs ≤ C2 ∧ sl ≤ S2) (hrest : st.length ≤ 4) (h : jm_G E Y (jm_rm (d + 1) C2 S2) n' n cs sl (pc + 3) L (jm_I (jm_mx a b) :: st) μ Q) : jm_G E Y (jm_rm (d + 1) C2 S2) n' n cs sl pc L (jm_I b :: jm_I a :: st) μ Q := by
  intro p e s m args below meth c Z H locs ls C hZ hR hS hl hL hst
  have hts := C.2.2.2.2.1
  have h2 := hst _ List.mem_cons_self
  have h1 := hst _ (List.mem_cons_of_mem _ List.mem_cons_self)
  have hv : Int32.ofInt (jm_mx a b) = if Int32.ofInt a < Int32.ofInt b then Int32.ofInt b else Int32.ofInt a := by
    unfold jm_mx
    by_cases q : a < b
    · rw [if_pos q, if_pos ((jm_lt32 h1 h2).mpr q)]
    · rw [if_neg q, if_neg (fun z => q ((jm_lt32 h1 h2).mp z))]
  refine va_mmax C.1 C.2.1 (C.2.2.1.trans hl.1.symm) C.2.2.2.1 (hts _ hlink) (hts _ jm_wmax.1) (hts _ jm_wmax.2.1) (hts _ jm_wmax.2.2) (by show 1 ≤ d + 1; omega) (by have := jm_catsum (E := E) st hrest; show _ + 13 ≤ 44 * (d + 1); omega) hc.1 hc.2 hd ?_
  rw [← hv]
  refine h p e s m args below meth c Z H locs ls C hZ hR hS hl hL (jm_cons ?_ (jm_tail2 hst))
  unfold jm_mx
  split
  · exact h2
  · exact h1
theorem jm_wmin : Cond.static Lib.Math.min.name ∈ jm_tbl ∧ Cond.initialized "java/lang/Math" ∈ jm_tbl ∧ Cond.code Lib.Math.min.name Lib.Math.min.code 2 (some .int) ∈ jm_tbl := ⟨jm_tb (List.mem_of_getElem? (i := 775) (by decide +kernel)) rfl, jm_tb (List.mem_of_getElem? (i := 27) (by decide +kernel)) rfl, jm_tb (List.mem_of_getElem? (i := 776) (by decide +kernel)) rfl⟩
theorem jm_mmin {E : jm_E} {Y : jm_Y} {d n' n cs sl pc C2 S2 idx : Nat} {L : List (Option jm_V)} {st : List jm_V} {μ : jm_M} {Q : Option jm_V → jm_M → Prop} {a b : Int} (hlink : Cond.methodLink Y.1.cls idx Lib.Math.min.name ∈ jm_tbl) (hd : decode Y.2.1 pc = .ok (.invokestatic idx, 3)) (hc : cs ≤ C2 ∧ sl ≤ S2) (hrest : st.length ≤ 4) (h : jm_G E Y (jm_rm (d + 1) C2 S2) n' n cs sl (pc + 3) L (jm_I (jm_mn a b) :: st) μ Q) : jm_G E Y (jm_rm (d + 1) C2 S2) n' n cs sl pc L (jm_I b :: jm_I a :: st) μ Q := by
  intro p e s m args below meth c Z H locs ls C hZ hR hS hl hL hst
  have hts := C.2.2.2.2.1
  have h2 := hst _ List.mem_cons_self
  have h1 := hst _ (List.mem_cons_of_mem _ List.mem_cons_self)
  have hv : Int32.ofInt (jm_mn a b) = if Int32.ofInt b < Int32.ofInt a then Int32.ofInt b else Int32.ofInt a := by
    unfold jm_mn
    by_cases q : b < a
    · rw [if_pos q, if_pos ((jm_lt32 h2 h1).mpr q)]
    · rw [if_neg q, if_neg (fun z => q ((jm_lt32 h2 h1).mp z))]
  refine va_mmin C.1 C.2.1 (C.2.2.1.trans hl.1.symm) C.2.2.2.1 (hts _ hlink) (hts _ jm_wmin.1) (hts _ jm_wmin.2.1) (hts _ jm_wmin.2.2) (by show 1 ≤ d + 1; omega) (by have := jm_catsum (E := E) st hrest; show _ + 13 ≤ 44 * (d + 1); omega) hc.1 hc.2 hd ?_
  rw [← hv]
  refine h p e s m args below meth c Z H locs ls C hZ hR hS hl hL (jm_cons ?_ (jm_tail2 hst))
  unfold jm_mn
  split
  · exact h2
  · exact h1
theorem jm_tb0 {a : Int} (lo : Int) : a < lo ∨ lo ≤ a := by omega
theorem jm_tb1 {a lo k : Int} (hb : a < lo ∨ k ≤ a) (hc : ¬ a = k) : a < lo ∨ k + 1 ≤ a := by omega
theorem jm_tb2 {a lo k hi : Int} (hb : a < lo ∨ k ≤ a) (hk : k = hi + 1) : a < lo ∨ hi < a := by omega
