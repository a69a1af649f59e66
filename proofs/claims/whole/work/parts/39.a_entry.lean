/-! what the statement gives at the law's entry -/
abbrev jg_T : Cond := Jvm.Cond.and given_1 narrow_1
abbrev jg_C (i : Nat) : Term := .static "CombTable$Term" (jm_tn.getD i "") "LCombTable$Term;"
abbrev jg_A : Term := .static "CombTable$Tape" "TERMS" "[LCombTable$Term;"
theorem jg_ex : ∀ i : Fin 26, Cond.exactly (jg_C i.1) "CombTable$Term" ∈ flatC jg_T := by decide +kernel
theorem jg_or : ∀ i : Fin 26, Cond.eq (.field (jg_C i.1) "java/lang/Enum" "ordinal" "I") (.int (Int32.ofNat i.1)) ∈ flatC jg_T := by decide +kernel
theorem jg_le : ∀ i : Fin 26, Cond.eq (.field (jg_C i.1) "CombTable$Term" "letters" "J") (.long (Int64.ofInt (jm_tle.getD i.1 0))) ∈ flatC jg_T := by decide +kernel
theorem jg_do : ∀ i : Fin 26, Cond.eq (.field (jg_C i.1) "CombTable$Term" "does" "I") (.int (Int32.ofInt (jm_td.getD i.1 0))) ∈ flatC jg_T := by decide +kernel
theorem jg_el : ∀ i : Fin 26, Cond.eq (.elem jg_A (.int (Int32.ofNat i.1))) (jg_C i.1) ∈ flatC jg_T := by decide +kernel
theorem jg_ar : Cond.arrayOf jg_A (.object "CombTable$Term") ∈ flatC jg_T := by decide +kernel
theorem jg_ln : Cond.eq (.length jg_A) (.int 26) ∈ flatC jg_T := by decide +kernel
theorem jg_s1 : Cond.isRef (.static Bundle.tN "UNASSIGNED_STACK" Bundle.steD) ∈ flatC jg_T := by decide +kernel
theorem jg_s2 : Cond.isRef (.static Bundle.tN "SUPPRESSED_SENTINEL" Bundle.listD) ∈ flatC jg_T := by decide +kernel
theorem jg_ls : ∀ i : Fin 26, Cond.laysStatic "CombTable$Term" (jm_tn.getD i.1 "") "LCombTable$Term;" ∈ lw_tbl := by
  have h : ∀ i : Fin 26, lw_tbl[([134, 590, 626, 636, 656, 662, 664, 632, 634, 1923, 1924, 1925, 1926, 1927, 1928, 858, 1155, 1153, 1119, 1122, 1124, 1126, 1128, 1130, 1132, 1134] : List Nat).getD i.1 0]? = some (Cond.laysStatic "CombTable$Term" (jm_tn.getD i.1 "") "LCombTable$Term;") := by decide +kernel
  exact fun i => List.mem_of_getElem? (h i)
theorem jg_lT : Cond.laysStatic "CombTable$Tape" "TERMS" "[LCombTable$Term;" ∈ lw_tbl := List.mem_of_getElem? (i := 584) (by decide +kernel)
theorem jg_l1 : Cond.laysStatic Bundle.tN "UNASSIGNED_STACK" Bundle.steD ∈ lw_tbl := List.mem_of_getElem? (i := 1240) (by decide +kernel)
theorem jg_l2 : Cond.laysStatic Bundle.tN "SUPPRESSED_SENTINEL" Bundle.listD ∈ lw_tbl := List.mem_of_getElem? (i := 1242) (by decide +kernel)
theorem jg_i1 : Cond.initialized "CombTable$Term" ∈ lw_tbl := List.mem_of_getElem? (i := 102) (by decide +kernel)
theorem jg_i2 : Cond.initialized "CombTable$Tape" ∈ lw_tbl := List.mem_of_getElem? (i := 100) (by decide +kernel)
theorem jg_i3 : Cond.initialized Bundle.tN ∈ lw_tbl := List.mem_of_getElem? (i := 114) (by decide +kernel)
theorem jg_d1 : Cond.declares (Bundle.init0 "java/lang/RuntimeException") ∈ lw_tbl := List.mem_of_getElem? (i := 1216) (by decide +kernel)
theorem jg_d2 : Cond.declares (Bundle.init0 "java/lang/Exception") ∈ lw_tbl := List.mem_of_getElem? (i := 1218) (by decide +kernel)
theorem jg_d3 : Cond.declares (Bundle.init0 Bundle.tN) ∈ lw_tbl := List.mem_of_getElem? (i := 1220) (by decide +kernel)
theorem jg_ca : Cond.castable jm_nx jm_nx ∈ lw_tbl := List.mem_of_getElem? (i := 1215) (by decide +kernel)
theorem jg_nl : ∀ q ∈ jm_nl, Cond.methodLinkNest q.1 q.2.1 q.2.2.1 q.2.2.2 ∈ lw_tbl := by
  have h : ∀ i : Fin 9, lw_tbl[([129, 310, 333, 357, 364, 366, 393, 421, 458] : List Nat).getD i.1 0]? = (jm_nl[i.1]?).map (fun q => Cond.methodLinkNest q.1 q.2.1 q.2.2.1 q.2.2.2) := by decide +kernel
  intro q hq
  obtain ⟨i, hi⟩ := List.getElem?_of_mem hq
  have hl : i < 9 := (List.getElem?_eq_some_iff.mp hi).1
  have := h ⟨i, hl⟩
  rw [show jm_nl[(⟨i, hl⟩ : Fin 9).1]? = some q from hi] at this
  exact List.mem_of_getElem? this
theorem je_arr {args : Array Value} {s : State} {ty : FieldType} (h : (Cond.arrayClass ty).before args s = true) (hp : ∀ C, ty ≠ .object C) : ∃ cA : ClassId, ArrOfT s cA ty ∧ va_RA s cA ty := by
  obtain ⟨cA, kA, comp, h1, h2, h3⟩ := Cond.arrayClass_spec h
  refine ⟨cA, fun n z => ⟨fun k h => (by cases h), kA, h2, comp, h3⟩, ?_⟩
  cases ty with
  | object C => exact absurd rfl (hp C)
  | _ => exact h1
theorem je_K {args : Array Value} {s : State} (hts : ∀ w ∈ jm_tbl, w.before args s = true) : ∃ (D : va_G) (cA : Nat → ClassId), va_K D jm_cl [(cA 0, .int), (cA 1, .long), (cA 2, .byte), (cA 3, .boolean)] s := by
  have h0 : ∀ c : Nat, ∃ q : ClassId × (Nat → Nat), ∀ x, jm_cl[c]? = some x → u_Kn s x.1 x.2.1 x.2.2 q.1 q.2 := by
    intro c
    have go : ∀ (C : String) (T : u_T) (N : Nat), jm_cl[c]? = some (C, T, N) → (∀ w ∈ u_ws C T N, w ∈ jm_tbl) → Cond.instantiable C N ∈ jm_tbl → ∃ q : ClassId × (Nat → Nat), ∀ x, jm_cl[c]? = some x → u_Kn s x.1 x.2.1 x.2.2 q.1 q.2 := by
      intro C T N e h1 h2
      obtain ⟨a, b, h⟩ := u_known hts h1 (hts _ h2)
      exact ⟨(a, b), fun x hx => by cases e.symm.trans hx; exact h⟩
    rcases (show c = 0 ∨ c = 1 ∨ c = 2 ∨ c = 3 ∨ c = 4 ∨ c = 5 ∨ c = 6 ∨ c = 7 ∨ c = 8 ∨ c = 9 ∨ c = 10 ∨ 11 ≤ c by omega) with rfl | rfl | rfl | rfl | rfl | rfl | rfl | rfl | rfl | rfl | rfl | hc
    · exact go _ _ _ cf_X0.2.1 cf_X0.1 it_X0
    · exact go _ _ _ cf_X1.2.1 cf_X1.1 it_X1
    · exact go _ _ _ cf_X2.2.1 cf_X2.1 it_X2
    · exact go _ _ _ cf_X3.2.1 cf_X3.1 it_X3
    · exact go _ _ _ cf_X4.2.1 cf_X4.1 it_X4
    · exact go _ _ _ cf_X5.2.1 cf_X5.1 it_X5
    · exact go _ _ _ cf_X6.2.1 cf_X6.1 it_X6
    · exact go _ _ _ cf_X7.2.1 cf_X7.1 it_X7
    · exact go _ _ _ cf_X9.2.1 cf_X9.1 it_X9
    · exact go _ _ _ cf_X10.2.1 cf_X10.1 it_X10
    · exact go _ _ _ cf_X11.2.1 cf_X11.1 it_X11
    · exact ⟨(0, fun _ => 0), fun x hx => absurd (List.getElem?_eq_some_iff.mp hx).1 (by show ¬ c < 11; omega)⟩
  obtain ⟨f, hf⟩ := Classical.axiomOfChoice h0
  obtain ⟨a0, b0⟩ := je_arr (hts _ ay_int) (fun C z => by cases z)
  obtain ⟨a1, b1⟩ := je_arr (hts _ ay_long) (fun C z => by cases z)
  obtain ⟨a2, b2⟩ := je_arr (hts _ ay_byte) (fun C z => by cases z)
  obtain ⟨a3, b3⟩ := je_arr (hts _ ay_boolean) (fun C z => by cases z)
  refine ⟨(fun c => (f c).1, fun c => (f c).2), fun k => if k = 0 then a0 else if k = 1 then a1 else if k = 2 then a2 else a3, fun c q hq => hf c q hq, fun k q hk => ?_⟩
  match k, hk with
  | 0, hk => cases hk; exact b0
  | 1, hk => cases hk; exact b1
  | 2, hk => cases hk; exact b2
  | 3, hk => cases hk; exact b3
  | k + 4, hk => simp at hk
section JG
variable {s : State} {b L : Nat} {xs : Nat → Int32}
/-- Term's constants and TERMS -/
theorem je_X0 (hts : ∀ w ∈ lw_tbl, w.before #[Value.ref b] s = true) (hgv : jg_T.before #[Value.ref b] s = true) (hX : va_X b L xs s s.heap) (hbl : b < s.heap.size) : ∃ (aT : Nat → Nat) (ts : Nat), ∀ (l : Launch) (D : va_G) (cA : Nat → ClassId), jm_X0 (l, D, cA, s.heap.size, aT, ts, b, L, xs) s s.heap := by
  have hs := flat_of_before _ hgv
  have hA : ∀ a : Nat, a < s.heap.size → ¬ (fun q : Nat => s.heap.size ≤ q) a := fun a h => Nat.not_le.mpr h
  have h0 : ∀ i : Nat, ∃ t : Nat, i < 26 → (jg_C i).eval #[Value.ref b] s none [] s = some (.ref t) := by
    intro i
    by_cases hi : i < 26
    · obtain ⟨a, c, cell, k, q1, -⟩ := Cond.exactly_spec (hs _ (jg_ex ⟨i, hi⟩))
      exact ⟨a, fun _ => q1⟩
    · exact ⟨0, fun h => absurd h hi⟩
  obtain ⟨aT, had⟩ := Classical.axiomOfChoice h0
  obtain ⟨ts, hts1, hts2⟩ := va_Tof (N := 26) (f := fun j => .ref (aT j)) (by decide) (hs _ jg_ar) (va_eqt (hs _ jg_ln)) (fun j hj => va_eqv (hs _ (jg_el ⟨j, hj⟩)) (had j hj)) hA
  have hle := va_Efof (N := 26) (E := "CombTable$Term") (nm := jm_tn) (d0 := "LCombTable$Term;") (o := "CombTable$Term") (n := "letters") (d := "J") (tm := fun i => .long (Int64.ofInt (jm_tle.getD i 0))) (v := fun i => .long (Int64.ofInt (jm_tle.getD i 0))) had (fun i hi => hs _ (jg_le ⟨i, hi⟩)) (fun i _ => rfl) hA
  have hdo := va_Efof (N := 26) (E := "CombTable$Term") (nm := jm_tn) (d0 := "LCombTable$Term;") (o := "CombTable$Term") (n := "does") (d := "I") (tm := fun i => .int (Int32.ofInt (jm_td.getD i 0))) (v := fun i => .int (Int32.ofInt (jm_td.getD i 0))) had (fun i hi => hs _ (jg_do ⟨i, hi⟩)) (fun i _ => rfl) hA
  refine ⟨aT, ts, fun l D cA => ⟨fun i hi => ⟨va_Zref (hts _ (jg_ls ⟨i, hi⟩)) (hts _ jg_i1) (had i hi) hA, hle i hi, hdo i hi⟩, fun i j hi hj e => ?_, va_Zref (hts _ jg_lT) (hts _ jg_i2) hts1 hA, hts2, hX, hbl⟩⟩
  have ei := va_eqt (hs _ (jg_or ⟨i, hi⟩))
  have ej := va_eqt (hs _ (jg_or ⟨j, hj⟩))
  rw [va_fe (had i hi)] at ei
  rw [va_fe (had j hj), ← show aT i = aT j from e, ei] at ej
  have e2 : Int32.ofNat i = Int32.ofNat j := by
    have := Option.some.inj ej
    exact Value.int.inj this
  have e3 := congrArg Int32.toNatClampNeg e2
  rw [Int32.toNatClampNeg_ofNat_of_lt (by omega), Int32.toNatClampNeg_ofNat_of_lt (by omega)] at e3
  exact e3
theorem je_X1 (l : Launch) (hflags : l.flags = flags0) (hts : ∀ w ∈ lw_tbl, w.before #[Value.ref b] s = true) (hgv : jg_T.before #[Value.ref b] s = true) (D : va_G) (cA : Nat → ClassId) (aT : Nat → Nat) (ts : Nat) : jm_X1 (l, D, cA, s.heap.size, aT, ts, b, L, xs) s s.heap := by
  have hs := flat_of_before _ hgv
  have hA : ∀ a : Nat, a < s.heap.size → ¬ (fun q : Nat => s.heap.size ≤ q) a := fun a h => Nat.not_le.mpr h
  refine ⟨?_, ⟨va_Nw.of rfl (hts _ jg_d1), va_Nw.of rfl (hts _ jg_d2), va_Nw.of rfl (hts _ jg_d3), va_Nw.of rfl (hts _ jg_ca), fun q hq => va_Nw.of rfl (hts _ (jg_nl q hq))⟩, vx_Zqof (hts _ jg_l1) (hts _ jg_i3) (hs _ jg_s1) hA, vx_Zqof (hts _ jg_l2) (hts _ jg_i3) (hs _ jg_s2) hA⟩
  show l.stackTraces = false
  unfold Launch.stackTraces
  rw [hflags]
  decide +kernel
end JG
/-- a room that holds more holds this walk too -/
theorem W_room {p : Program} {l : Launch} {e : Env} {R R' : Room} {s : State} {m : MethodId} {args : Array Value} {below : List Frame} {meth : Method} {c : Code} {H : Heap} {locs : List Loc} {cells slots : Nat} {Q : State → Prop} {g : JFrame} (h1 : R'.frames ≤ R.frames) (h2 : R'.locals ≤ R.locals) (h3 : R'.cells ≤ R.cells) (h4 : R'.slots ≤ R.slots)
    (kk : W p l e R' s m args below meth c H locs cells slots Q g) : W p l e R s m args below meth c H locs cells slots Q g := by
  intro T hT X
  refine kk T hT { X with room := ?_ }
  have h := X.room
  simp only [State.hasRoom, Bool.and_eq_true, decide_eq_true_eq] at h ⊢
  obtain ⟨⟨⟨⟨q1, q2, q3, q4, q5, q6⟩, q7⟩, q8⟩, q9⟩ := h
  refine ⟨⟨⟨⟨?_, ?_, ?_, ?_, ?_, q6⟩, ?_⟩, ?_⟩, q9⟩ <;> omega
