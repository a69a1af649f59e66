/-! what the statement gives at the law's entry (gen56.py) -/
abbrev jg_T : Cond := Jvm.Cond.and given_1 narrow_1
abbrev jg_C (i : Nat) : Term := .static "CombTable$Term" (jm_tn.getD i "") "LCombTable$Term;"
abbrev jg_A : Term := .static "CombTable$Tape" "TERMS" "[LCombTable$Term;"
theorem jg_ex : ∀ i : Fin 26, Cond.exactly (jg_C i.1) "CombTable$Term" ∈ flatC jg_T := by decide +kernel
theorem jg_or : ∀ i : Fin 26, Cond.eq (.field (jg_C i.1) "java/lang/Enum" "ordinal" "I") (.int (Int32.ofNat i.1)) ∈ flatC jg_T := by decide +kernel
theorem jg_le : ∀ i : Fin 26, Cond.eq (.field (jg_C i.1) "CombTable$Term" "letters" "J") (.long (Int64.ofInt (jm_tle.getD i.1 0))) ∈ flatC jg_T := by decide +kernel
theorem jg_do : ∀ i : Fin 26, Cond.eq (.field (jg_C i.1) "CombTable$Term" "does" "I") (.int (Int32.ofInt (jm_td.getD i.1 0))) ∈ flatC jg_T := by decide +kernel
theorem jg_el : ∀ i : Fin 26, Cond.eq (.elem jg_A (.int (Int32.ofNat i.1))) (jg_C i.1) ∈ flatC jg_T := by decide +kernel
theorem jg_ar : Cond.arrayOf jg_A (.object "CombTable$Term") ∈ flatC jg_T := by decide +kernel
theorem jg_ln : Cond.eq (.length jg_A) (.int 26) ∈ flatC jg_T := by decide +kernel
theorem jg_s1 : Cond.isRef (.static Bundle.tN "UNASSIGNED_STACK" Bundle.steD) ∈ flatC jg_T := by decide +kernel
theorem jg_s2 : Cond.isRef (.static Bundle.tN "SUPPRESSED_SENTINEL" Bundle.listD) ∈ flatC jg_T := by decide +kernel
theorem jg_s3 : Cond.isRef (.static jm_fmC "SIOOBE_FORMATTER" jm_fmD) ∈ flatC jg_T := by decide +kernel
theorem jg_s4 : Cond.eq (.static "java/lang/String" "COMPACT_STRINGS" "Z") (.int 1) ∈ flatC jg_T := by decide +kernel
theorem jg_ls : ∀ i : Nat, i < 26 → Cond.laysStatic "CombTable$Term" (jm_tn.getD i "") "LCombTable$Term;" ∈ lw_tbl := by
  intro i hi
  rcases (show i = 0 ∨ i = 1 ∨ i = 2 ∨ i = 3 ∨ i = 4 ∨ i = 5 ∨ i = 6 ∨ i = 7 ∨ i = 8 ∨ i = 9 ∨ i = 10 ∨ i = 11 ∨ i = 12 ∨ i = 13 ∨ i = 14 ∨ i = 15 ∨ i = 16 ∨ i = 17 ∨ i = 18 ∨ i = 19 ∨ i = 20 ∨ i = 21 ∨ i = 22 ∨ i = 23 ∨ i = 24 ∨ i = 25 by omega) with rfl | rfl | rfl | rfl | rfl | rfl | rfl | rfl | rfl | rfl | rfl | rfl | rfl | rfl | rfl | rfl | rfl | rfl | rfl | rfl | rfl | rfl | rfl | rfl | rfl | rfl
  · exact (List.mem_append_right _ (List.mem_append_left _ (List.mem_of_getElem? (i := 39) rfl)))
  · exact (List.mem_append_right _ (List.mem_append_right _ (List.mem_append_right _ (List.mem_append_right _ (List.mem_append_left _ (List.mem_of_getElem? (i := 61) rfl))))))
  · exact (List.mem_append_right _ (List.mem_append_right _ (List.mem_append_right _ (List.mem_append_right _ (List.mem_append_left _ (List.mem_of_getElem? (i := 97) rfl))))))
  · exact (List.mem_append_right _ (List.mem_append_right _ (List.mem_append_right _ (List.mem_append_right _ (List.mem_append_left _ (List.mem_of_getElem? (i := 107) rfl))))))
  · exact (List.mem_append_right _ (List.mem_append_right _ (List.mem_append_right _ (List.mem_append_right _ (List.mem_append_left _ (List.mem_of_getElem? (i := 120) rfl))))))
  · exact (List.mem_append_right _ (List.mem_append_right _ (List.mem_append_right _ (List.mem_append_right _ (List.mem_append_left _ (List.mem_of_getElem? (i := 126) rfl))))))
  · exact (List.mem_append_right _ (List.mem_append_right _ (List.mem_append_right _ (List.mem_append_right _ (List.mem_append_left _ (List.mem_of_getElem? (i := 128) rfl))))))
  · exact (List.mem_append_right _ (List.mem_append_right _ (List.mem_append_right _ (List.mem_append_right _ (List.mem_append_left _ (List.mem_of_getElem? (i := 103) rfl))))))
  · exact (List.mem_append_right _ (List.mem_append_right _ (List.mem_append_right _ (List.mem_append_right _ (List.mem_append_left _ (List.mem_of_getElem? (i := 105) rfl))))))
  · exact (List.mem_append_right _ (List.mem_append_right _ (List.mem_append_right _ (List.mem_append_right _ (List.mem_append_right _ (List.mem_of_getElem? (i := 36) rfl))))))
  · exact (List.mem_append_right _ (List.mem_append_right _ (List.mem_append_right _ (List.mem_append_right _ (List.mem_append_right _ (List.mem_of_getElem? (i := 37) rfl))))))
  · exact (List.mem_append_right _ (List.mem_append_right _ (List.mem_append_right _ (List.mem_append_right _ (List.mem_append_right _ (List.mem_of_getElem? (i := 38) rfl))))))
  · exact (List.mem_append_right _ (List.mem_append_right _ (List.mem_append_right _ (List.mem_append_right _ (List.mem_append_right _ (List.mem_of_getElem? (i := 39) rfl))))))
  · exact (List.mem_append_right _ (List.mem_append_right _ (List.mem_append_right _ (List.mem_append_right _ (List.mem_append_right _ (List.mem_of_getElem? (i := 40) rfl))))))
  · exact (List.mem_append_right _ (List.mem_append_right _ (List.mem_append_right _ (List.mem_append_right _ (List.mem_append_right _ (List.mem_of_getElem? (i := 41) rfl))))))
  · exact (List.mem_append_right _ (List.mem_append_right _ (List.mem_append_right _ (List.mem_append_right _ (List.mem_append_right _ (List.mem_of_getElem? (i := 42) rfl))))))
  · exact (List.mem_append_right _ (List.mem_append_right _ (List.mem_append_right _ (List.mem_append_right _ (List.mem_append_right _ (List.mem_of_getElem? (i := 43) rfl))))))
  · exact (List.mem_append_right _ (List.mem_append_right _ (List.mem_append_right _ (List.mem_append_right _ (List.mem_append_right _ (List.mem_of_getElem? (i := 44) rfl))))))
  · exact (List.mem_append_right _ (List.mem_append_right _ (List.mem_append_right _ (List.mem_append_right _ (List.mem_append_right _ (List.mem_of_getElem? (i := 45) rfl))))))
  · exact (List.mem_append_right _ (List.mem_append_right _ (List.mem_append_right _ (List.mem_append_right _ (List.mem_append_right _ (List.mem_of_getElem? (i := 46) rfl))))))
  · exact (List.mem_append_right _ (List.mem_append_right _ (List.mem_append_right _ (List.mem_append_right _ (List.mem_append_right _ (List.mem_of_getElem? (i := 47) rfl))))))
  · exact (List.mem_append_right _ (List.mem_append_right _ (List.mem_append_right _ (List.mem_append_right _ (List.mem_append_right _ (List.mem_of_getElem? (i := 48) rfl))))))
  · exact (List.mem_append_right _ (List.mem_append_right _ (List.mem_append_right _ (List.mem_append_right _ (List.mem_append_right _ (List.mem_of_getElem? (i := 49) rfl))))))
  · exact (List.mem_append_right _ (List.mem_append_right _ (List.mem_append_right _ (List.mem_append_right _ (List.mem_append_right _ (List.mem_of_getElem? (i := 50) rfl))))))
  · exact (List.mem_append_right _ (List.mem_append_right _ (List.mem_append_right _ (List.mem_append_right _ (List.mem_append_right _ (List.mem_of_getElem? (i := 51) rfl))))))
  · exact (List.mem_append_right _ (List.mem_append_right _ (List.mem_append_right _ (List.mem_append_right _ (List.mem_append_right _ (List.mem_of_getElem? (i := 52) rfl))))))
theorem jg_sr : ∀ i : Nat, i < 14 → Cond.stringRef "CombTableLaw" (jm_ks.getD i (0, "")).1 (jm_ks.getD i (0, "")).2 ∈ lw_tbl := by
  intro i hi
  rcases (show i = 0 ∨ i = 1 ∨ i = 2 ∨ i = 3 ∨ i = 4 ∨ i = 5 ∨ i = 6 ∨ i = 7 ∨ i = 8 ∨ i = 9 ∨ i = 10 ∨ i = 11 ∨ i = 12 ∨ i = 13 by omega) with rfl | rfl | rfl | rfl | rfl | rfl | rfl | rfl | rfl | rfl | rfl | rfl | rfl | rfl
  · exact (List.mem_append_right _ (List.mem_append_right _ (List.mem_append_right _ (List.mem_append_left _ (List.mem_of_getElem? (i := 159) rfl)))))
  · exact (List.mem_append_right _ (List.mem_append_right _ (List.mem_append_right _ (List.mem_append_left _ (List.mem_of_getElem? (i := 220) rfl)))))
  · exact (List.mem_append_right _ (List.mem_append_right _ (List.mem_append_right _ (List.mem_append_left _ (List.mem_of_getElem? (i := 221) rfl)))))
  · exact (List.mem_append_right _ (List.mem_append_right _ (List.mem_append_right _ (List.mem_append_left _ (List.mem_of_getElem? (i := 222) rfl)))))
  · exact (List.mem_append_right _ (List.mem_append_right _ (List.mem_append_right _ (List.mem_append_left _ (List.mem_of_getElem? (i := 223) rfl)))))
  · exact (List.mem_append_right _ (List.mem_append_right _ (List.mem_append_right _ (List.mem_append_left _ (List.mem_of_getElem? (i := 224) rfl)))))
  · exact (List.mem_append_right _ (List.mem_append_right _ (List.mem_append_right _ (List.mem_append_left _ (List.mem_of_getElem? (i := 225) rfl)))))
  · exact (List.mem_append_right _ (List.mem_append_right _ (List.mem_append_right _ (List.mem_append_left _ (List.mem_of_getElem? (i := 226) rfl)))))
  · exact (List.mem_append_right _ (List.mem_append_right _ (List.mem_append_right _ (List.mem_append_left _ (List.mem_of_getElem? (i := 227) rfl)))))
  · exact (List.mem_append_right _ (List.mem_append_right _ (List.mem_append_right _ (List.mem_append_left _ (List.mem_of_getElem? (i := 228) rfl)))))
  · exact (List.mem_append_right _ (List.mem_append_right _ (List.mem_append_right _ (List.mem_append_left _ (List.mem_of_getElem? (i := 229) rfl)))))
  · exact (List.mem_append_right _ (List.mem_append_right _ (List.mem_append_right _ (List.mem_append_left _ (List.mem_of_getElem? (i := 230) rfl)))))
  · exact (List.mem_append_right _ (List.mem_append_right _ (List.mem_append_right _ (List.mem_append_left _ (List.mem_of_getElem? (i := 231) rfl)))))
  · exact (List.mem_append_right _ (List.mem_append_right _ (List.mem_append_right _ (List.mem_append_right _ (List.mem_append_left _ (List.mem_of_getElem? (i := 10) rfl))))))
theorem jg_lT : Cond.laysStatic "CombTable$Tape" "TERMS" "[LCombTable$Term;" ∈ lw_tbl := (List.mem_append_right _ (List.mem_append_right _ (List.mem_append_right _ (List.mem_append_right _ (List.mem_append_left _ (List.mem_of_getElem? (i := 55) rfl))))))
theorem jg_l1 : Cond.laysStatic Bundle.tN "UNASSIGNED_STACK" Bundle.steD ∈ lw_tbl := (List.mem_append_right _ (List.mem_append_right _ (List.mem_append_right _ (List.mem_append_right _ (List.mem_append_left _ (List.mem_of_getElem? (i := 206) rfl))))))
theorem jg_l2 : Cond.laysStatic Bundle.tN "SUPPRESSED_SENTINEL" Bundle.listD ∈ lw_tbl := (List.mem_append_right _ (List.mem_append_right _ (List.mem_append_right _ (List.mem_append_right _ (List.mem_append_left _ (List.mem_of_getElem? (i := 208) rfl))))))
theorem jg_l3 : Cond.laysStatic jm_fmC "SIOOBE_FORMATTER" jm_fmD ∈ lw_tbl := (List.mem_append_right _ (List.mem_append_right _ (List.mem_append_right _ (List.mem_append_left _ (List.mem_of_getElem? (i := 188) rfl)))))
theorem jg_l4 : Cond.laysStatic "java/lang/String" "COMPACT_STRINGS" "Z" ∈ lw_tbl := (List.mem_append_right _ (List.mem_append_right _ (List.mem_append_right _ (List.mem_append_left _ (List.mem_of_getElem? (i := 172) rfl)))))
theorem jg_i1 : Cond.initialized "CombTable$Term" ∈ lw_tbl := (List.mem_append_right _ (List.mem_append_left _ (List.mem_of_getElem? (i := 4) rfl)))
theorem jg_i2 : Cond.initialized "CombTable$Tape" ∈ lw_tbl := (List.mem_append_right _ (List.mem_append_left _ (List.mem_of_getElem? (i := 2) rfl)))
theorem jg_i3 : Cond.initialized Bundle.tN ∈ lw_tbl := (List.mem_append_right _ (List.mem_append_left _ (List.mem_of_getElem? (i := 20) rfl)))
theorem jg_i4 : Cond.initialized jm_fmC ∈ lw_tbl := (List.mem_append_right _ (List.mem_append_left _ (List.mem_of_getElem? (i := 18) rfl)))
theorem jg_i5 : Cond.initialized "java/lang/String" ∈ lw_tbl := (List.mem_append_right _ (List.mem_append_left _ (List.mem_of_getElem? (i := 16) rfl)))
theorem jg_d1 : Cond.declares (Bundle.init0 "java/lang/RuntimeException") ∈ lw_tbl := (List.mem_append_right _ (List.mem_append_right _ (List.mem_append_right _ (List.mem_append_right _ (List.mem_append_left _ (List.mem_of_getElem? (i := 182) rfl))))))
theorem jg_d2 : Cond.declares (Bundle.init0 "java/lang/Exception") ∈ lw_tbl := (List.mem_append_right _ (List.mem_append_right _ (List.mem_append_right _ (List.mem_append_right _ (List.mem_append_left _ (List.mem_of_getElem? (i := 184) rfl))))))
theorem jg_d3 : Cond.declares (Bundle.init0 Bundle.tN) ∈ lw_tbl := (List.mem_append_right _ (List.mem_append_right _ (List.mem_append_right _ (List.mem_append_right _ (List.mem_append_left _ (List.mem_of_getElem? (i := 186) rfl))))))
theorem jg_ca : Cond.castable jm_nx jm_nx ∈ lw_tbl := (List.mem_append_right _ (List.mem_append_right _ (List.mem_append_right _ (List.mem_append_right _ (List.mem_append_left _ (List.mem_of_getElem? (i := 181) rfl))))))
theorem jg_nl : ∀ q ∈ jm_nl, Cond.methodLinkNest q.1 q.2.1 q.2.2.1 q.2.2.2 ∈ lw_tbl :=
  List.forall_mem_cons.mpr ⟨(List.mem_append_right _ (List.mem_append_left _ (List.mem_of_getElem? (i := 34) rfl))), List.forall_mem_cons.mpr ⟨(List.mem_append_right _ (List.mem_append_left _ (List.mem_of_getElem? (i := 203) rfl))), List.forall_mem_cons.mpr ⟨(List.mem_append_right _ (List.mem_append_left _ (List.mem_of_getElem? (i := 226) rfl))), List.forall_mem_cons.mpr ⟨(List.mem_append_right _ (List.mem_append_right _ (List.mem_append_left _ (List.mem_of_getElem? (i := 9) rfl)))), List.forall_mem_cons.mpr ⟨(List.mem_append_right _ (List.mem_append_right _ (List.mem_append_left _ (List.mem_of_getElem? (i := 16) rfl)))), List.forall_mem_cons.mpr ⟨(List.mem_append_right _ (List.mem_append_right _ (List.mem_append_left _ (List.mem_of_getElem? (i := 18) rfl)))), List.forall_mem_cons.mpr ⟨(List.mem_append_right _ (List.mem_append_right _ (List.mem_append_left _ (List.mem_of_getElem? (i := 41) rfl)))), List.forall_mem_cons.mpr ⟨(List.mem_append_right _ (List.mem_append_right _ (List.mem_append_left _ (List.mem_of_getElem? (i := 64) rfl)))), List.forall_mem_cons.mpr ⟨(List.mem_append_right _ (List.mem_append_right _ (List.mem_append_left _ (List.mem_of_getElem? (i := 101) rfl)))), fun _ h => absurd h List.not_mem_nil⟩⟩⟩⟩⟩⟩⟩⟩⟩
theorem je_arr {args : Array Value} {s : State} {ty : FieldType} (h : (Cond.arrayClass ty).before args s = true) (hp : ∀ C, ty ≠ .object C) : ∃ cA : ClassId, ArrOfT s cA ty ∧ va_RA s cA ty := by
  obtain ⟨cA, kA, comp, h1, h2, h3⟩ := Cond.arrayClass_spec h
  refine ⟨cA, fun n z => ⟨fun k h => (by cases h), kA, h2, comp, h3⟩, ?_⟩
  cases ty with
  | object C => exact absurd rfl (hp C)
  | _ => exact h1
theorem je_K {args : Array Value} {s : State} (hts : ∀ w ∈ jm_tbl, w.before args s = true) : ∃ (D : va_G) (cA : Nat → ClassId), va_K D jm_cl [(cA 0, .int), (cA 1, .long), (cA 2, .byte)] s := by
  have h0 : ∀ c : Nat, ∃ q : ClassId × (Nat → Nat), ∀ x, jm_cl[c]? = some x → u_Kn s x.1 x.2.1 x.2.2 q.1 q.2 := by
    intro c
    have go : ∀ (C : String) (T : u_T) (N : Nat), jm_cl[c]? = some (C, T, N) → (∀ w ∈ u_ws C T N, w ∈ jm_tbl) → Cond.instantiable C N ∈ jm_tbl → ∃ q : ClassId × (Nat → Nat), ∀ x, jm_cl[c]? = some x → u_Kn s x.1 x.2.1 x.2.2 q.1 q.2 := by
      intro C T N e h1 h2
      obtain ⟨a, b, h⟩ := u_known hts h1 (hts _ h2)
      exact ⟨(a, b), fun x hx => by cases e.symm.trans hx; exact h⟩
    rcases (show c = 0 ∨ c = 1 ∨ c = 2 ∨ c = 3 ∨ c = 4 ∨ c = 5 ∨ c = 6 ∨ c = 7 ∨ c = 8 ∨ c = 9 ∨ 10 ≤ c by omega) with rfl | rfl | rfl | rfl | rfl | rfl | rfl | rfl | rfl | rfl | hc
    · exact go _ _ _ cf_X0.2.1 cf_X0.1 it_X0
    · exact go _ _ _ cf_X1.2.1 cf_X1.1 it_X1
    · exact go _ _ _ cf_X2.2.1 cf_X2.1 it_X2
    · exact go _ _ _ cf_X3.2.1 cf_X3.1 it_X3
    · exact go _ _ _ cf_X4.2.1 cf_X4.1 it_X4
    · exact go _ _ _ cf_X5.2.1 cf_X5.1 it_X5
    · exact go _ _ _ cf_X6.2.1 cf_X6.1 it_X6
    · exact go _ _ _ cf_X7.2.1 cf_X7.1 it_X7
    · exact go _ _ _ cf_X9.2.1 cf_X9.1 it_X9
    · exact go _ _ _ cf_X10.2.1 cf_X10.1 it_X10
    · exact ⟨(0, fun _ => 0), fun x hx => absurd (List.getElem?_eq_some_iff.mp hx).1 (by show ¬ c < 10; omega)⟩
  obtain ⟨f, hf⟩ := Classical.axiomOfChoice h0
  obtain ⟨a0, b0⟩ := je_arr (hts _ ay_int) (fun C z => by cases z)
  obtain ⟨a1, b1⟩ := je_arr (hts _ ay_long) (fun C z => by cases z)
  obtain ⟨a2, b2⟩ := je_arr (hts _ ay_byte) (fun C z => by cases z)
  refine ⟨(fun c => (f c).1, fun c => (f c).2), fun k => if k = 0 then a0 else if k = 1 then a1 else a2, fun c q hq => hf c q hq, fun k q hk => ?_⟩
  match k, hk with
  | 0, hk => cases hk; exact b0
  | 1, hk => cases hk; exact b1
  | 2, hk => cases hk; exact b2
  | k + 3, hk => simp at hk
section JG
variable {s : State} {b L : Nat} {xs : Nat → Int32}
/-- Term's constants and TERMS -/
theorem je_X0 (hts : ∀ w ∈ lw_tbl, w.before #[Value.ref b] s = true) (hgv : jg_T.before #[Value.ref b] s = true) (hX : va_X b L xs s s.heap) (hbl : b < s.heap.size) : ∃ (aT : Nat → Nat) (ts : Nat), ∀ (l : Launch) (D : va_G) (cA : Nat → ClassId) (aK aV : Nat → Nat), jm_X0 (l, D, cA, s.heap.size, aT, ts, b, L, xs, 0, aK, aV) s s.heap := by
  have hs := flat_of_before _ hgv
  have hA : ∀ a : Nat, a < s.heap.size → ¬ (fun q : Nat => s.heap.size ≤ q) a := fun a h => Nat.not_le.mpr h
  have h0 : ∀ i : Nat, ∃ t : Nat, i < 26 → (jg_C i).eval #[Value.ref b] s none [] s = some (.ref t) := by
    intro i
    by_cases hi : i < 26
    · obtain ⟨a, c, cell, k, q1, -⟩ := Cond.exactly_spec (hs _ (jg_ex ⟨i, hi⟩))
      exact ⟨a, fun _ => q1⟩
    · exact ⟨0, fun h => absurd h hi⟩
  obtain ⟨aT, had⟩ := Classical.axiomOfChoice h0
  obtain ⟨ts, hts1, hts2⟩ := va_Tof (N := 26) (f := fun j => .ref (aT j)) (by decide) (hs _ jg_ar) (va_eqt (hs _ jg_ln)) (fun j hj => va_eqv (hs _ (jg_el ⟨j, hj⟩)) (had j hj)) hA
  have hle := va_Efof (N := 26) (E := "CombTable$Term") (nm := jm_tn) (d0 := "LCombTable$Term;") (o := "CombTable$Term") (n := "letters") (d := "J") (tm := fun i => .long (Int64.ofInt (jm_tle.getD i 0))) (v := fun i => .long (Int64.ofInt (jm_tle.getD i 0))) had (fun i hi => hs _ (jg_le ⟨i, hi⟩)) (fun i _ => rfl) hA
  have hdo := va_Efof (N := 26) (E := "CombTable$Term") (nm := jm_tn) (d0 := "LCombTable$Term;") (o := "CombTable$Term") (n := "does") (d := "I") (tm := fun i => .int (Int32.ofInt (jm_td.getD i 0))) (v := fun i => .int (Int32.ofInt (jm_td.getD i 0))) had (fun i hi => hs _ (jg_do ⟨i, hi⟩)) (fun i _ => rfl) hA
  refine ⟨aT, ts, fun l D cA aK aV => ⟨fun i hi => ⟨va_Zref (hts _ (jg_ls i hi)) (hts _ jg_i1) (had i hi) hA, hle i hi, hdo i hi⟩, fun i j hi hj e => ?_, va_Zref (hts _ jg_lT) (hts _ jg_i2) hts1 hA, hts2, hX, hbl⟩⟩
  have ei := va_eqt (hs _ (jg_or ⟨i, hi⟩))
  have ej := va_eqt (hs _ (jg_or ⟨j, hj⟩))
  rw [va_fe (had i hi)] at ei
  rw [va_fe (had j hj), ← show aT i = aT j from e, ei] at ej
  have e2 : Int32.ofNat i = Int32.ofNat j := by
    have := Option.some.inj ej
    exact Value.int.inj this
  have e3 := congrArg Int32.toNatClampNeg e2
  rw [Int32.toNatClampNeg_ofNat_of_lt (by omega), Int32.toNatClampNeg_ofNat_of_lt (by omega)] at e3
  exact e3
theorem je_X1 (l : Launch) (hflags : l.flags = flags0) (hts : ∀ w ∈ lw_tbl, w.before #[Value.ref b] s = true) (hgv : jg_T.before #[Value.ref b] s = true) (D : va_G) (cA : Nat → ClassId) (aT : Nat → Nat) (ts : Nat) (aK aV : Nat → Nat) : jm_X1 (l, D, cA, s.heap.size, aT, ts, b, L, xs, 0, aK, aV) s s.heap := by
  have hs := flat_of_before _ hgv
  have hA : ∀ a : Nat, a < s.heap.size → ¬ (fun q : Nat => s.heap.size ≤ q) a := fun a h => Nat.not_le.mpr h
  refine ⟨?_, ⟨va_Nw.of rfl (hts _ jg_d1), va_Nw.of rfl (hts _ jg_d2), va_Nw.of rfl (hts _ jg_d3), va_Nw.of rfl (hts _ jg_ca), fun q hq => va_Nw.of rfl (hts _ (jg_nl q hq))⟩, vx_Zqof (hts _ jg_l1) (hts _ jg_i3) (hs _ jg_s1) hA, vx_Zqof (hts _ jg_l2) (hts _ jg_i3) (hs _ jg_s2) hA⟩
  show l.stackTraces = false
  unfold Launch.stackTraces
  rw [hflags]
  decide +kernel
end JG
/-! String constants: what is said of each, and that no two are one -/
def jg_st (i : Nat) : Term := .string "CombTableLaw" (jm_ks.getD i (0, "")).1
def jg_va (i : Nat) : Term := .field (jg_st i) "java/lang/String" "value" "[B"
def jg_w (i : Nat) : List Cond := [.exactly (jg_st i) "java/lang/String", .eq (.field (jg_st i) "java/lang/String" "coder" "B") (.int 0), .arrayOf (jg_va i) .byte, .eq (.length (jg_va i)) (.int (Int32.ofNat (jm_kn.getD i 0)))] ++ (List.range (jm_kn.getD i 0)).map (fun j => .eq (.elem (jg_va i) (.int (Int32.ofNat j))) (.int ((jm_kb.getD i []).getD j 0)))
theorem jg_dr : (flatC jg_T).drop 157 = (List.range 14).flatMap jg_w := by decide +kernel
theorem jg_sm {i : Nat} (hi : i < 14) {w : Cond} (hw : w ∈ jg_w i) : w ∈ flatC jg_T := List.mem_of_mem_drop (show w ∈ (flatC jg_T).drop 157 by rw [jg_dr]; exact List.mem_flatMap.mpr ⟨i, List.mem_range.mpr hi, hw⟩)
theorem jg_kn : ∀ i : Nat, i < 14 → jm_kn.getD i 0 ≤ 17 := by decide +kernel
theorem jg_ne : ∀ i j : Fin 14, i ≠ j → jm_kn.getD i.1 0 ≠ jm_kn.getD j.1 0 ∨ ∃ k : Fin 17, k.1 < jm_kn.getD i.1 0 ∧ k.1 < jm_kn.getD j.1 0 ∧ (jm_kb.getD i.1 []).getD k.1 0 ≠ (jm_kb.getD j.1 []).getD k.1 0 := by decide +kernel
theorem jg_len {args : Array Value} {s : State} {t u : Term} (h : t.eval args s none [] s = u.eval args s none [] s) : (Term.length t).eval args s none [] s = (Term.length u).eval args s none [] s := by simp only [Term.eval, h]
theorem jg_elem {args : Array Value} {s : State} {t u i : Term} (h : t.eval args s none [] s = u.eval args s none [] s) : (Term.elem t i).eval args s none [] s = (Term.elem u i).eval args s none [] s := by simp only [Term.eval, h]
section JS
variable {s : State} {b L : Nat} {xs : Nat → Int32}
theorem je_S (hgv : jg_T.before #[Value.ref b] s = true) : ∃ adK adV : Nat → Nat, vk_S 14 jm_kn jm_kb adK adV (fun q : Nat => s.heap.size ≤ q) s s.heap ∧ ∀ i : Nat, i < 14 → (jg_st i).eval #[Value.ref b] s none [] s = some (.ref (adK i)) := by
  have hs := flat_of_before _ hgv
  have hA : ∀ a : Nat, a < s.heap.size → ¬ (fun q : Nat => s.heap.size ≤ q) a := fun a h => Nat.not_le.mpr h
  have hex : ∀ i : Nat, i < 14 → (Cond.exactly (jg_st i) "java/lang/String").before #[Value.ref b] s = true := fun i hi => hs _ (jg_sm hi (List.mem_append_left _ List.mem_cons_self))
  have hco : ∀ i : Nat, i < 14 → (Cond.eq (.field (jg_st i) "java/lang/String" "coder" "B") (.int 0)).before #[Value.ref b] s = true := fun i hi => hs _ (jg_sm hi (List.mem_append_left _ (List.mem_cons_of_mem _ List.mem_cons_self)))
  have har : ∀ i : Nat, i < 14 → (Cond.arrayOf (jg_va i) .byte).before #[Value.ref b] s = true := fun i hi => hs _ (jg_sm hi (List.mem_append_left _ (List.mem_cons_of_mem _ (List.mem_cons_of_mem _ List.mem_cons_self))))
  have hle : ∀ i : Nat, i < 14 → (Cond.eq (.length (jg_va i)) (.int (Int32.ofNat (jm_kn.getD i 0)))).before #[Value.ref b] s = true := fun i hi => hs _ (jg_sm hi (List.mem_append_left _ (List.mem_cons_of_mem _ (List.mem_cons_of_mem _ (List.mem_cons_of_mem _ List.mem_cons_self)))))
  have hel : ∀ i : Nat, i < 14 → ∀ j : Nat, j < jm_kn.getD i 0 → (Cond.eq (.elem (jg_va i) (.int (Int32.ofNat j))) (.int ((jm_kb.getD i []).getD j 0))).before #[Value.ref b] s = true := fun i hi j hj => hs _ (jg_sm hi (List.mem_append_right _ (List.mem_map.mpr ⟨j, List.mem_range.mpr hj, rfl⟩)))
  have h0 : ∀ i : Nat, ∃ q : Nat × Nat, i < 14 → (jg_st i).eval #[Value.ref b] s none [] s = some (.ref q.1) ∧ va_O "java/lang/String" q.1 (fun q : Nat => s.heap.size ≤ q) s s.heap ∧ va_OF "java/lang/String" "coder" "B" (.int 0) q.1 (fun q : Nat => s.heap.size ≤ q) s s.heap ∧ va_OF "java/lang/String" "value" "[B" (.ref q.2) q.1 (fun q : Nat => s.heap.size ≤ q) s s.heap ∧ va_T .byte q.2 (jm_kn.getD i 0) (fun j => .int ((jm_kb.getD i []).getD j 0)) (fun q : Nat => s.heap.size ≤ q) s s.heap := by
    intro i
    by_cases hi : i < 14
    · obtain ⟨a, c, cell, k, q1, q2, q3, q4, q5, q6, -⟩ := Cond.exactly_spec (args := #[Value.ref b]) (first := s) (o := none) (s := s) (idx := []) (t := jg_st i) (cls := "java/lang/String") (hex i hi)
      obtain ⟨t, ht, hT⟩ := va_Tof (f := fun j => .int ((jm_kb.getD i []).getD j 0)) (A := fun q : Nat => s.heap.size ≤ q) (show jm_kn.getD i 0 < 2 ^ 31 by have := jg_kn i hi; omega) (har i hi) (va_eqt (hle i hi)) (fun j hj => va_eqt (hel i hi j hj)) hA
      exact ⟨(a, t), fun _ => ⟨q1, ⟨cell, q3, q5, by rw [q6]; exact q2, hA a (Array.getElem?_eq_some_iff.mp q3).1⟩, vk_OFof q1 (va_eqt (hco i hi)) hA, vk_OFof q1 ht hA, hT⟩⟩
    · exact ⟨(0, 0), fun h => absurd h hi⟩
  obtain ⟨ad, had⟩ := Classical.axiomOfChoice h0
  refine ⟨fun i => (ad i).1, fun i => (ad i).2, ⟨fun i hi => (had i hi).2, fun i j hi hj e => ?_⟩, fun i hi => (had i hi).1⟩
  refine Decidable.byContradiction fun hij => ?_
  have ei : (jg_va i).eval #[Value.ref b] s none [] s = s.fieldOf? (ad i).1 "java/lang/String" "value" "[B" := va_fe (had i hi).1
  have ej : (jg_va j).eval #[Value.ref b] s none [] s = s.fieldOf? (ad j).1 "java/lang/String" "value" "[B" := va_fe (had j hj).1
  have e0 : (ad i).1 = (ad j).1 := e
  have ev : (jg_va i).eval #[Value.ref b] s none [] s = (jg_va j).eval #[Value.ref b] s none [] s := by rw [ei, ej, e0]
  rcases jg_ne ⟨i, hi⟩ ⟨j, hj⟩ (fun z => hij (congrArg Fin.val z)) with h | ⟨k, k1, k2, h⟩
  · have l1 := va_eqt (hle i hi)
    have l2 := va_eqt (hle j hj)
    rw [jg_len ev, l2] at l1
    have l3 := congrArg Int32.toNatClampNeg (Value.int.inj (Option.some.inj l1))
    have g1 := jg_kn i hi
    have g2 := jg_kn j hj
    rw [Int32.toNatClampNeg_ofNat_of_lt (by omega), Int32.toNatClampNeg_ofNat_of_lt (by omega)] at l3
    exact h l3.symm
  · have l1 := va_eqt (hel i hi k.1 k1)
    have l2 := va_eqt (hel j hj k.1 k2)
    rw [jg_elem ev, l2] at l1
    exact h (Value.int.inj (Option.some.inj l1)).symm
theorem je_XS (hts : ∀ w ∈ lw_tbl, w.before #[Value.ref b] s = true) (hgv : jg_T.before #[Value.ref b] s = true) : ∃ aK aV : Nat → Nat, ∀ (l : Launch) (D : va_G) (cA : Nat → ClassId) (aT : Nat → Nat) (ts : Nat), jm_XS (l, D, cA, s.heap.size, aT, ts, b, L, xs, 0, aK, aV) s s.heap := by
  have hs := flat_of_before _ hgv
  have hA : ∀ a : Nat, a < s.heap.size → ¬ (fun q : Nat => s.heap.size ≤ q) a := fun a h => Nat.not_le.mpr h
  obtain ⟨adK, adV, hS, hev⟩ := je_S hgv
  have hZ := va_Zof (hts _ jg_l4) (hts _ jg_i5) (va_eqt (hs _ jg_s4)) hA
  have two : ∃ t : Nat, va_Z jm_fmC "SIOOBE_FORMATTER" jm_fmD .null (fun q : Nat => s.heap.size ≤ q) s s.heap ∨ va_Z jm_fmC "SIOOBE_FORMATTER" jm_fmD (.ref t) (fun q : Nat => s.heap.size ≤ q) s s.heap := by
    rcases va_Zqof (hts _ jg_l3) (hts _ jg_i4) (hs _ jg_s3) hA with q | ⟨t, q⟩
    · exact ⟨0, Or.inl q⟩
    · exact ⟨t, Or.inr q⟩
  obtain ⟨t, hF⟩ := two
  have lo : ∀ i : Nat, i < 14 → (if i = 20 then t else adK i) = adK i := fun i hi => if_neg (by omega)
  refine ⟨fun i => if i = 20 then t else adK i, adV, fun l D cA aT ts => ⟨hZ, hF, ⟨fun i hi => ?_, fun i j hi hj e => ?_⟩, fun i hi => ?_⟩⟩
  · have := hS.1 i hi
    rw [← lo i hi] at this
    exact this
  · have e2 : (if i = 20 then t else adK i) = (if j = 20 then t else adK j) := e
    rw [lo i hi, lo j hj] at e2
    exact hS.2 i j hi hj e2
  · have h1 := vk_R.of (hts _ (jg_sr i hi)) (hev i hi)
    rw [← lo i hi] at h1
    exact h1
end JS
/-- a room that holds more holds this walk too -/
theorem W_room {p : Program} {l : Launch} {e : Env} {R R' : Room} {s : State} {m : MethodId} {args : Array Value} {below : List Frame} {meth : Method} {c : Code} {H : Heap} {locs : List Loc} {cells slots : Nat} {Q : State → Prop} {g : JFrame} (h1 : R'.frames ≤ R.frames) (h2 : R'.locals ≤ R.locals) (h3 : R'.cells ≤ R.cells) (h4 : R'.slots ≤ R.slots)
    (kk : W p l e R' s m args below meth c H locs cells slots Q g) : W p l e R s m args below meth c H locs cells slots Q g := by
  intro T hT X
  refine kk T hT { X with room := ?_ }
  have h := X.room
  simp only [State.hasRoom, Bool.and_eq_true, decide_eq_true_eq] at h ⊢
  obtain ⟨⟨⟨⟨q1, q2, q3, q4, q5, q6⟩, q7⟩, q8⟩, q9⟩ := h
  refine ⟨⟨⟨⟨?_, ?_, ?_, ?_, ?_, q6⟩, ?_⟩, ?_⟩, q9⟩ <;> omega

