/-- the tables' words that a callee may take with it -/
def jm_tbl : List Cond := lw_tbl.filter goodWord
theorem jm_tb {w : Cond} (h : w ∈ lw_tbl) (g : goodWord w = true) : w ∈ jm_tbl := List.mem_filter.mpr ⟨h, g⟩
/-! THE ABSTRACT MACHINE: numbers are whole numbers (Int), objects and rows are places, memory is a function of place and slot -/
abbrev jm_V : Type := Int ⊕ (Int ⊕ Int)
abbrev jm_I (x : Int) : jm_V := .inl x
abbrev jm_L (x : Int) : jm_V := .inr (.inl x)
abbrev jm_R (x : Int) : jm_V := .inr (.inr x)
abbrev jm_M : Type := Int → Int → Int
def jm_up (m : jm_M) (p i v : Int) : jm_M := fun q j => if j = i then (if q = p then v else m q j) else m q j
/-- launch, classes and slots, array classes, first address, Term's constants, TERMS, the script's address, length and numbers; the place of the law's row of cells (0: not made yet), addresses of String constants and of their bytes -/
abbrev jm_E : Type := Launch × va_G × (Nat → ClassId) × Nat × (Nat → Nat) × Nat × Nat × Nat × (Nat → Int32) × Nat × (Nat → Nat) × (Nat → Nat)
abbrev jm_l (E : jm_E) : Launch := E.1
abbrev jm_D (E : jm_E) : va_G := E.2.1
abbrev jm_cA (E : jm_E) : Nat → ClassId := E.2.2.1
abbrev jm_b (E : jm_E) : Nat := E.2.2.2.1
abbrev jm_aT (E : jm_E) : Nat → Nat := E.2.2.2.2.1
abbrev jm_ts (E : jm_E) : Nat := E.2.2.2.2.2.1
abbrev jm_sc (E : jm_E) : Nat := E.2.2.2.2.2.2.1
abbrev jm_sL (E : jm_E) : Nat := E.2.2.2.2.2.2.2.1
abbrev jm_sx (E : jm_E) : Nat → Int32 := E.2.2.2.2.2.2.2.2.1
abbrev jm_xp (E : jm_E) : Nat := E.2.2.2.2.2.2.2.2.2.1
abbrev jm_aK (E : jm_E) : Nat → Nat := E.2.2.2.2.2.2.2.2.2.2.1
abbrev jm_aV (E : jm_E) : Nat → Nat := E.2.2.2.2.2.2.2.2.2.2.2
def jm_setx (E : jm_E) (x : Nat) : jm_E := (E.1, E.2.1, E.2.2.1, E.2.2.2.1, E.2.2.2.2.1, E.2.2.2.2.2.1, E.2.2.2.2.2.2.1, E.2.2.2.2.2.2.2.1, E.2.2.2.2.2.2.2.2.1, x, E.2.2.2.2.2.2.2.2.2.2.1, E.2.2.2.2.2.2.2.2.2.2.2)
def jm_ad (E : jm_E) (p : Int) : Nat := if 0 ≤ p then jm_b E + p.toNat else if p = -2 then jm_sc E else if p = -3 then jm_ts E else if p ≤ -201 then jm_aV E (-201 - p).toNat else if p ≤ -101 then jm_aK E (-101 - p).toNat else jm_aT E (-11 - p).toNat
def jm_cv (E : jm_E) : jm_V → Value
  | .inl x => .int (Int32.ofInt x)
  | .inr (.inl x) => .long (Int64.ofInt x)
  | .inr (.inr p) => if p = -1 then .null else .ref (jm_ad E p)
def jm_ok : jm_V → Prop
  | .inl x => -2147483648 ≤ x ∧ x < 2147483648
  | .inr (.inl x) => -9223372036854775808 ≤ x ∧ x < 9223372036854775808
  | .inr (.inr _) => True
def jm_mk (t : Nat) (x : Int) : jm_V := if t = 0 then jm_I x else if t = 1 then jm_L x else jm_R x
def jm_wr (x : Int) : Int := (Int32.ofInt x).toInt
def jm_wl (x : Int) : Int := (Int64.ofInt x).toInt
theorem jm_wr_of (x : Int) : Int32.ofInt (jm_wr x) = Int32.ofInt x := Int32.ofInt_toInt _
theorem jm_wl_of (x : Int) : Int64.ofInt (jm_wl x) = Int64.ofInt x := Int64.ofInt_toInt _
theorem jm_ok32 (x : Int32) : jm_ok (jm_I x.toInt) := by
  have h1 := Int32.le_toInt x
  have h2 := Int32.toInt_lt x
  exact ⟨by simpa using h1, by simpa using h2⟩
theorem jm_ok64 (x : Int64) : jm_ok (jm_L x.toInt) := by
  have h1 := Int64.le_toInt x
  have h2 := Int64.toInt_lt x
  exact ⟨by simpa using h1, by simpa using h2⟩
theorem jm_ti {a : Int} (h : jm_ok (jm_I a)) : (Int32.ofInt a).toInt = a := Int32.toInt_ofInt_of_le (by simpa using h.1) (by simpa using h.2)
theorem jm_tl {a : Int} (h : jm_ok (jm_L a)) : (Int64.ofInt a).toInt = a := Int64.toInt_ofInt_of_le (by simpa using h.1) (by simpa using h.2)
theorem jm_wr_id {a : Int} (h1 : -2147483648 ≤ a) (h2 : a < 2147483648) : jm_wr a = a := jm_ti ⟨h1, h2⟩
theorem jm_wl_id {a : Int} (h1 : -9223372036854775808 ≤ a) (h2 : a < 9223372036854775808) : jm_wl a = a := jm_tl ⟨h1, h2⟩
theorem jm_lt32 {a b : Int} (ha : jm_ok (jm_I a)) (hb : jm_ok (jm_I b)) : Int32.ofInt a < Int32.ofInt b ↔ a < b := by rw [Int32.lt_iff_toInt_lt, jm_ti ha, jm_ti hb]
theorem jm_le32 {a b : Int} (ha : jm_ok (jm_I a)) (hb : jm_ok (jm_I b)) : Int32.ofInt a ≤ Int32.ofInt b ↔ a ≤ b := by rw [Int32.le_iff_toInt_le, jm_ti ha, jm_ti hb]
theorem jm_eq32 {a b : Int} (ha : jm_ok (jm_I a)) (hb : jm_ok (jm_I b)) : Int32.ofInt a = Int32.ofInt b ↔ a = b := by rw [← Int32.toInt_inj, jm_ti ha, jm_ti hb]
theorem jm_lt64 {a b : Int} (ha : jm_ok (jm_L a)) (hb : jm_ok (jm_L b)) : Int64.ofInt a < Int64.ofInt b ↔ a < b := by rw [Int64.lt_iff_toInt_lt, jm_tl ha, jm_tl hb]
theorem jm_eq64 {a b : Int} (ha : jm_ok (jm_L a)) (hb : jm_ok (jm_L b)) : Int64.ofInt a = Int64.ofInt b ↔ a = b := by rw [← Int64.toInt_inj, jm_tl ha, jm_tl hb]
/-! shapes -/
def jm_s (k : Nat) : Nat × Nat := jm_sh.getD k (0, 0)
def jm_sk (p : Int) : Nat := if p < 0 then 0 else (jm_s p.toNat).1
def jm_sn (p : Int) : Nat := if p < 0 then 0 else (jm_s p.toNat).2
def jm_cell (E : jm_E) (m : jm_M) (k : Nat) : va_E :=
  if (jm_s k).1 = 1 then .inr ((jm_s k).2, (List.range (jm_nf (jm_s k).2)).map fun j : Nat => jm_cv E (jm_mk (jm_ft (jm_s k).2 j) (m k j)))
  else if (jm_s k).1 = 3 then .inl (jm_cA E 1, (jm_s k).2, .inr (.inl fun j : Nat => Int64.ofInt (m k j)))
  else .inl (jm_cA E ((jm_s k).1 - 2), (jm_s k).2, .inl fun j : Nat => Int32.ofInt (m k j))
def jm_tys (E : jm_E) : List (ClassId × FieldType) := [(jm_cA E 0, .int), (jm_cA E 1, .long), (jm_cA E 2, .byte)]
def jm_ws (E : jm_E) (n : Nat) (m : jm_M) : va_W := (List.range n).map fun k : Nat => (jm_b E + k, jm_cell E m k)
/-- numbers are in range -/
def jm_okc (m : jm_M) (k : Nat) : Prop :=
  if (jm_s k).1 = 1 then ∀ j : Nat, j < jm_nf (jm_s k).2 → jm_ok (jm_mk (jm_ft (jm_s k).2 j) (m k j))
  else if (jm_s k).1 = 3 then ∀ j : Nat, j < (jm_s k).2 → jm_ok (jm_L (m k j))
  else ∀ j : Nat, j < (jm_s k).2 → jm_ok (jm_I (m k j))
def jm_A (E : jm_E) : Nat → Prop := fun q => jm_b E ≤ q
def jm_WF (m : jm_M) : Prop := ∀ q ∈ jm_frl, m q.1 q.2.1 = q.2.2
theorem jm_frl_ok : ∀ q ∈ jm_frl, 0 ≤ q.1 ∧ 0 ≤ q.2.1 ∧ (jm_s q.1.toNat).1 = 1 ∧ jm_fin (jm_s q.1.toNat).2 q.2.1.toNat = true := by decide +kernel
/-- the law's row of cells: what it holds is of no account -/
def jm_xr (E : jm_E) (H : Heap) : Prop := jm_xp E = 0 ∨ (jm_N ≤ jm_xp E ∧ ∃ f : Nat → Int32, va_at (jm_D E) jm_cl (jm_b E + jm_xp E, .inl (jm_cA E 0, 60, .inl f)) H)
theorem jm_xr.kept {E : jm_E} {H H1 : Heap} (h : jm_xr E H) (hq : ∀ q : Nat, jm_b E + jm_N ≤ q → q < H.size → H1[q]? = H[q]?) : jm_xr E H1 := by
  rcases h with h | ⟨h1, f, h2⟩
  · exact Or.inl h
  · exact Or.inr ⟨h1, f, h2.kept (hq _ (Nat.add_le_add_left h1 _) h2.lt)⟩
def jm_Rel (E : jm_E) (n : Nat) (m : jm_M) (H : Heap) : Prop :=
  va_P (jm_D E) jm_cl (jm_ws E n m) H ∧ (∀ k : Nat, k < n → jm_okc m k) ∧ n ≤ jm_N ∧ jm_b E + n ≤ H.size ∧ (n < jm_N → H.size = jm_b E + n ∧ jm_xp E = 0) ∧ (n = jm_N → jm_WF m ∧ jm_xr E H)
theorem jm_ws_get {E : jm_E} {n : Nat} {m : jm_M} {k : Nat} (h : k < n) : (jm_ws E n m)[k]? = some (jm_b E + k, jm_cell E m k) := by
  unfold jm_ws
  rw [List.getElem?_map, List.getElem?_range h]
  rfl
theorem jm_ws_len {E : jm_E} {n : Nat} {m : jm_M} : (jm_ws E n m).length = n := by simp [jm_ws]
theorem jm_ws_D {E : jm_E} {n : Nat} {m : jm_M} : va_D (jm_A E) (jm_ws E n m) := by
  have key : ∀ (k : Nat) (q : Nat × va_E), (jm_ws E n m)[k]? = some q → q.1 = jm_b E + k := by
    intro k q hk
    have hl : k < n := by
      have := (List.getElem?_eq_some_iff.mp hk).1
      rwa [jm_ws_len] at this
    rw [jm_ws_get hl] at hk
    cases hk
    rfl
  refine ⟨fun i j p q hi hj hpq => ?_, fun k q hk => ?_⟩
  · have h1 := key i p hi
    have h2 := key j q hj
    omega
  · have h1 := key k q hk
    show jm_b E ≤ q.1
    omega
theorem jm_ws_set {E : jm_E} {n : Nat} {m m' : jm_M} {k : Nat} {e : va_E} (hk : k < n) (he : jm_cell E m' k = e) (ho : ∀ j : Nat, j ≠ k → jm_cell E m' j = jm_cell E m j) : (jm_ws E n m).set k (jm_b E + k, e) = jm_ws E n m' := by
  apply List.ext_getElem?
  intro i
  by_cases hi : i < n
  · rw [jm_ws_get hi]
    by_cases h : i = k
    · subst h
      rw [List.getElem?_set_self (by rw [jm_ws_len]; exact hi), he]
    · rw [List.getElem?_set_ne (fun z => h z.symm), jm_ws_get hi, ho i h]
  · have h1 : (jm_ws E n m')[i]? = none := List.getElem?_eq_none (by rw [jm_ws_len]; omega)
    have h2 : ((jm_ws E n m).set k (jm_b E + k, e))[i]? = none := List.getElem?_eq_none (by rw [List.length_set, jm_ws_len]; omega)
    rw [h1, h2]
theorem jm_up_ne {m : jm_M} {p i v q : Int} (h : q ≠ p) : jm_up m p i v q = m q := by
  funext j
  unfold jm_up
  split <;> simp [h]
theorem jm_up_at {m : jm_M} {p i v : Int} : jm_up m p i v p i = v := by simp [jm_up]
theorem jm_up_i {m : jm_M} {p i v q j : Int} (h : j ≠ i) : jm_up m p i v q j = m q j := by simp [jm_up, h]
theorem jm_up_cell {E : jm_E} {m : jm_M} {k j : Nat} {i v : Int} (h : j ≠ k) : jm_cell E (jm_up m k i v) j = jm_cell E m j := by
  have e : jm_up m (k : Int) i v (j : Int) = m j := jm_up_ne (fun z => h (by omega))
  unfold jm_cell
  rw [e]
theorem jm_up_okc {m : jm_M} {k j : Nat} {i v : Int} (h : j ≠ k) (h1 : jm_okc m j) : jm_okc (jm_up m k i v) j := by
  have e : jm_up m (k : Int) i v (j : Int) = m j := jm_up_ne (fun z => h (by omega))
  unfold jm_okc at h1 ⊢
  rw [e]
  exact h1
