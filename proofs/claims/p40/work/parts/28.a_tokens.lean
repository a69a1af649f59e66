/-! TOKENS. A text: numbers 0 to 255, how many. A token: sort (0 the end, 1 none, 2 WORD, 3 NUMBER, 4 sign), place, where it goes on, letters by 32 or number or sign -/
def sLt (c : Int) : Bool := decide (97 ≤ c) && decide (c ≤ 122)
def sDg (c : Int) : Bool := decide (48 ≤ c) && decide (c ≤ 57)
def sSi (c : Int) : Bool := decide (c = 59) || decide (c = 60) || decide (c = 61) || decide (c = 62) || decide (c = 40) || decide (c = 41)
def sBl (c : Int) : Bool := decide (c = 32) || decide (c = 10)
abbrev sTk1 : Type := Int × Int × Int × Int
def sSkp (τ : Int → Int) (n : Int) : Nat → Int → Int
  | 0, p => p
  | f + 1, p => if p < n then (if sBl (τ p) = true then sSkp τ n f (p + 1) else p) else p
/-- a run: where it ends, letters, digits, the letters by 32, the number -/
def sRu (τ : Int → Int) (n : Int) : Nat → Int → Int → Int → Int → Int → Int × Int × Int × Int × Int
  | 0, p, a, b, L, V => (p, a, b, L, V)
  | f + 1, p, a, b, L, V => if p < n then (if sLt (τ p) = true then sRu τ n f (p + 1) (a + 1) b (L * 32 + (τ p - 96)) V else if sDg (τ p) = true then sRu τ n f (p + 1) a (b + 1) L (V * 10 + (τ p - 48)) else (p, a, b, L, V)) else (p, a, b, L, V)
def sRk (q : Int) (r : Int × Int × Int × Int × Int) : sTk1 :=
  if r.2.2.1 = 0 ∧ r.2.1 ≤ 7 then (2, q, r.1, r.2.2.2.1) else if r.2.1 = 0 ∧ r.2.2.1 ≤ 3 then (3, q, r.1, r.2.2.2.2) else (1, q, 0, 0)
def sTok (τ : Int → Int) (n lim p : Int) : sTk1 :=
  if lim < n ∧ lim ≤ sSkp τ n 940 p then (1, lim, 0, 0)
  else if n ≤ sSkp τ n 940 p then (0, sSkp τ n 940 p, 0, 0)
  else if (sLt (τ (sSkp τ n 940 p)) || sDg (τ (sSkp τ n 940 p))) = true then sRk (sSkp τ n 940 p) (sRu τ n 940 (sSkp τ n 940 p) 0 0 0 0)
  else if sSi (τ (sSkp τ n 940 p)) = true then (4, sSkp τ n 940 p, sSkp τ n 940 p + 1, τ (sSkp τ n 940 p)) else (1, sSkp τ n 940 p, 0, 0)
theorem sSkp_ge {τ : Int → Int} {n : Int} : ∀ (f : Nat) (p : Int), p ≤ sSkp τ n f p ∧ (p ≤ n → sSkp τ n f p ≤ n)
  | 0, p => ⟨Int.le_refl _, fun h => h⟩
  | f + 1, p => by
    have ih := sSkp_ge (τ := τ) (n := n) f (p + 1)
    unfold sSkp
    split
    · split
      · exact ⟨by omega, fun _ => ih.2 (by omega)⟩
      · exact ⟨Int.le_refl _, fun h => h⟩
    · exact ⟨Int.le_refl _, fun h => h⟩
/-- a text that is cut off: blanks are skipped alike -/
theorem sSkp_cut {τ : Int → Int} {n l : Int} (hl : l ≤ n) : ∀ (f : Nat) (p : Int), (sSkp τ l f p < l → sSkp τ n f p = sSkp τ l f p) ∧ (l ≤ sSkp τ l f p → l ≤ sSkp τ n f p)
  | 0, p => ⟨fun _ => rfl, fun h => h⟩
  | f + 1, p => by
    have ih := sSkp_cut (τ := τ) hl f (p + 1)
    unfold sSkp
    by_cases hp : p < l
    · rw [if_pos hp, if_pos (show p < n by omega)]
      by_cases hb : sBl (τ p) = true
      · rw [if_pos hb, if_pos hb]; exact ih
      · rw [if_neg hb, if_neg hb]; exact ⟨fun _ => rfl, fun h => h⟩
    · rw [if_neg hp]
      refine ⟨fun h => absurd h hp, fun h => ?_⟩
      split
      · split
        · have := (sSkp_ge (τ := τ) (n := n) f (p + 1)).1; omega
        · exact h
      · exact h
def sSb (c : Int) : Int := if 128 ≤ c then c - 256 else c
/-- the text as it lies in the class -/
def tTx (μ : jm_M) (τ : Int → Int) (n : Int) : Prop := μ 1 1 = n ∧ ∀ i, 0 ≤ i → i < n → μ 2 i = sSb (τ i)
def sTx (τ : Int → Int) (n : Int) : Prop := 0 ≤ n ∧ n ≤ 940 ∧ ∀ i, 0 ≤ i → i < n → 0 ≤ τ i ∧ τ i ≤ 255
/-- which of the texts' own words it is; 0: none -/
def sTm1 (v : Int) : Nat → Int → Int
  | 0, _ => 0
  | f + 1, i => if jm_le (-11 - i) = v then i else sTm1 v f (i + 1)
def sTm (v : Int) : Int := sTm1 v 26 0
/-- a token as it lies in the class -/
def tTo (μ : jm_M) (n lim : Int) (k : sTk1) : Prop :=
  μ 1 5 = k.2.1 ∧ (k.1 = 0 → μ 1 4 = 0 ∧ n ≤ lim) ∧ (k.1 = 1 → μ 1 4 = 4 ∨ μ 1 4 = 0 ∧ lim < n) ∧ (k.1 = 2 → μ 1 4 = 1 ∧ μ 1 6 = k.2.2.2 ∧ μ 1 7 = -11 - sTm k.2.2.2) ∧ (k.1 = 3 → μ 1 4 = 2 ∧ μ 1 8 = k.2.2.2) ∧ (k.1 = 4 → μ 1 4 = 3 ∧ μ 1 8 = k.2.2.2) ∧ (2 ≤ k.1 → μ 1 3 = k.2.2.1)
theorem sTm1_in {v : Int} : ∀ (f : Nat) (i : Int), 0 ≤ i → i + f ≤ 26 → 0 ≤ sTm1 v f i ∧ sTm1 v f i ≤ 25
  | 0, i, _, _ => ⟨Int.le_refl _, show (0 : Int) ≤ 25 by decide⟩
  | f + 1, i, h0, h1 => by
    have ih := sTm1_in (v := v) f (i + 1) (by omega) (by omega)
    unfold sTm1
    split
    · omega
    · exact ih
theorem sTm_in {v : Int} : 0 ≤ sTm v ∧ sTm v ≤ 25 := sTm1_in 26 0 (by decide) (by decide)
theorem sRu_ge {τ : Int → Int} {n : Int} : ∀ (f : Nat) (p a b L V : Int), p ≤ (sRu τ n f p a b L V).1 ∧ (sRu τ n f p a b L V).1 ≤ p + f ∧ a ≤ (sRu τ n f p a b L V).2.1 ∧ b ≤ (sRu τ n f p a b L V).2.2.1 ∧ (p ≤ n → (sRu τ n f p a b L V).1 ≤ n)
  | 0, p, a, b, L, V => ⟨Int.le_refl _, by show p ≤ p + ((0 : Nat) : Int); omega, Int.le_refl _, Int.le_refl _, fun h => h⟩
  | f + 1, p, a, b, L, V => by
    unfold sRu
    split
    · split
      · have ih := sRu_ge (τ := τ) (n := n) f (p + 1) (a + 1) b (L * 32 + (τ p - 96)) V
        exact ⟨by omega, by omega, by omega, ih.2.2.2.1, fun _ => ih.2.2.2.2 (by omega)⟩
      · split
        · have ih := sRu_ge (τ := τ) (n := n) f (p + 1) a (b + 1) L (V * 10 + (τ p - 48))
          exact ⟨by omega, by omega, ih.2.2.1, by omega, fun _ => ih.2.2.2.2 (by omega)⟩
        · exact ⟨Int.le_refl _, by show p ≤ p + ((f + 1 : Nat) : Int); omega, Int.le_refl _, Int.le_refl _, fun h => h⟩
    · exact ⟨Int.le_refl _, by show p ≤ p + ((f + 1 : Nat) : Int); omega, Int.le_refl _, Int.le_refl _, fun h => h⟩
theorem jm_wl_h (x y : Int) : jm_wl (jm_wl (jm_wl x * 32) + y) = jm_wl (x * 32 + y) := by
  unfold jm_wl
  have e : Int64.ofInt ((Int64.ofInt ((Int64.ofInt x).toInt * 32)).toInt + y) = Int64.ofInt (x * 32 + y) := by
    rw [Int64.ofInt_add, Int64.ofInt_toInt, Int64.ofInt_mul, Int64.ofInt_toInt, ← Int64.ofInt_mul, ← Int64.ofInt_add]
  rw [e]
theorem jm_wr_h (x y : Int) : jm_wr (jm_wr (jm_wr x * 10) + y) = jm_wr (x * 10 + y) := by
  unfold jm_wr
  have e : Int32.ofInt ((Int32.ofInt ((Int32.ofInt x).toInt * 10)).toInt + y) = Int32.ofInt (x * 10 + y) := by
    rw [Int32.ofInt_add, Int32.ofInt_toInt, Int32.ofInt_mul, Int32.ofInt_toInt, ← Int32.ofInt_mul, ← Int32.ofInt_add]
  rw [e]
theorem sLt_iff {c : Int} : sLt c = true ↔ 97 ≤ c ∧ c ≤ 122 := by unfold sLt; rw [Bool.and_eq_true, decide_eq_true_eq, decide_eq_true_eq]
theorem sDg_iff {c : Int} : sDg c = true ↔ 48 ≤ c ∧ c ≤ 57 := by unfold sDg; rw [Bool.and_eq_true, decide_eq_true_eq, decide_eq_true_eq]
theorem sSb_id {c : Int} (h : c < 128) : sSb c = c := if_neg (by omega)
theorem i_ne {a b : Int} (h : a = b) (hn : ¬ a = b) {p : Prop} : p := absurd h hn
theorem tTo_0 {μ : jm_M} {n lim q e v : Int} (h5 : μ 1 5 = q) (h4 : μ 1 4 = 0) (hl : n ≤ lim) : tTo μ n lim (0, q, e, v) :=
  ⟨h5, fun _ => ⟨h4, hl⟩, fun z => i_ne (show (0 : Int) = 1 from z) (by decide), fun z => i_ne (show (0 : Int) = 2 from z) (by decide), fun z => i_ne (show (0 : Int) = 3 from z) (by decide), fun z => i_ne (show (0 : Int) = 4 from z) (by decide), fun z => absurd (show (2 : Int) ≤ 0 from z) (by decide)⟩
theorem tTo_1 {μ : jm_M} {n lim q e v : Int} (h5 : μ 1 5 = q) (h4 : μ 1 4 = 4 ∨ μ 1 4 = 0 ∧ lim < n) : tTo μ n lim (1, q, e, v) :=
  ⟨h5, fun z => i_ne (show (1 : Int) = 0 from z) (by decide), fun _ => h4, fun z => i_ne (show (1 : Int) = 2 from z) (by decide), fun z => i_ne (show (1 : Int) = 3 from z) (by decide), fun z => i_ne (show (1 : Int) = 4 from z) (by decide), fun z => absurd (show (2 : Int) ≤ 1 from z) (by decide)⟩
theorem tTo_2 {μ : jm_M} {n lim q e v : Int} (h5 : μ 1 5 = q) (h4 : μ 1 4 = 1) (h6 : μ 1 6 = v) (h7 : μ 1 7 = -11 - sTm v) (h3 : μ 1 3 = e) : tTo μ n lim (2, q, e, v) :=
  ⟨h5, fun z => i_ne (show (2 : Int) = 0 from z) (by decide), fun z => i_ne (show (2 : Int) = 1 from z) (by decide), fun _ => ⟨h4, h6, h7⟩, fun z => i_ne (show (2 : Int) = 3 from z) (by decide), fun z => i_ne (show (2 : Int) = 4 from z) (by decide), fun _ => h3⟩
theorem tTo_3 {μ : jm_M} {n lim q e v : Int} (h5 : μ 1 5 = q) (h4 : μ 1 4 = 2) (h8 : μ 1 8 = v) (h3 : μ 1 3 = e) : tTo μ n lim (3, q, e, v) :=
  ⟨h5, fun z => i_ne (show (3 : Int) = 0 from z) (by decide), fun z => i_ne (show (3 : Int) = 1 from z) (by decide), fun z => i_ne (show (3 : Int) = 2 from z) (by decide), fun _ => ⟨h4, h8⟩, fun z => i_ne (show (3 : Int) = 4 from z) (by decide), fun _ => h3⟩
theorem tTo_4 {μ : jm_M} {n lim q e v : Int} (h5 : μ 1 5 = q) (h4 : μ 1 4 = 3) (h8 : μ 1 8 = v) (h3 : μ 1 3 = e) : tTo μ n lim (4, q, e, v) :=
  ⟨h5, fun z => i_ne (show (4 : Int) = 0 from z) (by decide), fun z => i_ne (show (4 : Int) = 1 from z) (by decide), fun z => i_ne (show (4 : Int) = 2 from z) (by decide), fun z => i_ne (show (4 : Int) = 3 from z) (by decide), fun _ => ⟨h4, h8⟩, fun _ => h3⟩

