/-! small forms for contracts -/
theorem jq_I {F : Int → Prop} {v : Int} (h : F v) : ∀ r : Int, some (jm_I v) = some (jm_I r) → F r := fun r e => by cases e; exact h
theorem jq_L {F : Int → Prop} {v : Int} (h : F v) : ∀ r : Int, some (jm_L v) = some (jm_L r) → F r := fun r e => by cases e; exact h
theorem jq_R {F : Int → Prop} {v : Int} (h : F v) : ∀ r : Int, some (jm_R v) = some (jm_R r) → F r := fun r e => by cases e; exact h
theorem jq_Z {F : Int → Prop} {v : Int} (h : F v) : ∀ r : Int, some (jm_I v) = some (jm_I r) → (r = 0 ∨ r = 1) → F r := fun r e _ => by cases e; exact h
theorem jb_t {c A B : Prop} (hc : c) (h : A) : (c → A) ∧ (¬ c → B) := ⟨fun _ => h, fun n => absurd hc n⟩
theorem jb_f {c A B : Prop} (hc : ¬ c) (h : B) : (c → A) ∧ (¬ c → B) := ⟨fun n => absurd n hc, fun _ => h⟩
/-! bits: masks as natural numbers -/
theorem jm_of_nat (n : Nat) : Int32.ofInt (n : Int) = nI n := Int32.ofInt_eq_ofNat ..
theorem jm_and_1 {n : Nat} (h : n < 2 ^ 31) : jm_and (n : Int) 1 = ((n % 2 : Nat) : Int) := by
  unfold jm_and
  rw [jm_of_nat, show Int32.ofInt 1 = (1 : Int32) from rfl, pk_andN (by omega) 1 (by decide)]
  rw [nI_toInt (by omega)]
theorem jm_shr_n {n k : Nat} (h : n < 2 ^ 31) (hk : k < 31) : jm_shr (n : Int) (k : Int) = ((n / 2 ^ k : Nat) : Int) := by
  unfold jm_shr
  have hs : ∀ q : Fin 31, ((nI q.1 &&& 31).toBitVec.smod 32).toNat = q.1 := by decide +kernel
  rw [jm_of_nat, jm_of_nat, pk_shrN h _ k (hs ⟨k, hk⟩)]
  rw [nI_toInt (Nat.lt_of_le_of_lt (Nat.div_le_self _ _) h)]
theorem jm_shl_1 {k : Nat} (hk : k < 31) : jm_shl 1 (k : Int) = ((2 ^ k : Nat) : Int) := by
  have hs : ∀ q : Fin 31, jm_shl 1 ((q.1 : Nat) : Int) = ((2 ^ q.1 : Nat) : Int) := by decide +kernel
  exact hs ⟨k, hk⟩
theorem jm_or_n {a b : Nat} (ha : a < 2 ^ 31) (hb : b < 2 ^ 31) : jm_or (a : Int) (b : Int) = ((a ||| b : Nat) : Int) := by
  unfold jm_or
  have h : a ||| b < 2 ^ 31 := Nat.or_lt_two_pow ha hb
  have e : nI a ||| nI b = nI (a ||| b) := by
    apply Int32.toBitVec.inj
    apply BitVec.eq_of_toNat_eq
    rw [Int32.toBitVec_or, BitVec.toNat_or, pk_tn (by omega), pk_tn (by omega), pk_tn (by omega)]
  rw [jm_of_nat, jm_of_nat, e, nI_toInt h]
/-- a bit of a mask -/
def sbt (m k : Int) : Bool := m.toNat.testBit k.toNat
theorem jm_bit {m k : Int} (h0 : 0 ≤ m) (h1 : m < 2147483648) (k0 : 0 ≤ k) (k1 : k < 31) : jm_and (jm_shr m k) 1 = if sbt m k = true then 1 else 0 := by
  obtain ⟨a, rfl⟩ := jm_nat h0
  obtain ⟨b, rfl⟩ := jm_nat k0
  rw [jm_shr_n (by omega) (by omega), jm_and_1 (Nat.lt_of_le_of_lt (Nat.div_le_self _ _) (by omega))]
  unfold sbt
  rw [Nat.testBit_eq_decide_div_mod_eq]
  have e1 : ((a : Int).toNat) = a := rfl
  have e2 : ((b : Int).toNat) = b := rfl
  rw [e1, e2]
  rcases Nat.mod_two_eq_zero_or_one (a / 2 ^ b) with h | h <;> rw [h] <;> simp
/-- a mask with one bit more -/
def sor (m k : Int) : Int := ((m.toNat ||| 2 ^ k.toNat : Nat) : Int)
theorem jm_or_bit {m k : Int} (h0 : 0 ≤ m) (h1 : m < 2147483648) (k0 : 0 ≤ k) (k1 : k < 31) : jm_or m (jm_shl 1 k) = sor m k := by
  obtain ⟨a, rfl⟩ := jm_nat h0
  obtain ⟨b, rfl⟩ := jm_nat k0
  have hp : 2 ^ b < 2 ^ 31 := Nat.pow_lt_pow_right (by omega) (by omega)
  rw [jm_shl_1 (by omega), jm_or_n (by omega) hp]
  rfl
theorem sbt_sor {m k j : Int} (h0 : 0 ≤ m) (k0 : 0 ≤ k) (j0 : 0 ≤ j) : sbt (sor m k) j = (sbt m j || decide (j = k)) := by
  unfold sbt sor
  have e : ((((m.toNat ||| 2 ^ k.toNat : Nat) : Int)).toNat) = m.toNat ||| 2 ^ k.toNat := rfl
  rw [e, Nat.testBit_or, Nat.testBit_two_pow]
  congr 1
  apply decide_eq_decide.mpr
  omega
theorem sor_lt {m k : Int} {n : Nat} (h0 : 0 ≤ m) (h1 : m < 2 ^ n) (k0 : 0 ≤ k) (k1 : k < n) : 0 ≤ sor m k ∧ sor m k < 2 ^ n := by
  obtain ⟨a, rfl⟩ := jm_nat h0
  obtain ⟨b, rfl⟩ := jm_nat k0
  have ha : a < 2 ^ n := by exact_mod_cast h1
  have hb : 2 ^ b < 2 ^ n := Nat.pow_lt_pow_right (by omega) (by omega)
  have h2 := Nat.or_lt_two_pow ha hb
  unfold sor
  refine ⟨by omega, ?_⟩
  exact_mod_cast h2
theorem sbt_0 (k : Int) : sbt 0 k = false := by unfold sbt; simp
theorem jm_rem_n {a b : Int} (h0 : 0 ≤ a) (h1 : a < 2147483648) (b0 : 0 < b) (b1 : b < 2147483648) : jm_rem a b = a % b := by
  obtain ⟨x, rfl⟩ := jm_nat h0
  obtain ⟨y, rfl⟩ := jm_nat (Int.le_of_lt b0)
  unfold jm_rem
  rw [jm_of_nat, jm_of_nat, pk_rem (by omega) (by omega) (by omega), nI_toInt (Nat.lt_of_le_of_lt (Nat.mod_le _ _) (by omega))]
  rfl
/-! THE SPEC. The rules are a row of 60 numbers: 0 people, 1 kinds, 2 'may', 3 K of comb (0: not told), 4 by ranks, 5 twice, 6.. comb, 12.. ranks, 20 + 4k + (0 opening, 1 does, 2 span, 3 may answer). A board is six rows of numbers: 0 who, 1 kind, 2 what it answers, 3 thread, 4 depth, 5 state; how many words, how many threads. -/
abbrev sR : Type := Int → Int
abbrev sB : Type := (Int → Int → Int) × Int × Int
def sUp (f : Int → Int) (i v : Int) : Int → Int := fun j => if j = i then v else f j
def sUp2 (B : Int → Int → Int) (f i v : Int) : Int → Int → Int := fun g j => if g = f ∧ j = i then v else B g j
def sOp (ρ : sR) (k : Int) : Int := ρ (20 + 4 * k)
def sDo (ρ : sR) (k : Int) : Int := ρ (21 + 4 * k)
def sDu (ρ : sR) (k : Int) : Int := ρ (22 + 4 * k)
def sMa (ρ : sR) (k : Int) : Int := ρ (23 + 4 * k)
def sBack (ρ : sR) (n who : Int) : Int := if 0 < ρ 4 then ρ (12 + who) else if ρ 3 = 0 then 2 else ρ (6 + n % ρ 3)
def sAns (ρ : sR) (n who k : Int) : Int := if sOp ρ k = 2 then -1 else if sBack ρ n who ≤ n then n - sBack ρ n who else -1
/-- why a next word is wrong; 0: behind the fourth reason, if it answers a -/
def sW4 (ρ : sR) (b : sB) (who k a : Int) : Int :=
  if sDo ρ k < 2 then 0
  else if sDo ρ k < 4 then (if b.1 5 a = 1 then 0 else 5)
  else if b.1 5 a ≠ 4 ∨ sDu ρ (b.1 1 a) < b.2.1 - a then 5
  else if (if sDo ρ k = 6 then b.1 0 (b.1 2 a) else b.1 0 a) = who then 0 else 6
def sW3 (ρ : sR) (b : sB) (who k a : Int) : Int := if b.1 0 a = who ∧ sDo ρ k ≠ 4 ∧ sDo ρ k ≠ 5 then 4 else sW4 ρ b who k a
def sW2 (ρ : sR) (b : sB) (who k a : Int) : Int := if sbt (sMa ρ k) (b.1 1 a) = false then 3 else sW3 ρ b who k a
def sWN (ρ : sR) (k : Int) : Int := if sDo ρ k < 2 then 0 else 5
def sRep (ρ : sR) (b : sB) (who : Int) : Prop := ρ 5 = 0 ∧ 0 < b.2.1 ∧ b.1 0 (b.2.1 - 1) = who
/-- why a next word is wrong; 0 -/
def sWr (ρ : sR) (b : sB) (who k : Int) : Int :=
  if ρ 5 = 0 ∧ 0 < b.2.1 ∧ b.1 0 (b.2.1 - 1) = who then 1
  else if sAns ρ b.2.1 who k = -1 then (if sOp ρ k = 0 then 2 else sWN ρ k)
  else sW2 ρ b who k (sAns ρ b.2.1 who k)
def sS0 (d : Int) : Int := if d = 1 then 1 else if d = 2 then 4 else 0
def sS1 (d : Int) : Int := if d < 4 then d else d + 1
def sPush (ρ : sR) (b : sB) (who k : Int) : sB :=
  let n := b.2.1
  let a := sAns ρ n who k
  let B1 := sUp2 (sUp2 (sUp2 b.1 0 n who) 1 n k) 2 n a
  let B2 := sUp2 (sUp2 (sUp2 B1 3 n (if a = -1 then b.2.2 else b.1 3 a)) 4 n (if a = -1 then 0 else b.1 4 a + 1)) 5 n (sS0 (sDo ρ k))
  ((if a ≠ -1 ∧ 1 < sDo ρ k then sUp2 B2 5 a (sS1 (sDo ρ k)) else B2), n + 1, if a = -1 then b.2.2 + 1 else b.2.2)
/-- the state of a word -/
def sSt (ρ : sR) (b : sB) (t : Int) : Int := if b.1 5 t = 4 ∧ t + sDu ρ (b.1 1 t) < b.2.1 - 1 then 8 else b.1 5 t
def sEmpty : sB := (fun _ _ => 0, 0, 0)
/-- words, as who and kind by turns -/
def sLay (ρ : sR) (w : Int → Int) : Nat → sB
  | 0 => sEmpty
  | n + 1 => sPush ρ (sLay ρ w n) (w (2 * n)) (w (2 * n + 1))
/-- rules that a table can have -/
def sWR (ρ : sR) : Prop := 0 ≤ ρ 0 ∧ ρ 0 ≤ 8 ∧ 0 ≤ ρ 1 ∧ ρ 1 ≤ 10 ∧ 0 ≤ ρ 2 ∧ ρ 2 ≤ 40 ∧ 0 ≤ ρ 3 ∧ ρ 3 ≤ 6 ∧ (ρ 4 = 0 ∨ ρ 4 = 1) ∧ (ρ 5 = 0 ∨ ρ 5 = 1) ∧
  (∀ w, 0 ≤ w → w < ρ 0 → 1 ≤ ρ (12 + w) ∧ ρ (12 + w) ≤ 6) ∧ (∀ i, 0 ≤ i → i < ρ 3 → 1 ≤ ρ (6 + i) ∧ ρ (6 + i) ≤ 6) ∧
  ∀ k, 0 ≤ k → k < ρ 1 → (0 ≤ sOp ρ k ∧ sOp ρ k ≤ 2) ∧ (0 ≤ sDo ρ k ∧ sDo ρ k ≤ 6) ∧ (0 ≤ sDu ρ k ∧ sDu ρ k ≤ 99) ∧ 0 ≤ sMa ρ k ∧ sMa ρ k < 1024
/-- boards that talks can make -/
def sGB (ρ : sR) (b : sB) : Prop := 0 ≤ b.2.1 ∧ b.2.1 ≤ 400 ∧ 0 ≤ b.2.2 ∧ b.2.2 ≤ b.2.1 ∧ ∀ t, 0 ≤ t → t < b.2.1 →
  (0 ≤ b.1 0 t ∧ b.1 0 t < ρ 0) ∧ (0 ≤ b.1 1 t ∧ b.1 1 t < ρ 1) ∧ (-1 ≤ b.1 2 t ∧ b.1 2 t < t ∧ t - 6 ≤ b.1 2 t ∨ b.1 2 t = -1) ∧ (0 ≤ b.1 3 t ∧ b.1 3 t < b.2.2) ∧ (0 ≤ b.1 4 t ∧ b.1 4 t ≤ t) ∧
  (sDo ρ (b.1 1 t) = 1 → 1 ≤ b.1 5 t ∧ b.1 5 t ≤ 3) ∧ (sDo ρ (b.1 1 t) = 2 → 4 ≤ b.1 5 t ∧ b.1 5 t ≤ 7 ∧ 0 ≤ b.1 2 t) ∧ (sDo ρ (b.1 1 t) ≠ 1 → sDo ρ (b.1 1 t) ≠ 2 → b.1 5 t = 0)
theorem sBack_in {ρ : sR} {n who : Int} (h : sWR ρ) (hn : 0 ≤ n) (w0 : 0 ≤ who) (w1 : who < ρ 0) : 1 ≤ sBack ρ n who ∧ sBack ρ n who ≤ 6 := by
  obtain ⟨h0, h1, h2, h3, h4, h5, h6, h7, h8, h9, h10, h11, h12⟩ := h
  unfold sBack
  split
  · exact h10 who w0 w1
  · split
    · omega
    · have : 0 < ρ 3 := by omega
      exact h11 _ (Int.emod_nonneg _ (by omega)) (Int.emod_lt_of_pos _ this)
theorem sAns_in {ρ : sR} {n who k : Int} (h : sWR ρ) (hn : 0 ≤ n) (w0 : 0 ≤ who) (w1 : who < ρ 0) : sAns ρ n who k = -1 ∨ (0 ≤ sAns ρ n who k ∧ sAns ρ n who k < n ∧ n - 6 ≤ sAns ρ n who k) := by
  have hb := sBack_in h hn w0 w1
  unfold sAns
  split
  · exact Or.inl rfl
  · split
    · right; omega
    · exact Or.inl rfl

