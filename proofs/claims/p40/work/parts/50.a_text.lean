/-! the law's texts: letters packed in a row of numbers -/
theorem pB_255 (i : Nat) : (255#32).getLsbD i = decide (i < 8) := Nat.testBit_two_pow_sub_one 8 i
theorem pB_m1 (i : Nat) (hi : i < 32) : (Int32.ofInt (-1)).toBitVec.getLsbD i = true := by
  have h : ∀ q : Fin 32, (Int32.ofInt (-1)).toBitVec.getLsbD q.1 = true := by decide +kernel
  exact h ⟨i, hi⟩
theorem pB_eq (X C : BitVec 32) (b k : Nat) (hb : b = 24 ∨ b = 16 ∨ b = 8 ∨ b = 0) (hk : k = 24 ∨ k = 16 ∨ k = 8 ∨ k = 0) :
    (((X &&& ((255#32 <<< b) ^^^ (Int32.ofInt (-1)).toBitVec)) ||| ((C &&& 255#32) <<< b)) >>> k) &&& 255#32 = if k = b then C &&& 255#32 else (X >>> k) &&& 255#32 := by
  apply BitVec.eq_of_getLsbD_eq
  intro i hi
  by_cases h8 : i < 8
  · have g1 : k + i < 32 := by omega
    have g2 := pB_m1 (k + i) g1
    by_cases e : k = b
    · subst e
      have g3 : ¬ (k + i < k) := by omega
      have g4 : k + i - k = i := by omega
      rw [if_pos rfl]
      simp only [BitVec.getLsbD_and, BitVec.getLsbD_ushiftRight, BitVec.getLsbD_or, BitVec.getLsbD_xor, BitVec.getLsbD_shiftLeft, pB_255, g2, g4, decide_eq_true g1, decide_eq_false g3, decide_eq_true h8]
      simp
    · rw [if_neg e]
      have g5 : (decide (k + i < 32) && !decide (k + i < b) && decide (k + i - b < 8)) = false := by
        have : k + i < b ∨ ¬ (k + i - b < 8) := by omega
        rcases this with q | q
        · simp [q]
        · simp [q]
      have g6 : (decide (k + i < 32) && !decide (k + i < b) && (C.getLsbD (k + i - b) && decide (k + i - b < 8))) = false := by
        have : k + i < b ∨ ¬ (k + i - b < 8) := by omega
        rcases this with q | q
        · simp [q]
        · simp [q]
      simp only [BitVec.getLsbD_and, BitVec.getLsbD_ushiftRight, BitVec.getLsbD_or, BitVec.getLsbD_xor, BitVec.getLsbD_shiftLeft, pB_255, g2, g5, g6, decide_eq_true h8]
      simp
  · have e : ∀ Y : BitVec 32, (Y &&& 255#32).getLsbD i = false := fun Y => by
      rw [BitVec.getLsbD_and, pB_255, decide_eq_false h8, Bool.and_false]
    rw [e]
    split
    · rw [e]
    · rw [e]
theorem pB_sBt (x : Int) (k : Nat) (hk : k = 24 ∨ k = 16 ∨ k = 8 ∨ k = 0) : sBt x (k : Int) = (((Int32.ofInt x).toBitVec >>> k) &&& 255#32).toInt := by
  unfold sBt jm_and jm_ushr
  rw [Int32.ofInt_toInt]
  rcases hk with rfl | rfl | rfl | rfl <;> rfl
theorem pB_shl (x : Int) (k : Nat) (hk : k = 24 ∨ k = 16 ∨ k = 8 ∨ k = 0) : (Int32.ofInt (jm_shl x (k : Int))).toBitVec = (Int32.ofInt x).toBitVec <<< k := by
  unfold jm_shl
  rw [Int32.ofInt_toInt]
  rcases hk with rfl | rfl | rfl | rfl <;> rfl
theorem pB_c : ∀ v : Nat, v < 128 → ((Int32.ofInt (v : Int)).toBitVec &&& 255#32).toInt = (v : Int) := by decide +kernel
/-- a letter is put: that byte is it, the others are what they were -/
theorem pB_put {x c : Int} {b k : Nat} (hb : b = 24 ∨ b = 16 ∨ b = 8 ∨ b = 0) (hk : k = 24 ∨ k = 16 ∨ k = 8 ∨ k = 0) (c0 : 0 ≤ c) (c1 : c < 128) :
    sBt (jm_or (jm_and x (jm_xor (jm_shl 255 (b : Int)) (-1))) (jm_shl (jm_and c 255) (b : Int))) (k : Int) = if k = b then c else sBt x (k : Int) := by
  rw [pB_sBt _ k hk, pB_sBt _ k hk]
  have e : (Int32.ofInt (jm_or (jm_and x (jm_xor (jm_shl 255 (b : Int)) (-1))) (jm_shl (jm_and c 255) (b : Int)))).toBitVec = (((Int32.ofInt x).toBitVec &&& ((255#32 <<< b) ^^^ (Int32.ofInt (-1)).toBitVec)) ||| (((Int32.ofInt c).toBitVec &&& 255#32) <<< b)) := by
    have e1 : (Int32.ofInt (jm_and c 255)).toBitVec = (Int32.ofInt c).toBitVec &&& 255#32 := by
      unfold jm_and
      rw [Int32.ofInt_toInt]
      rfl
    have e2 : (Int32.ofInt (jm_xor (jm_shl 255 (b : Int)) (-1))).toBitVec = (255#32 <<< b) ^^^ (Int32.ofInt (-1)).toBitVec := by
      have e3 := pB_shl 255 b hb
      unfold jm_xor
      rw [Int32.ofInt_toInt]
      show (Int32.ofInt (jm_shl 255 (b : Int))).toBitVec ^^^ _ = _
      rw [e3]
      rfl
    have e4 : (Int32.ofInt (jm_and x (jm_xor (jm_shl 255 (b : Int)) (-1)))).toBitVec = (Int32.ofInt x).toBitVec &&& ((255#32 <<< b) ^^^ (Int32.ofInt (-1)).toBitVec) := by
      rw [← e2]
      unfold jm_and
      rw [Int32.ofInt_toInt]
      rfl
    rw [← e4, ← e1, ← pB_shl _ b hb]
    unfold jm_or
    rw [Int32.ofInt_toInt]
    rfl
  rw [e, pB_eq _ _ b k hb hk]
  split
  · obtain ⟨v, rfl⟩ := jm_nat c0
    exact pB_c v (by omega)
  · rfl
theorem pB_and3 {n : Nat} (h : n < 2 ^ 31) : jm_and (n : Int) 3 = ((n % 4 : Nat) : Int) := by
  unfold jm_and
  rw [jm_of_nat, show Int32.ofInt 3 = (3 : Int32) from rfl, pk_andN (by omega) 2 (by decide)]
  rw [nI_toInt (by omega)]
/-- the letters that lie in the law's first row -/
def pT (μ : jm_M) (bs : List Int) : Prop := bs.length ≤ 240 ∧ ∀ i : Nat, i < bs.length → sBt (μ 133 ((i / 4 : Nat) : Int)) ((24 - 8 * (i % 4) : Nat) : Int) = bs.getD i 0
def pFr (μ ν : jm_M) : Prop := ∀ p, p ≠ 133 → ν p = μ p
theorem pFr.tr {a b c : jm_M} (h1 : pFr a b) (h2 : pFr b c) : pFr a c := fun p hp => (h2 p hp).trans (h1 p hp)
theorem pT_0 {μ : jm_M} : pT μ [] := ⟨by decide, fun i hi => absurd hi (Nat.not_lt_zero _)⟩
section LT
variable {E : jm_E} {d : Nat} {μ : jm_M} {Q : Option jm_V → jm_M → Prop} {bs : List Int}
theorem c_L_put {c n : Int} (hT : pT μ bs) (hl : bs.length < 240) (hn : n = (bs.length : Int)) (c0 : 0 ≤ c) (c1 : c < 128) (h : ∀ ν, pFr μ ν → pT ν (bs ++ [c]) → Q (some (jm_I (n + 1))) ν) : jc E m_L_put (d + 1) [jm_R 133, jm_I n, jm_I c] μ Q := by
  subst hn
  refine e_L_put (fun _ x1 hx1 => ?_)
  have e0 : jm_and (bs.length : Int) 3 = ((bs.length % 4 : Nat) : Int) := pB_and3 (by omega)
  have e1 : x1 = ((24 - 8 * (bs.length % 4) : Nat) : Int) := by
    rw [hx1, e0, jm_wr_id (a := 8 * ((bs.length % 4 : Nat) : Int)) (by omega) (by omega), jm_wr_id (by omega) (by omega)]
    omega
  have e2 : jm_shr (bs.length : Int) 2 = ((bs.length / 4 : Nat) : Int) := jm_shr_n (k := 2) (by omega) (by decide)
  rw [e2, e1]
  refine ⟨by omega, fun m3 h3 => ?_⟩
  rw [jm_wr_id (by omega) (by omega)]
  refine h m3 (fun p hp => by rw [h3, jm_up_ne hp]) ⟨by rw [List.length_append]; show bs.length + 1 ≤ 240; omega, fun i hi => ?_⟩
  have hi2 : i < bs.length + 1 := by rwa [List.length_append] at hi
  have hb : ∀ j : Nat, 24 - 8 * (j % 4) = 24 ∨ 24 - 8 * (j % 4) = 16 ∨ 24 - 8 * (j % 4) = 8 ∨ 24 - 8 * (j % 4) = 0 := fun j => by omega
  rw [h3]
  by_cases hq : i / 4 = bs.length / 4
  · rw [hq, jm_up_at, pB_put (hb _) (hb _) c0 c1]
    by_cases hm : i = bs.length
    · rw [if_pos (by rw [hm]), List.getD_eq_getElem?_getD, hm, List.getElem?_append_right (Nat.le_refl _), Nat.sub_self]
      rfl
    · rw [if_neg (by omega), ← hq, hT.2 i (by omega), List.getD_eq_getElem?_getD, List.getD_eq_getElem?_getD, List.getElem?_append_left (by omega)]
  · rw [jm_up_i (by omega), hT.2 i (by omega), List.getD_eq_getElem?_getD, List.getD_eq_getElem?_getD, List.getElem?_append_left (by omega)]
/-- a String constant's letters -/
def pTx (a : Int) : List Int := jm_kt.getD (-101 - a).toNat []
theorem pTx_all : ∀ i : Nat, i < 14 → (jm_kt.getD i []).length = jm_kn.getD i 0 := by decide +kernel
theorem c_L_add {a n : Int} (ha : jm_ik a) (hT : pT μ bs) (hl : bs.length + (pTx a).length ≤ 240) (hn : n = (bs.length : Int)) (h : ∀ ν, pFr μ ν → pT ν (bs ++ pTx a) → Q (some (jm_I (n + (pTx a).length))) ν) : jc E m_L_add (d + 5) [jm_R 133, jm_I n, jm_R a] μ Q := by
  have hlen : ((pTx a).length : Int) = jm_klen a := by
    obtain ⟨i, hi, rfl, hi2⟩ := jm_ik_nat ha
    unfold jm_klen pTx
    rw [hi2, pTx_all i hi]
  refine e_L_add (d := d + 4) (fun _ => ?_)
  have step : ∀ (r : List Int) (pre : List Int) (v3 v4 : Int) (ξ : jm_M), pTx a = pre ++ r → v4 = (pre.length : Int) → v3 = n + (pre.length : Int) → pFr μ ξ → pT ξ (bs ++ pre) → jg E m_L_add (d + 4) 5 [some (jm_R 133), none, some (jm_R a), some (jm_I v3), some (jm_I v4)] [] ξ Q := by
    intro r
    induction r with
    | nil =>
      intro pre v3 v4 ξ e h4 h3 hF hX
      rw [List.append_nil] at e
      rw [← e] at h4 h3 hX
      refine r_L_add_5 (d := d + 4) ⟨ha, by omega, ⟨fun _ => ?_, fun z => absurd (by omega) z⟩⟩
      rw [h3]
      exact h ξ hF hX
    | cons x r ih =>
      intro pre v3 v4 ξ e h4 h3 hF hX
      have hL : (pTx a).length = pre.length + (r.length + 1) := by rw [e, List.length_append]; rfl
      have hx : jm_kch a v4 = x := by
        unfold jm_kch
        rw [h4]
        show (pTx a).getD pre.length 0 = x
        rw [e, List.getD_eq_getElem?_getD, List.getElem?_append_right (Nat.le_refl _), Nat.sub_self]
        rfl
      have hr := jm_kch_r (j := v4) ha (by omega) (by omega)
      refine r_L_add_5 (d := d + 4) ⟨ha, by omega, ⟨fun z => absurd z (by omega), fun _ => ⟨by omega, ?_⟩⟩⟩
      refine c_L_put (d := d + 3) hX (by rw [List.length_append]; omega) (by rw [List.length_append, h3, hn]; omega) hr.1 hr.2 (fun ν g1 g2 => jq_I ?_)
      rw [jm_wr_id (by omega) (by omega)]
      refine ih (pre ++ [x]) (v3 + 1) (v4 + 1) ν (by rw [e, List.append_assoc]; rfl) (by rw [List.length_append, h4]; show _ = ((pre.length + 1 : Nat) : Int); omega) (by rw [List.length_append, h3]; show _ = n + ((pre.length + 1 : Nat) : Int); omega) (hF.tr g1) ?_
      rw [hx, List.append_assoc] at g2
      exact g2
  exact step (pTx a) [] n 0 μ rfl rfl (by show n = n + 0; omega) (fun _ _ => rfl) (by rw [List.append_nil]; exact hT)
/-- a number's digits -/
def pDg (v : Int) : List Int := if v ≤ 9 then [48 + v] else [48 + v / 10, 48 + v % 10]
theorem c_L_number {v n : Int} (v0 : 0 ≤ v) (v1 : v ≤ 9) (hT : pT μ bs) (hl : bs.length < 240) (hn : n = (bs.length : Int)) (h : ∀ ν, pFr μ ν → pT ν (bs ++ [48 + v]) → Q (some (jm_I (n + 1))) ν) : jc E m_L_number (d + 2) [jm_R 133, jm_I n, jm_I v] μ Q := by
  refine e_L_number (d := d + 1) (fun _ => ⟨fun _ => ?_, fun z => absurd v1 z⟩)
  rw [jm_wr_id (by omega) (by omega)]
  exact c_L_put (d := d) hT hl hn (by omega) (by omega) (fun ν g1 g2 => jq_I (h ν g1 g2))
end LT
