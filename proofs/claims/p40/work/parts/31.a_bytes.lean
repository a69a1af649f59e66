/-! bytes on the tape: of the class, of the reference -/
theorem jm_ofI_in (x : Int) : -2147483648 ≤ (Int32.ofInt x).toInt ∧ (Int32.ofInt x).toInt < 2147483648 := by
  have h1 := (Int32.ofInt x).toInt_lt
  have h2 := (Int32.ofInt x).le_toInt
  omega
theorem jm_i2b_v (a : Int) (h0 : -2147483648 ≤ a) (h1 : a < 2147483648) : jm_i2b a = a.bmod 256 := by
  unfold jm_i2b
  rw [Int8.toInt_toInt32, Int32.toInt_toInt8, Int32.toInt_ofInt_of_le (by omega) (by omega)]
theorem jm_toN (b : BitVec 32) : (b.toNat : Int) = b.toInt % 4294967296 := by
  have h := BitVec.toInt_eq_toNat_cond b
  have l := b.isLt
  split at h <;> omega
theorem sBt_v (x : Int) (k : Nat) (hk : k < 32) (hu : ((Int32.ofInt (k : Int)).toUInt32 &&& Int32.toUInt32 31).toNat = k) : sBt x k = (((Int32.ofInt x).toInt % 4294967296) / ((2 ^ k : Nat) : Int)) % 256 := by
  unfold sBt jm_and jm_ushr
  rw [Int32.ofInt_toInt]
  have hX := jm_toN (Int32.ofInt x).toBitVec
  generalize (Int32.ofInt x) = X at *
  have e1 : (X.toUInt32 >>> ((Int32.ofInt (k : Int)).toUInt32 &&& Int32.toUInt32 31)).toNat = X.toBitVec.toNat / 2 ^ k := by
    rw [UInt32.toNat_shiftRight, hu, Nat.mod_eq_of_lt hk, Nat.shiftRight_eq_div_pow]; rfl
  generalize (X.toUInt32 >>> ((Int32.ofInt (k : Int)).toUInt32 &&& Int32.toUInt32 31)) = u at *
  have e2 : (u.toInt32 &&& Int32.ofInt 255).toBitVec.toNat = u.toNat % 256 := by
    rw [Int32.toBitVec_and, BitVec.toNat_and]
    exact Nat.and_two_pow_sub_one_eq_mod _ 8
  have e3 : (u.toInt32 &&& Int32.ofInt 255).toInt = ((u.toNat % 256 : Nat) : Int) := by
    show (u.toInt32 &&& Int32.ofInt 255).toBitVec.toInt = _
    rw [BitVec.toInt_eq_toNat_cond, e2]
    split <;> omega
  have hX' : ((X.toBitVec.toNat : Nat) : Int) = X.toInt % 4294967296 := hX
  rw [e3, e1, ← hX']
  rfl
theorem jm_shr_v (x : Int) (k : Nat) (hs : ((Int32.ofInt (k : Int) &&& 31).toBitVec.smod 32).toNat = k) : jm_shr x k = (Int32.ofInt x).toInt / ((2 ^ k : Nat) : Int) := by
  unfold jm_shr
  generalize (Int32.ofInt (k : Int) &&& 31) = s at hs ⊢
  have e : (Int32.ofInt x >>> s).toBitVec = (Int32.ofInt x).toBitVec.sshiftRight (s.toBitVec.smod 32).toNat := rfl
  show (Int32.ofInt x >>> s).toBitVec.toInt = _
  rw [e, hs, BitVec.toInt_sshiftRight, Int.shiftRight_eq_div_pow]
  rfl
theorem sBt_in {x : Int} {k : Nat} (hk : k = 24 ∨ k = 16 ∨ k = 8 ∨ k = 0) : (0 ≤ sBt x k ∧ sBt x k ≤ 255) ∧ jm_i2b (jm_i2b (jm_shr x k)) = sSb (sBt x k) := by
  have h := jm_ofI_in x
  have hb : ∀ y : Int, -128 ≤ y.bmod 256 ∧ y.bmod 256 < 128 ∧ (y.bmod 256 - y) % 256 = 0 := fun y => by
    have q1 := Int.bmod_def y 256
    split at q1 <;> omega
  rcases hk with rfl | rfl | rfl | rfl
  · rw [sBt_v x 24 (by decide) (by decide), jm_shr_v x 24 (by decide)]
    have e : ((2 ^ 24 : Nat) : Int) = 16777216 := by decide
    rw [e, jm_i2b_v ((Int32.ofInt x).toInt / 16777216) (by omega) (by omega)]
    have q := hb ((Int32.ofInt x).toInt / 16777216)
    have q2 := hb (((Int32.ofInt x).toInt / 16777216).bmod 256)
    rw [jm_i2b_v _ (by omega) (by omega)]
    unfold sSb
    refine ⟨by omega, ?_⟩
    split <;> omega
  · rw [sBt_v x 16 (by decide) (by decide), jm_shr_v x 16 (by decide)]
    have e : ((2 ^ 16 : Nat) : Int) = 65536 := by decide
    rw [e, jm_i2b_v ((Int32.ofInt x).toInt / 65536) (by omega) (by omega)]
    have q := hb ((Int32.ofInt x).toInt / 65536)
    have q2 := hb (((Int32.ofInt x).toInt / 65536).bmod 256)
    rw [jm_i2b_v _ (by omega) (by omega)]
    unfold sSb
    refine ⟨by omega, ?_⟩
    split <;> omega
  · rw [sBt_v x 8 (by decide) (by decide), jm_shr_v x 8 (by decide)]
    have e : ((2 ^ 8 : Nat) : Int) = 256 := by decide
    rw [e, jm_i2b_v ((Int32.ofInt x).toInt / 256) (by omega) (by omega)]
    have q := hb ((Int32.ofInt x).toInt / 256)
    have q2 := hb (((Int32.ofInt x).toInt / 256).bmod 256)
    rw [jm_i2b_v _ (by omega) (by omega)]
    unfold sSb
    refine ⟨by omega, ?_⟩
    split <;> omega
  · rw [sBt_v x 0 (by decide) (by decide), jm_shr_v x 0 (by decide)]
    have e : ((2 ^ 0 : Nat) : Int) = 1 := by decide
    rw [e, jm_i2b_v ((Int32.ofInt x).toInt / 1) (by omega) (by omega)]
    have q := hb ((Int32.ofInt x).toInt / 1)
    have q2 := hb (((Int32.ofInt x).toInt / 1).bmod 256)
    rw [jm_i2b_v _ (by omega) (by omega)]
    unfold sSb
    refine ⟨by omega, ?_⟩
    split <;> omega

