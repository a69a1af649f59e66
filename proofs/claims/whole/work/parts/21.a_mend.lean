/-! mending -/
theorem sCnt_z {p : Int → Bool} : ∀ (m : Nat) (t c : Int), (sCnt p m t c = c ↔ ∀ k, t ≤ k → k < t + m → p k = false)
  | 0, t, c => ⟨fun _ k k0 k1 => by omega, fun _ => rfl⟩
  | m + 1, t, c => by
    rw [sCnt]
    have h := sCnt_le p m (t + 1) (if p t then c + 1 else c)
    have ih := sCnt_z (p := p) m (t + 1)
    by_cases hp : p t = true
    · rw [if_pos hp] at h ⊢
      refine ⟨fun q => by omega, fun q => ?_⟩
      have := q t (Int.le_refl _) (by omega)
      rw [hp] at this
      cases this
    · rw [if_neg hp]
      have hf : p t = false := by cases hh : p t; rfl; exact absurd hh hp
      rw [ih c]
      refine ⟨fun q k k0 k1 => ?_, fun q k k0 k1 => q k (by omega) (by omega)⟩
      by_cases hk : k = t
      · rw [hk]; exact hf
      · exact q k (by omega) (by omega)
def sTorn (mn : Nat) (mt : Int → Int) : Int := sCnt (fun k => decide (mt k = -1)) (2 * mn) 0 0
theorem sTorn_0 {mn : Nat} {mt : Int → Int} : sTorn mn mt = 0 ↔ ∀ k : Int, 0 ≤ k → k < 2 * mn → mt k ≠ -1 := by
  unfold sTorn
  rw [sCnt_z]
  refine ⟨fun h k k0 k1 => of_decide_eq_false (h k k0 (by omega)), fun h k k0 k1 => decide_eq_false (h k k0 (by omega))⟩
/-- how many bits -/
def sBc : Nat → Nat → Nat
  | 0, _ => 0
  | f + 1, n => n % 2 + sBc f (n / 2)
theorem sBc_0 : ∀ f : Nat, sBc f 0 = 0
  | 0 => rfl
  | f + 1 => by rw [sBc]; simpa using sBc_0 f
theorem sBc_k : ∀ (f n : Nat), n < 2 ^ f → n ≠ 0 → sBc f (n &&& (n - 1)) + 1 = sBc f n
  | 0, n, h, h0 => by rw [Nat.pow_zero] at h; omega
  | f + 1, n, h, h0 => by
    have hd : (n &&& (n - 1)) / 2 = n / 2 &&& (n - 1) / 2 := Nat.and_div_two
    have hm : (n &&& (n - 1)) % 2 = 0 := by
      have ht : (n &&& (n - 1)).testBit 0 = false := by
        rw [Nat.testBit_and, Nat.testBit_zero, Nat.testBit_zero]
        by_cases c : n % 2 = 1
        · have : (n - 1) % 2 ≠ 1 := by omega
          rw [decide_eq_false this, Bool.and_false]
        · rw [decide_eq_false c, Bool.false_and]
      rw [Nat.testBit_zero] at ht
      have := of_decide_eq_false ht
      omega
    rw [sBc, sBc, hd, hm]
    by_cases c : n % 2 = 1
    · rw [show (n - 1) / 2 = n / 2 by omega, Nat.and_self]
      omega
    · have h1 : n / 2 ≠ 0 := by omega
      have ih := sBc_k f (n / 2) (by rw [Nat.pow_succ] at h; omega) h1
      rw [show (n - 1) / 2 = n / 2 - 1 by omega]
      omega
theorem sBc_le : ∀ (f n : Nat), sBc f n ≤ f
  | 0, _ => Nat.le_refl _
  | f + 1, n => by rw [sBc]; have := sBc_le f (n / 2); omega
theorem jm_and_n {a b : Nat} (ha : a < 2 ^ 31) (hb : b < 2 ^ 31) : jm_and (a : Int) (b : Int) = ((a &&& b : Nat) : Int) := by
  unfold jm_and
  have h : a &&& b < 2 ^ 31 := Nat.lt_of_le_of_lt Nat.and_le_left ha
  have e : nI a &&& nI b = nI (a &&& b) := by
    apply Int32.toBitVec.inj
    apply BitVec.eq_of_toNat_eq
    rw [Int32.toBitVec_and, BitVec.toNat_and, pk_tn (by omega), pk_tn (by omega), pk_tn (by omega)]
  rw [jm_of_nat, jm_of_nat, e, nI_toInt h]
/-- whether words but for some are a talk -/
def sTk (ρ : sR) (mt : Int → Int) (set : Int) : Nat → Int → sB → Bool
  | 0, _, _ => true
  | m + 1, t, b => if sbt set t = true then sTk ρ mt set m (t + 1) b
    else if sWr ρ b (mt (2 * t)) (mt (2 * t + 1)) = 0 then sTk ρ mt set m (t + 1) (sPush ρ b (mt (2 * t)) (mt (2 * t + 1))) else false
/-- the fewest words that are left out; of as few the smallest number -/
def sMe (ρ : sR) (mn : Nat) (mt : Int → Int) (s : Nat) : Prop := s < 2 ^ mn ∧ sTk ρ mt s mn 0 sEmpty = true ∧ ∀ u : Nat, u < 2 ^ mn → sTk ρ mt u mn 0 sEmpty = true → sBc 14 s < sBc 14 u ∨ (sBc 14 s = sBc 14 u ∧ s ≤ u)
theorem sMe_one {ρ : sR} {mn : Nat} {mt : Int → Int} {s u : Nat} (h1 : sMe ρ mn mt s) (h2 : sMe ρ mn mt u) : s = u := by
  have a := h1.2.2 u h2.1 h2.2.1
  have b := h2.2.2 s h1.1 h1.2.1
  omega
theorem sTk_all {ρ : sR} {mt : Int → Int} {set : Int} : ∀ (m : Nat) (t : Int) (b : sB), (∀ k, t ≤ k → k < t + m → sbt set k = true) → sTk ρ mt set m t b = true
  | 0, _, _, _ => rfl
  | m + 1, t, b, h => by
    rw [sTk, if_pos (h t (Int.le_refl _) (by omega))]
    exact sTk_all m (t + 1) b (fun k k0 k1 => h k (by omega) (by omega))
section MM
variable {E : jm_E} {d : Nat} {μ : jm_M} {Q : Option jm_V → jm_M → Prop} {ρ : sR} {mn : Nat} {mt : Int → Int}
theorem c_M_isWhole (hn : mn ≤ 24) (hM : mMn μ mn mt) (ht : sTorn mn mt = 0 → Q (some (jm_I 1)) μ) (hf : sTorn mn mt ≠ 0 → Q (some (jm_I 0)) μ) : jc E m_X11_isWhole (d + 1) [jm_R 133] μ Q := by
  have e861 : jm_wr (2 * μ 135 861) = 2 * mn := by rw [hM.1, jm_wr_id (by omega) (by omega)]
  refine e_X11_isWhole (d := d) (fun _ => ?_)
  have key : ∀ (m : Nat) (k : Int), 2 * mn - k = m → 0 ≤ k → (∀ j, 0 ≤ j → j < k → mt j ≠ -1) → jg E m_X11_isWhole d 2 [some (jm_R 133), some (jm_I k)] [] μ Q := by
    intro m
    induction m with
    | zero => exact fun k g1 g2 g3 => r_X11_isWhole_2 (d := d) ⟨fun _ => ht (sTorn_0.mpr (fun j j0 j1 => g3 j j0 (by omega))), fun z => absurd (show jm_wr (2 * μ 135 861) ≤ k by omega) z⟩
    | succ m ih =>
      intro k g1 g2 g3
      have e1 : jm_wr (862 + k) = 862 + k := jm_wr_id (by omega) (by omega)
      refine r_X11_isWhole_2 (d := d) ⟨fun z => absurd z (by omega), fun _ => ?_⟩
      rw [e1, hM.2 k g2 (by omega), jm_wr_id (a := k + 1) (by omega) (by omega)]
      refine ⟨⟨by omega, by omega⟩, fun z => ih (k + 1) (by omega) (by omega) (fun j j0 j1 => ?_), fun z => hf (fun q => z (sTorn_0.mp q k g2 (by omega)))⟩
      by_cases hj : j = k
      · rw [hj]; exact z
      · exact g3 j j0 (by omega)
  exact key (2 * mn) 0 (by omega) (by decide) (fun j j0 j1 => by omega)
theorem c_M_bits {s : Nat} (hs : s < 2 ^ 14) (h : Q (some (jm_I (sBc 14 s))) μ) : jc E m_X11_bits (d + 1) [jm_I s] μ Q := by
  refine e_X11_bits (d := d) (fun _ => ?_)
  have key : ∀ (f n c : Nat), n < 2 ^ 14 → sBc 14 n ≤ f → c + sBc 14 n = sBc 14 s → jg E m_X11_bits d 4 [none, some (jm_I c), some (jm_I n)] [] μ Q := by
    intro f
    induction f with
    | zero =>
      intro n c g1 g2 g3
      have hn : n = 0 := by
        refine Decidable.byContradiction (fun q => ?_)
        have := sBc_k 14 n g1 q
        omega
      subst hn
      rw [sBc_0] at g3
      refine r_X11_bits_4 (d := d) ⟨fun _ => ?_, fun z => absurd rfl z⟩
      rw [show c = sBc 14 s by omega]
      exact h
    | succ f ih =>
      intro n c g1 g2 g3
      refine r_X11_bits_4 (d := d) ⟨fun z => ?_, fun z x2 hx => ?_⟩
      · have hn : n = 0 := by omega
        subst hn
        rw [sBc_0] at g3
        rw [show c = sBc 14 s by omega]
        exact h
      · have hk := sBc_k 14 n g1 (by omega)
        have h14 := sBc_le 14 s
        rw [show jm_wr ((n : Int) - 1) = ((n - 1 : Nat) : Int) by rw [jm_wr_id (by omega) (by omega)]; omega, jm_and_n (by omega) (by omega)] at hx
        subst hx
        rw [show jm_wr ((c : Int) + 1) = ((c + 1 : Nat) : Int) by rw [jm_wr_id (by omega) (by omega)]; omega]
        exact ih (n &&& (n - 1)) (c + 1) (Nat.lt_of_le_of_lt Nat.and_le_left g1) (by omega) (by omega)
  exact key (sBc 14 s) s 0 hs (Nat.le_refl _) (by omega)
end MM
