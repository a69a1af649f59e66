/-! MENDED and ORDERS of the class -/
theorem sBc_mod : ∀ (f n k : Nat), sBc f (n % 2 ^ k) ≤ sBc f n
  | 0, _, _ => Nat.le_refl _
  | f + 1, n, 0 => by
    have : n % 2 ^ 0 = 0 := by rw [Nat.pow_zero]; exact Nat.mod_one n
    rw [this, sBc_0]
    exact Nat.zero_le _
  | f + 1, n, k + 1 => by
    have e1 : n % 2 ^ (k + 1) % 2 = n % 2 := by rw [Nat.pow_succ]; exact Nat.mod_mul_left_mod n _ 2
    have e2 : n % 2 ^ (k + 1) / 2 = n / 2 % 2 ^ k := by rw [Nat.pow_succ, Nat.mul_comm, Nat.mod_mul_right_div_self]
    unfold sBc
    rw [e1, e2]
    have := sBc_mod f (n / 2) k
    omega
theorem sBc_add : ∀ (f n k : Nat), n < 2 ^ k → k < f → sBc f (n + 2 ^ k) = sBc f n + 1
  | 0, _, k, _, hk => absurd hk (by omega)
  | f + 1, n, 0, hn, _ => by
    have : n = 0 := by rw [Nat.pow_zero] at hn; omega
    subst this
    show (0 + 2 ^ 0) % 2 + sBc f ((0 + 2 ^ 0) / 2) = 0 % 2 + sBc f (0 / 2) + 1
    rw [show (0 + 2 ^ 0) % 2 = 1 from rfl, show (0 + 2 ^ 0) / 2 = 0 from rfl]
    omega
  | f + 1, n, k + 1, hn, hk => by
    have e1 : (n + 2 ^ (k + 1)) % 2 = n % 2 := by rw [Nat.pow_succ]; omega
    have e2 : (n + 2 ^ (k + 1)) / 2 = n / 2 + 2 ^ k := by rw [Nat.pow_succ]; omega
    unfold sBc
    rw [e1, e2, sBc_add f (n / 2) k (by rw [Nat.pow_succ] at hn; omega) (by omega)]
    omega
/-- a set that fits what has been decided of it -/
def sCd (ρ : sR) (mt : Int → Int) (mn t : Nat) (b : sB) (bits s : Nat) : Prop := s < 2 ^ mn ∧ s % 2 ^ t = bits ∧ sTk ρ mt s (mn - t) t b = true
theorem sor_add {bits t : Nat} (h : bits < 2 ^ t) : sor bits t = ((bits + 2 ^ t : Nat) : Int) := by
  unfold sor
  rw [Int.toNat_natCast, Int.toNat_natCast, Nat.or_comm]
  have := Nat.two_pow_add_eq_or_of_lt h 1
  rw [Nat.mul_one] at this
  rw [← this, Nat.add_comm]
theorem sCd_split {ρ : sR} {mt : Int → Int} {mn t : Nat} {b : sB} {bits s : Nat} (ht : t < mn) (hb : bits < 2 ^ t) : sCd ρ mt mn t b bits s ↔ (sWr ρ b (mt (2 * t)) (mt (2 * t + 1)) = 0 ∧ sCd ρ mt mn (t + 1) (sPush ρ b (mt (2 * t)) (mt (2 * t + 1))) bits s) ∨ sCd ρ mt mn (t + 1) b (bits + 2 ^ t) s := by
  have hm : s % 2 ^ (t + 1) = s % 2 ^ t + 2 ^ t * (s.testBit t).toNat := by rw [Nat.mod_pow_succ, Nat.toNat_testBit]
  have hbt : sbt (s : Int) (t : Int) = s.testBit t := rfl
  have hr : mn - t = (mn - (t + 1)) + 1 := by omega
  have p0 : 0 < 2 ^ t := Nat.two_pow_pos t
  have hmod : s % 2 ^ t < 2 ^ t := Nat.mod_lt _ p0
  unfold sCd
  rw [hr, sTk, hbt]
  cases hx : s.testBit t with
  | true =>
    rw [hx] at hm
    simp only [Bool.toNat_true, Nat.mul_one] at hm
    rw [if_pos rfl]
    constructor
    · rintro ⟨h1, h2, h3⟩
      exact Or.inr ⟨h1, by omega, h3⟩
    · rintro (⟨_, h1, h2, h3⟩ | ⟨h1, h2, h3⟩)
      · omega
      · exact ⟨h1, by omega, h3⟩
  | false =>
    rw [hx] at hm
    simp only [Bool.toNat_false, Nat.mul_zero, Nat.add_zero] at hm
    rw [if_neg (by decide)]
    constructor
    · rintro ⟨h1, h2, h3⟩
      split at h3
      · rename_i hw
        exact Or.inl ⟨hw, h1, by omega, h3⟩
      · cases h3
    · rintro (⟨hw, h1, h2, h3⟩ | ⟨h1, h2, h3⟩)
      · exact ⟨h1, by omega, by rw [if_pos hw]; exact h3⟩
      · omega
/-- fewer, or as many and the lesser -/
def sLx (c s c' s' : Int) : Prop := c < c' ∨ (c = c' ∧ s ≤ s')
def sBe (F O F' O' : Int) (P : Nat → Prop) : Prop := ((F' = F ∧ O' = O) ∨ ∃ s : Nat, P s ∧ F' = sBc 14 s ∧ O' = s) ∧ sLx F' O' F O ∧ ∀ s : Nat, P s → sLx F' O' (sBc 14 s) s
def rQ (μ ν : jm_M) : Prop := (∀ q, q ≠ 37 → q < 47 ∨ 52 < q → q ≠ 130 → ν q = μ q) ∧ (∀ j, j ≠ 1 → j ≠ 2 → ν 37 j = μ 37 j) ∧ ∀ j, j ≠ 0 → j ≠ 1 → ν 130 j = μ 130 j
theorem rQ.rfl {μ : jm_M} : rQ μ μ := ⟨fun _ _ _ _ => Eq.refl _, fun _ _ _ => Eq.refl _, fun _ _ _ => Eq.refl _⟩
theorem rQ.trans {a b c : jm_M} (h1 : rQ a b) (h2 : rQ b c) : rQ a c := ⟨fun q q1 q2 q3 => (h2.1 q q1 q2 q3).trans (h1.1 q q1 q2 q3), fun j j1 j2 => (h2.2.1 j j1 j2).trans (h1.2.1 j j1 j2), fun j j0 j1 => (h2.2.2 j j0 j1).trans (h1.2.2 j j0 j1)⟩
theorem rQ_fr {μ ν : jm_M} (h : tFr 37 μ ν) : rQ μ ν := ⟨fun q q1 q2 _ => h.1 q q1 (by omega), h.2, fun j _ _ => by rw [h.1 130 (by decide) (by decide)]⟩
section WL
variable {E : jm_E} {d : Nat} {μ : jm_M} {Q : Option jm_V → jm_M → Prop} {ρ : sR} {p : Int} {mn : Nat} {mt : Int → Int}
theorem c_T_mendFrom (hV : sVM ρ mn mt) (h0 : sTorn mn mt = 0) (hn : mn ≤ 14) : ∀ (r : Nat) (b : sB) (t bits : Nat) (μ : jm_M) (Q : Option jm_V → jm_M → Prop), t + r = mn → bits < 2 ^ t → b.2.1 ≤ t → tA μ ρ 37 p 400 b → tMn μ 69 mn mt →
    (∀ ν, tA ν ρ 37 p 400 b → rQ μ ν → sBe (μ 130 0) (μ 130 1) (ν 130 0) (ν 130 1) (sCd ρ mt mn t b bits) → Q none ν) → jc E m_X2_mendFrom (d + r + 6) [jm_R 130, jm_R 69, jm_R 37, jm_I t, jm_I (sBc 14 bits), jm_I bits] μ Q
  | 0, b, t, bits, μ, Q, ht, hbits, hbt, hA, hM, h => by
    have et : t = mn := by omega
    subst et
    have cand : ∀ s, sCd ρ mt t t b bits s ↔ s = bits := by
      intro s
      unfold sCd
      rw [Nat.sub_self]
      constructor
      · rintro ⟨h1, h2, _⟩
        rwa [Nat.mod_eq_of_lt h1] at h2
      · intro e
        rw [e]
        exact ⟨hbits, Nat.mod_eq_of_lt hbits, rfl⟩
    have A2 : ∀ x y : Int, tA (jm_up (jm_up μ 130 0 x) 130 1 y) ρ 37 p 400 b := fun x y => (hA.up (by decide)).up (by decide)
    have fr2 : ∀ x y : Int, rQ μ (jm_up (jm_up μ 130 0 x) 130 1 y) := fun x y => ⟨fun q _ _ q3 => by rw [jm_up_ne q3, jm_up_ne q3], fun j _ _ => by rw [jm_up_ne (by decide), jm_up_ne (by decide)], fun j j0 j1 => by rw [jm_up_i j1, jm_up_i j0]⟩
    have set : ((sBc 14 bits : Nat) : Int) ≤ μ 130 0 → (μ 130 0 ≤ (sBc 14 bits : Nat) → (bits : Int) < μ 130 1) → Q none (jm_up (jm_up μ 130 0 (sBc 14 bits : Nat)) 130 1 bits) := fun q q2 => by
      refine h _ (A2 _ _) (fr2 _ _) ?_
      rw [jm_up_at, jm_up_i (by decide), jm_up_at]
      refine ⟨Or.inr ⟨bits, (cand bits).mpr rfl, rfl, rfl⟩, ?_, fun s hs => ?_⟩
      · unfold sLx; omega
      · rw [(cand s).mp hs]; unfold sLx; omega
    refine e_X2_mendFrom (d := d + 5) (fun _ => ⟨fun z => ⟨is_69, ?_⟩, fun z => ?_⟩)
    · rw [hM.1]
      refine ⟨fun _ => r_X2_mendFrom_24 (d := d + 5) ⟨fun z1 => set z (fun q => by omega), fun z1 => ⟨fun z2 => ?_, fun z2 => set z (fun _ => by omega)⟩⟩, fun z1 => absurd (show (t : Int) ≤ t by omega) z1⟩
      refine h μ hA rQ.rfl ⟨Or.inl ⟨rfl, rfl⟩, by unfold sLx; omega, fun s hs => ?_⟩
      rw [(cand s).mp hs]; unfold sLx; omega
    · refine h μ hA rQ.rfl ⟨Or.inl ⟨rfl, rfl⟩, by unfold sLx; omega, fun s hs => ?_⟩
      rw [(cand s).mp hs]; unfold sLx; omega
  | r + 1, b, t, bits, μ, Q, ht, hbits, hbt, hA, hM, h => by
    have hT := sTorn_0.mp h0
    have hW := hA.2.2.1
    have hG := hA.2.2.2.2.2.1
    have v1 := hV.2.1 t (by omega) (by omega)
    have v2 := v1.1.resolve_left (hT (2 * t) (by omega) (by omega))
    have v3 := v1.2.resolve_left (hT (2 * t + 1) (by omega) (by omega))
    have hn24 : mn ≤ 24 := by omega
    have c14 := sBc_le 14 bits
    have sp := fun s => sCd_split (ρ := ρ) (mt := mt) (b := b) (s := s) (show t < mn by omega) hbits
    have hbp : bits + 2 ^ t < 2 ^ (t + 1) := by rw [Nat.pow_succ]; omega
    have hcp := sBc_add 14 bits t hbits (by omega)
    have e1 : jm_wr ((t : Int) + 1) = ((t + 1 : Nat) : Int) := by rw [jm_wr_id (by omega) (by omega)]; omega
    have e2 : jm_wr (((sBc 14 bits : Nat) : Int) + 1) = ((sBc 14 (bits + 2 ^ t) : Nat) : Int) := by rw [jm_wr_id (by omega) (by omega), hcp]; omega
    have b14 : (bits : Int) < 2147483648 := by
      have : 2 ^ t ≤ 2 ^ 14 := Nat.pow_le_pow_right (by decide) (by omega)
      have e : 2 ^ 14 = 16384 := rfl
      omega
    have e3 : jm_or (bits : Int) (jm_shl 1 (t : Int)) = ((bits + 2 ^ t : Nat) : Int) := by rw [jm_or_bit (by omega) b14 (by omega) (by omega), sor_add hbits]
    -- the second way, from any better
    have second : ∀ ξ, tA ξ ρ 37 p 400 b → rQ μ ξ → sBe (μ 130 0) (μ 130 1) (ξ 130 0) (ξ 130 1) (fun s => sWr ρ b (mt (2 * t)) (mt (2 * t + 1)) = 0 ∧ sCd ρ mt mn (t + 1) (sPush ρ b (mt (2 * t)) (mt (2 * t + 1))) bits s) → jg E m_X2_mendFrom (d + r + 6) 105 [some (jm_R 130), some (jm_R 69), some (jm_R 37), some (jm_I t), some (jm_I (sBc 14 bits : Nat)), some (jm_I bits), none, none] [] ξ Q := by
      intro ξ A f g
      refine r_X2_mendFrom_105 (d := d + r + 6) ?_
      rw [e1, e2, e3]
      refine c_T_mendFrom hV h0 hn r b (t + 1) (bits + 2 ^ t) ξ _ (by omega) hbp (by omega) A (tMn_of (fun x x0 x1 => f.1 x (by omega) (by omega) (by omega)) hM) (fun ν A' f' g' _ => ?_)
      refine h ν A' (f.trans f') ⟨?_, ?_, fun s hs => ?_⟩
      · rcases g'.1 with ⟨q1, q2⟩ | ⟨s, hs, q1, q2⟩
        · rw [q1, q2]
          rcases g.1 with q | ⟨s, hs, q⟩
          · exact Or.inl q
          · exact Or.inr ⟨s, (sp s).mpr (Or.inl hs), q⟩
        · exact Or.inr ⟨s, (sp s).mpr (Or.inr hs), q1, q2⟩
      · have x := g.2.1
        have y := g'.2.1
        unfold sLx at *
        omega
      · rcases (sp s).mp hs with hs | hs
        · have x := g.2.2 s hs
          have y := g'.2.1
          unfold sLx at *
          omega
        · exact g'.2.2 s hs
    refine e_X2_mendFrom (d := d + r + 6) (fun _ => ⟨fun z => ⟨is_69, ?_⟩, fun z => ?_⟩)
    · rw [hM.1]
      refine ⟨fun z1 => absurd z1 (by omega), fun _ => ⟨fun _ => c_T_whoAt is_69 hM hn24 (by omega) (by omega) (jq_I (c_T_kindAt is_69 hM hn24 (by omega) (by omega) (jq_I ⟨is_37, c_T_flaw hA (jq_I ?_)⟩))), fun z1 => absurd (show (t : Int) < 14 by omega) z1⟩⟩
      rw [sFw_0 v2.1 v2.2 v3.1 v3.2 (by omega)]
      refine ⟨fun z2 => second μ hA rQ.rfl ⟨Or.inl ⟨rfl, rfl⟩, by unfold sLx; omega, fun s hs => absurd hs.1 z2⟩, fun z2 => ?_⟩
      have z2' := Decidable.not_not.mp z2
      refine c_T_add hA (by omega) v2.1 v2.2 v3.1 v3.2 z2' (fun ξ2 A2 f2 _ => ?_)
      have q2 := rQ_fr f2
      have nb := (sPush_c (ρ := ρ) (b := b) (who := mt (2 * t)) (k := mt (2 * t + 1)) rfl).1
      rw [e1]
      refine c_T_mendFrom hV h0 hn r _ (t + 1) bits ξ2 _ (by omega) (by rw [Nat.pow_succ]; omega) (by omega) A2 (tMn_of (fun x x0 x1 => q2.1 x (by omega) (by omega) (by omega)) hM) (fun ξ3 A3 q3 g3 _ => ?_)
      refine c_T_back A3 hG v2.1 v2.2 v3.1 v3.2 z2' (fun ξ4 A4 f4 _ => ?_)
      have e130 : ξ2 130 = μ 130 := f2.1 130 (by decide) (by decide)
      have e130' : ξ4 130 = ξ3 130 := f4.1 130 (by decide) (by decide)
      refine second ξ4 A4 ((q2.trans q3).trans (rQ_fr f4)) ?_
      rw [e130', ← e130]
      refine ⟨g3.1.imp id (fun ⟨s, hs, q⟩ => ⟨s, ⟨z2', hs⟩, q⟩), g3.2.1, fun s hs => g3.2.2 s hs.2⟩
    · refine h μ hA rQ.rfl ⟨Or.inl ⟨rfl, rfl⟩, by unfold sLx; omega, fun s hs => ?_⟩
      have := sBc_mod 14 s t
      rw [hs.2.1] at this
      unfold sLx
      omega
theorem c_T_leaveOut (hA : tA μ ρ 37 p 400 sEmpty) (hM : tMn μ 69 mn mt) (hV : sVM ρ mn mt) (h0 : sTorn mn mt = 0) (hn : mn ≤ 14)
    (h : ∀ (ν : jm_M) (s : Nat), (∀ q, q ≠ 37 → q < 47 ∨ 52 < q → q ≠ 130 → ν q = μ q) → (∀ j, j ≠ 1 → j ≠ 2 → ν 37 j = μ 37 j) → (∀ j, j ≠ 0 → j ≠ 1 → j ≠ 2 → ν 130 j = μ 130 j) → ν 130 2 = s → sMe ρ mn mt s → Q (some (jm_I (sBc 14 s))) ν) :
    jc E m_X2_leaveOut (d + 25) [jm_R 130, jm_R 69, jm_R 37] μ Q := by
  refine e_X2_leaveOut (d := d + 24) (fun _ => ?_)
  have A0 : tA (jm_up (jm_up μ 130 0 15) 130 1 0) ρ 37 p 400 sEmpty := (hA.up (by decide)).up (by decide)
  have hc := c_T_mendFrom (E := E) (d := d + 18 - mn) (p := p) hV h0 hn mn sEmpty 0 0 (jm_up (jm_up μ 130 0 15) 130 1 0) (fun o m1 => o = none → Q (some (jm_I (m1 130 0))) (jm_up m1 130 2 (m1 130 1))) (by omega) (by decide) (by decide) A0 (tMn_of (fun x x0 x1 => by rw [jm_up_ne (by omega), jm_up_ne (by omega)]) hM) (fun ν A f g _ => ?_)
  · rw [show d + 18 - mn + mn + 6 = d + 24 by omega] at hc
    exact hc
  rw [jm_up_at, jm_up_i (by decide), jm_up_at] at g
  have full : sCd ρ mt mn 0 sEmpty 0 (2 ^ mn - 1) := by
    have p0 := Nat.two_pow_pos mn
    refine ⟨by omega, Nat.mod_one _, sTk_all _ _ _ (fun k k0 k1 => ?_)⟩
    have e : sbt ((2 ^ mn - 1 : Nat) : Int) k = (2 ^ mn - 1).testBit k.toNat := rfl
    rw [e, Nat.testBit_two_pow_sub_one]
    exact decide_eq_true (by omega)
  have ftop := g.2.2 _ full
  rw [sBc_top mn 14 hn] at ftop
  rcases g.1 with ⟨q1, q2⟩ | ⟨s, hs, q1, q2⟩
  · unfold sLx at ftop; omega
  · have g3 : sMe ρ mn mt s := by
      refine ⟨hs.1, by have := hs.2.2; rwa [Nat.sub_zero] at this, fun u hu hk => ?_⟩
      have := g.2.2 u ⟨hu, Nat.mod_one _, by rw [Nat.sub_zero]; exact hk⟩
      unfold sLx at this
      rw [q1, q2] at this
      omega
    rw [q1, q2]
    refine h _ s (fun q e1 e2 e3 => ?_) (fun j j1 j2 => ?_) (fun j j0 j1 j2 => ?_) jm_up_at g3
    · rw [jm_up_ne e3, f.1 q e1 e2 e3, jm_up_ne e3, jm_up_ne e3]
    · rw [jm_up_ne (by decide), f.2.1 j j1 j2, jm_up_ne (by decide), jm_up_ne (by decide)]
    · rw [jm_up_i j2, f.2.2 j j0 j1, jm_up_i j1, jm_up_i j0]
end WL
