section TK
variable {E : jm_E} {d : Nat} {μ : jm_M} {Q : Option jm_V → jm_M → Prop} {τ : Int → Int} {n lim : Int}
theorem sSb_lt {c : Int} (h0 : 0 ≤ c) (h1 : c ≤ 255) : (97 ≤ sSb c ∧ sSb c ≤ 122) ↔ sLt c = true := by
  unfold sSb sLt
  rw [Bool.and_eq_true, decide_eq_true_eq, decide_eq_true_eq]
  split <;> omega
theorem sSb_dg {c : Int} (h0 : 0 ≤ c) (h1 : c ≤ 255) : (48 ≤ sSb c ∧ sSb c ≤ 57) ↔ sDg c = true := by
  unfold sSb sDg
  rw [Bool.and_eq_true, decide_eq_true_eq, decide_eq_true_eq]
  split <;> omega
theorem sSb_eq {c k : Int} (h0 : 0 ≤ c) (h1 : c ≤ 255) (k0 : 0 ≤ k) (k1 : k < 128) : sSb c = k ↔ c = k := by
  unfold sSb
  split <;> omega
theorem c_K_isLetter {c : Int} (h0 : 0 ≤ c) (h1 : c ≤ 255) (ht : sLt c = true → Q (some (jm_I 1)) μ) (hf : sLt c = false → Q (some (jm_I 0)) μ) : jc E m_X7_isLetter (d + 1) [jm_I (sSb c)] μ Q := by
  have e := sSb_lt h0 h1
  have f : ¬ (97 ≤ sSb c ∧ sSb c ≤ 122) → Q (some (jm_I 0)) μ := fun q => hf (by cases hx : sLt c; rfl; exact absurd (e.mpr hx) q)
  exact e_X7_isLetter (fun _ => ⟨fun z => f (by omega), fun z => ⟨fun z2 => f (by omega), fun z2 => ht (e.mp (by omega))⟩⟩)
theorem c_K_isDigit {c : Int} (h0 : 0 ≤ c) (h1 : c ≤ 255) (ht : sDg c = true → Q (some (jm_I 1)) μ) (hf : sDg c = false → Q (some (jm_I 0)) μ) : jc E m_X7_isDigit (d + 1) [jm_I (sSb c)] μ Q := by
  have e := sSb_dg h0 h1
  have f : ¬ (48 ≤ sSb c ∧ sSb c ≤ 57) → Q (some (jm_I 0)) μ := fun q => hf (by cases hx : sDg c; rfl; exact absurd (e.mpr hx) q)
  exact e_X7_isDigit (fun _ => ⟨fun z => f (by omega), fun z => ⟨fun z2 => f (by omega), fun z2 => ht (e.mp (by omega))⟩⟩)
theorem c_K_termOf {v : Int} (h : Q (some (jm_R (-11 - sTm v))) μ) : jc E m_X7_termOf (d + 1) [jm_L v] μ Q := by
  refine e_X7_termOf (fun _ => ?_)
  have key : ∀ (f : Nat) (i : Int), i + f = 26 → 0 ≤ i → sTm1 v f i = sTm v → jg E m_X7_termOf d 2 [some (jm_L v), none, some (jm_I i)] [] μ Q := by
    intro f
    induction f with
    | zero =>
      intro i g1 g2 g3
      refine r_X7_termOf_2 ⟨fun _ => ?_, fun z => absurd (show 26 ≤ i by omega) z⟩
      rw [← g3] at h
      exact h
    | succ f ih =>
      intro i g1 g2 g3
      rw [sTm1] at g3
      have hc : jm_cmp (jm_le (-11 - i)) v ≠ 0 ↔ ¬ jm_le (-11 - i) = v := by
        unfold jm_cmp
        split
        · exact ⟨fun _ => by omega, fun _ => by decide⟩
        · split
          · rename_i q; exact ⟨fun z => absurd rfl z, fun z => absurd q z⟩
          · rename_i q; exact ⟨fun _ => q, fun _ => by decide⟩
      refine r_X7_termOf_2 ⟨fun z => absurd z (by omega), fun _ => ⟨by omega, by unfold jm_it; omega, fun z => ?_, fun z => ?_⟩⟩
      · rw [if_neg (hc.mp z)] at g3
        rw [jm_wr_id (by omega) (by omega)]
        exact ih (i + 1) (by omega) (by omega) g3
      · rw [if_pos (Decidable.not_not.mp (fun q => z (hc.mpr q)))] at g3
        rw [← g3] at h
        exact h
  exact key 26 0 (by decide) (by decide) rfl
/-- what the tape's reading changes -/
def tKf (μ ν : jm_M) : Prop := (∀ x, x ≠ 1 → ν x = μ x) ∧ ∀ j, j = 0 ∨ j = 1 ∨ j = 2 ∨ 8 < j → ν 1 j = μ 1 j
theorem tKf.rfl {μ : jm_M} : tKf μ μ := ⟨fun _ _ => Eq.refl _, fun _ _ => Eq.refl _⟩
theorem tKf.trans {a b c : jm_M} (h1 : tKf a b) (h2 : tKf b c) : tKf a c := ⟨fun x hx => (h2.1 x hx).trans (h1.1 x hx), fun j hj => (h2.2 j hj).trans (h1.2 j hj)⟩
theorem tKf_up {i v : Int} (h : 3 ≤ i) (h8 : i ≤ 8) : tKf μ (jm_up μ 1 i v) := ⟨fun x hx => jm_up_ne hx, fun j hj => jm_up_i (by omega)⟩
theorem tTx_of {ν : jm_M} (h : tKf μ ν) (ht : tTx μ τ n) : tTx ν τ n := ⟨by rw [h.2 1 (by omega)]; exact ht.1, fun i i0 i1 => by rw [h.1 2 (by decide)]; exact ht.2 i i0 i1⟩
/-- nothing is asked of it -/
def kIt (_ : Int) : Prop := True
theorem c_K_readRun {q : Int} (hX : sTx τ n) (ht : tTx μ τ n) (h3 : μ 1 3 = q) (h5 : μ 1 5 = q) (hi : kIt (μ 1 7)) (q0 : 0 ≤ q) (q1 : q ≤ n) (h : ∀ ν, tKf μ ν → kIt (ν 1 7) → tTo ν n lim (sRk q (sRu τ n 940 q 0 0 0 0)) → Q none ν) : jc E m_X7_readRun (d + 2) [jm_R 1] μ Q := by
  refine e_X7_readRun (d := d + 1) (fun _ => ?_)
  generalize hR : sRu τ n 940 q 0 0 0 0 = R at h
  have fin : ∀ (p : Int) (a b : Nat) (L V : Int) (ξ : jm_M), p = q + a + b → 0 ≤ L → L < ((32 ^ a : Nat) : Int) → 0 ≤ V → V < ((10 ^ b : Nat) : Int) → tKf μ ξ → ξ 1 3 = p → ξ 1 5 = q → ξ 1 6 = jm_wl L → ξ 1 8 = jm_wr V → kIt (ξ 1 7) → (p, (a : Int), (b : Int), L, V) = R → jg E m_X7_readRun (d + 1) 99 [some (jm_R 1), some (jm_I a), some (jm_I b), none] [] ξ Q := by
    intro p a b L V ξ g4 l0 l1 v0 v1 g5 g6 g7 g8 g9 g10 g11
    subst g11
    have out : ∀ s k, sRk q (p, (a : Int), (b : Int), L, V) = k → tTo (jm_up ξ 1 4 s) n lim k → Q none (jm_up ξ 1 4 s) := fun s k e t => h _ (g5.trans (tKf_up (by decide) (by decide))) (by rw [jm_up_i (by decide)]; exact g10) (by rw [e]; exact t)
    have bad : ¬ ((b : Int) = 0 ∧ (a : Int) ≤ 7) → ¬ ((a : Int) = 0 ∧ (b : Int) ≤ 3) → Q none (jm_up ξ 1 4 4) := fun n1 n2 => out 4 (1, q, 0, 0) (by unfold sRk; rw [if_neg n1, if_neg n2]) (tTo_1 (by rw [jm_up_i (by decide)]; exact g7) (Or.inl jm_up_at))
    have num : (a : Int) = 0 → (b : Int) ≤ 3 → ¬ ((b : Int) = 0) → Q none (jm_up ξ 1 4 2) := fun n1 n2 n3 => out 2 (3, q, p, V) (by unfold sRk; rw [if_neg (fun z => n3 z.1), if_pos ⟨n1, n2⟩]) (tTo_3 (by rw [jm_up_i (by decide)]; exact g7) jm_up_at (by
      rw [jm_up_i (by decide), g9]
      have p3 : 10 ^ b ≤ 10 ^ 3 := Nat.pow_le_pow_right (by decide) (by omega)
      have e3 : 10 ^ 3 = 1000 := rfl
      exact jm_wr_id (by omega) (by omega)) (by rw [jm_up_i (by decide)]; exact g6))
    refine r_X7_readRun_99 (d := d + 1) ⟨fun z => ⟨fun z2 => bad (by omega) (by omega), fun z2 => ⟨fun z3 => bad (by omega) (by omega), fun z3 => num (by omega) (by omega) z⟩⟩, fun z => ⟨fun z2 => ⟨fun z3 => bad (by omega) (by omega), fun z3 => absurd (by omega) z3⟩, fun z2 => c_K_termOf (jq_R ?_)⟩⟩
    have p7 : 32 ^ a ≤ 32 ^ 7 := Nat.pow_le_pow_right (by decide) (by omega)
    have e7 : 32 ^ 7 = 34359738368 := rfl
    have eL : ξ 1 6 = L := by rw [g8]; exact jm_wl_id (by omega) (by omega)
    have st := sTm_in (v := L)
    rw [eL]
    refine h _ ((g5.trans (tKf_up (by decide) (by decide))).trans (tKf_up (by decide) (by decide))) ?_ ?_
    · trivial
    · have e : sRk q (p, (a : Int), (b : Int), L, V) = (2, q, p, L) := by unfold sRk; rw [if_pos (show (b : Int) = 0 ∧ (a : Int) ≤ 7 from ⟨by omega, by omega⟩)]
      rw [e]
      exact tTo_2 (by rw [jm_up_i (by decide), jm_up_i (by decide)]; exact g7) (by rw [jm_up_i (by decide), jm_up_at]) (by rw [jm_up_i (by decide), jm_up_i (by decide)]; exact eL) jm_up_at (by rw [jm_up_i (by decide), jm_up_i (by decide)]; exact g6)
  have key : ∀ (f : Nat) (p : Int) (a b : Nat) (L V : Int) (ξ : jm_M), n - p ≤ f → q ≤ p → p ≤ n → p = q + a + b → 0 ≤ L → L < ((32 ^ a : Nat) : Int) → 0 ≤ V → V < ((10 ^ b : Nat) : Int) → tKf μ ξ → ξ 1 3 = p → ξ 1 5 = q → ξ 1 6 = jm_wl L → ξ 1 8 = jm_wr V → kIt (ξ 1 7) → sRu τ n f p a b L V = R → jg E m_X7_readRun (d + 1) 14 [some (jm_R 1), some (jm_I a), some (jm_I b), none] [] ξ Q := by
    intro f
    induction f with
    | zero =>
      intro p a b L V ξ g1 g2 g3 g4 l0 l1 v0 v1 g5 g6 g7 g8 g9 g10 g11
      have e1 := (tTx_of g5 ht).1
      refine r_X7_readRun_14 (d := d + 1) ⟨fun _ => fin p a b L V ξ g4 l0 l1 v0 v1 g5 g6 g7 g8 g9 g10 g11, fun z => absurd (show ξ 1 1 ≤ ξ 1 3 by omega) z⟩
    | succ f ih =>
      intro p a b L V ξ g1 g2 g3 g4 l0 l1 v0 v1 g5 g6 g7 g8 g9 g10 g11
      have ht' := tTx_of g5 ht
      have e1 := ht'.1
      have hn := hX.2.1
      rw [sRu] at g11
      refine r_X7_readRun_14 (d := d + 1) ⟨fun z => ?_, fun z => ⟨by omega, fun x3 hx3 => ?_⟩⟩
      · rw [if_neg (show ¬ p < n by omega)] at g11
        exact fin p a b L V ξ g4 l0 l1 v0 v1 g5 g6 g7 g8 g9 g10 g11
      · have hp : p < n := by omega
        have tp := hX.2.2 p (by omega) hp
        rw [g6, ht'.2 p (by omega) hp] at hx3
        subst hx3
        rw [if_pos hp] at g11
        have e3 : jm_wr (ξ 1 3 + 1) = p + 1 := by rw [g6]; exact jm_wr_id (by omega) (by omega)
        refine c_K_isLetter tp.1 tp.2 (fun zl => jq_Z (jb_f (by decide) ?_)) (fun zl => jq_Z (jb_t rfl (c_K_isDigit tp.1 tp.2 (fun zd => jq_Z (jb_f (by decide) (fun x12 hx12 => ?_))) (fun zd => jq_Z (jb_t rfl ?_)))))
        · rw [if_pos zl] at g11
          have hl := sLt_iff.mp zl
          have es : sSb (τ p) = τ p := sSb_id (by omega)
          rw [es]
          refine e_X8_withLetter (fun _ => jq_L ?_)
          rw [g8, jm_wr_id (a := τ p - 97) (by omega) (by omega), jm_wr_id (a := τ p - 97 + 1) (by omega) (by omega), show τ p - 97 + 1 = τ p - 96 by omega, jm_wl_h, e3]
          have ea : jm_wr ((a : Int) + 1) = ((a + 1 : Nat) : Int) := by rw [jm_wr_id (by omega) (by omega)]; omega
          rw [ea]
          have pw : ((32 ^ (a + 1) : Nat) : Int) = ((32 ^ a : Nat) : Int) * 32 := by rw [Nat.pow_succ, Int.natCast_mul]; rfl
          refine ih (p + 1) (a + 1) b (L * 32 + (τ p - 96)) V _ (by omega) (by omega) (by omega) (by omega) (by omega) (by rw [pw]; omega) v0 v1 ((g5.trans (tKf_up (by decide) (by decide))).trans (tKf_up (by decide) (by decide))) jm_up_at ?_ ?_ ?_ ?_ (by rw [show ((a + 1 : Nat) : Int) = (a : Int) + 1 by omega]; exact g11)
          · rw [jm_up_i (by decide), jm_up_i (by decide)]; exact g7
          · rw [jm_up_i (by decide), jm_up_at]
          · rw [jm_up_i (by decide), jm_up_i (by decide)]; exact g9
          · rw [jm_up_i (by decide), jm_up_i (by decide)]; exact g10
        · rw [if_neg (by rw [zl]; decide), if_pos zd] at g11
          have hl := sDg_iff.mp zd
          have es : sSb (τ p) = τ p := sSb_id (by omega)
          rw [es] at hx12
          rw [g9, jm_wr_id (a := τ p - 48) (by omega) (by omega), jm_wr_h] at hx12
          subst hx12
          rw [e3]
          have eb : jm_wr ((b : Int) + 1) = ((b + 1 : Nat) : Int) := by rw [jm_wr_id (by omega) (by omega)]; omega
          rw [eb]
          have pw : ((10 ^ (b + 1) : Nat) : Int) = ((10 ^ b : Nat) : Int) * 10 := by rw [Nat.pow_succ, Int.natCast_mul]; rfl
          refine ih (p + 1) a (b + 1) L (V * 10 + (τ p - 48)) _ (by omega) (by omega) (by omega) (by omega) l0 l1 (by omega) (by rw [pw]; omega) ((g5.trans (tKf_up (by decide) (by decide))).trans (tKf_up (by decide) (by decide))) jm_up_at ?_ ?_ ?_ ?_ (by rw [show ((b + 1 : Nat) : Int) = (b : Int) + 1 by omega]; exact g11)
          · rw [jm_up_i (by decide), jm_up_i (by decide)]; exact g7
          · rw [jm_up_i (by decide), jm_up_i (by decide)]; exact g8
          · rw [jm_up_i (by decide), jm_up_at]
          · rw [jm_up_i (by decide), jm_up_i (by decide)]; exact g10
        · rw [if_neg (by rw [zl]; decide), if_neg (by rw [zd]; decide)] at g11
          exact fin p a b L V ξ g4 l0 l1 v0 v1 g5 g6 g7 g8 g9 g10 g11
  refine key 940 q 0 0 0 0 _ (by have := hX.2.1; omega) (Int.le_refl _) q1 (by omega) (by decide) (by decide) (by decide) (by decide) ((tKf_up (by decide) (by decide)).trans (tKf_up (by decide) (by decide))) ?_ ?_ ?_ ?_ ?_ hR
  · rw [jm_up_i (by decide), jm_up_i (by decide)]; exact h3
  · rw [jm_up_i (by decide), jm_up_i (by decide)]; exact h5
  · rw [jm_up_i (by decide), jm_up_at]; decide +kernel
  · rw [jm_up_at]; decide +kernel
  · rw [jm_up_i (by decide), jm_up_i (by decide)]; exact hi
theorem c_K_advance {p : Int} (hX : sTx τ n) (ht : tTx μ τ n) (h2 : μ 1 2 = lim) (h3 : μ 1 3 = p) (hi : kIt (μ 1 7)) (p0 : 0 ≤ p) (p1 : p ≤ n) (h : ∀ ν, tKf μ ν → kIt (ν 1 7) → tTo ν n lim (sTok τ n lim p) → Q none ν) : jc E m_X7_advance (d + 3) [jm_R 1] μ Q := by
  have hn := hX.2.1
  refine e_X7_advance (d := d + 2) (fun _ x1 hx1 => ?_)
  have hb : x1 = if n ≤ lim then n else lim := by
    rw [hx1, ht.1, h2]
    unfold jm_mn
    split <;> split <;> omega
  clear hx1
  have out : ∀ (q : Int) (ξ : jm_M), tKf μ ξ → ξ 1 3 = q → kIt (ξ 1 7) → sSkp τ x1 940 p = q → p ≤ q → q ≤ n → (x1 ≤ q ∨ sBl (τ q) = false) → jg E m_X7_advance (d + 2) 61 [some (jm_R 1), some (jm_I x1), none] [] ξ Q := by
    intro q ξ g1 g2 g3 g4 g5 g6 g7
    refine r_X7_advance_61 (d := d + 2) ?_
    rw [g2]
    have ht' := tTx_of g1 ht
    refine ⟨fun z => ⟨by omega, fun x3 hx3 => ?_⟩, fun z => ?_⟩
    · have hq : q < n := by
        rw [hb] at z
        split at z <;> omega
      have hl : ¬ (lim < n ∧ lim ≤ q) := fun y => by
        rw [hb, if_neg (by omega)] at z
        omega
      have eq : sSkp τ n 940 p = q := by
        by_cases y : n ≤ lim
        · rw [hb, if_pos y] at g4; exact g4
        · rw [hb, if_neg y] at g4
          have := (sSkp_cut (τ := τ) (show lim ≤ n by omega) 940 p).1 (by rw [g4]; rw [hb, if_neg y] at z; exact z)
          rw [this, g4]
      have tp := hX.2.2 q (by omega) hq
      rw [ht'.2 q (by omega) hq] at hx3
      subst hx3
      have h' : ∀ ν, tKf μ ν → kIt (ν 1 7) → tTo ν n lim (if (sLt (τ q) || sDg (τ q)) = true then sRk q (sRu τ n 940 q 0 0 0 0) else if sSi (τ q) = true then (4, q, q + 1, τ q) else (1, q, 0, 0)) → Q none ν := fun ν a b c => h ν a b (by unfold sTok; rw [eq, if_neg hl, if_neg (show ¬ n ≤ q by omega)]; exact c)
      have k5 : tKf μ (jm_up ξ 1 5 q) := g1.trans (tKf_up (by decide) (by decide))
      have run : (sLt (τ q) || sDg (τ q)) = true → ∀ F : Option jm_V → jm_M → Prop, (∀ ν, Q none ν → F none ν) → jc E m_X7_readRun (d + 2) [jm_R 1] (jm_up ξ 1 5 q) F := fun y F hF => by
        rw [if_pos y] at h'
        exact c_K_readRun (d := d) (q := q) hX (tTx_of k5 ht) (by rw [jm_up_i (by decide)]; exact g2) jm_up_at (by rw [jm_up_i (by decide)]; exact g3) (by omega) (by omega) (fun ν a b c => hF ν (h' ν (k5.trans a) b c))
      refine c_K_isLetter tp.1 tp.2 (fun y => jq_Z (jb_t (by decide) (run (by rw [y]; rfl) _ (fun ν g _ => g)))) (fun y => jq_Z (jb_f (by decide) (c_K_isDigit tp.1 tp.2 (fun y2 => jq_Z (jb_f (by decide) (run (by rw [y2, Bool.or_true]) _ (fun ν g _ => g)))) (fun y2 => jq_Z (jb_t rfl ?_)))))
      rw [if_neg (by rw [y, y2]; decide)] at h'
      have e3 : jm_wr (jm_up ξ 1 5 q 1 3 + 1) = q + 1 := by rw [jm_up_i (by decide), g2, jm_wr_id (by omega) (by omega)]
      rw [e3]
      have sign : sSi (τ q) = true → sSb (τ q) = τ q → Q none (jm_up (jm_up (jm_up (jm_up ξ 1 5 q) 1 4 3) 1 8 (sSb (τ q))) 1 3 (q + 1)) := fun z1 z2 => by
        rw [if_pos z1] at h'
        refine h' _ (((k5.trans (tKf_up (by decide) (by decide))).trans (tKf_up (by decide) (by decide))).trans (tKf_up (by decide) (by decide))) (by rw [jm_up_i (by decide), jm_up_i (by decide), jm_up_i (by decide), jm_up_i (by decide)]; exact g3) (tTo_4 (by rw [jm_up_i (by decide), jm_up_i (by decide), jm_up_i (by decide), jm_up_at]) (by rw [jm_up_i (by decide), jm_up_i (by decide), jm_up_at]) (by rw [jm_up_i (by decide), jm_up_at]; exact z2) jm_up_at)
      have si : ∀ k : Int, (k = 59 ∨ k = 60 ∨ k = 61 ∨ k = 62 ∨ k = 40 ∨ k = 41) → sSb (τ q) = k → sSi (τ q) = true ∧ sSb (τ q) = τ q := fun k hk hs => by
        have := (sSb_eq (k := k) tp.1 tp.2 (by omega) (by omega)).mp hs
        refine ⟨?_, by omega⟩
        unfold sSi
        rw [this]
        rcases hk with rfl | rfl | rfl | rfl | rfl | rfl <;> rfl
      have none' : (∀ k : Int, (k = 59 ∨ k = 60 ∨ k = 61 ∨ k = 62 ∨ k = 40 ∨ k = 41) → sSb (τ q) ≠ k) → Q none (jm_up (jm_up (jm_up (jm_up ξ 1 5 q) 1 4 4) 1 8 (sSb (τ q))) 1 3 (q + 1)) := fun hk => by
        have ns : ¬ sSi (τ q) = true := fun z1 => by
          unfold sSi at z1
          simp only [Bool.or_eq_true, decide_eq_true_eq] at z1
          have e := sSb_id (c := τ q) (by omega)
          exact hk (τ q) (by omega) e
        rw [if_neg ns] at h'
        exact h' _ (((k5.trans (tKf_up (by decide) (by decide))).trans (tKf_up (by decide) (by decide))).trans (tKf_up (by decide) (by decide))) (by rw [jm_up_i (by decide), jm_up_i (by decide), jm_up_i (by decide), jm_up_i (by decide)]; exact g3) (tTo_1 (by rw [jm_up_i (by decide), jm_up_i (by decide), jm_up_i (by decide), jm_up_at]) (Or.inl (by rw [jm_up_i (by decide), jm_up_i (by decide), jm_up_at])))
      refine ⟨fun z1 => ?_, fun z1 => ⟨fun z2 => ?_, fun z2 => ⟨fun z3 => ?_, fun z3 => ⟨fun z4 => ?_, fun z4 => ⟨fun z5 => ?_, fun z5 => ⟨fun z6 => none' (fun k hk => by omega), fun z6 => ?_⟩⟩⟩⟩⟩⟩
      · have := si 59 (by omega) z1; exact sign this.1 this.2
      · have := si 60 (by omega) z2; exact sign this.1 this.2
      · have := si 61 (by omega) z3; exact sign this.1 this.2
      · have := si 62 (by omega) z4; exact sign this.1 this.2
      · have := si 40 (by omega) z5; exact sign this.1 this.2
      · have := si 41 (by omega) (Decidable.not_not.mp z6); exact sign this.1 this.2
    · have k2 : tKf μ (jm_up (jm_up ξ 1 4 0) 1 5 x1) := (g1.trans (tKf_up (by decide) (by decide))).trans (tKf_up (by decide) (by decide))
      have it2 : kIt (jm_up (jm_up ξ 1 4 0) 1 5 x1 1 7) := by rw [jm_up_i (by decide), jm_up_i (by decide)]; exact g3
      have e4 : jm_up (jm_up ξ 1 4 0) 1 5 x1 1 4 = 0 := by rw [jm_up_i (by decide), jm_up_at]
      refine h _ k2 it2 ?_
      unfold sTok
      by_cases y : n ≤ lim
      · have hx : x1 = n := by rw [hb, if_pos y]
        have eq : sSkp τ n 940 p = q := by rw [← hx]; exact g4
        rw [eq, if_neg (show ¬ (lim < n ∧ lim ≤ q) by omega), if_pos (show n ≤ q by omega)]
        exact tTo_0 (by rw [jm_up_at]; omega) e4 y
      · have hx : x1 = lim := by rw [hb, if_neg y]
        have eq := (sSkp_cut (τ := τ) (show lim ≤ n by omega) 940 p).2 (by rw [← hx, g4]; omega)
        rw [if_pos ⟨by omega, eq⟩]
        exact tTo_1 (by rw [jm_up_at]; exact hx) (Or.inr ⟨e4, by omega⟩)
  have key : ∀ (f : Nat) (s : Int) (ξ : jm_M), x1 - s ≤ f → p ≤ s → s ≤ n → tKf μ ξ → ξ 1 3 = s → kIt (ξ 1 7) → sSkp τ x1 f s = sSkp τ x1 940 p → jg E m_X7_advance (d + 2) 12 [some (jm_R 1), some (jm_I x1), none] [] ξ Q := by
    intro f
    induction f with
    | zero =>
      intro s ξ g1 g2 g3 g4 g5 g6 g7
      refine r_X7_advance_12 (d := d + 2) ?_
      rw [g5]
      exact ⟨fun _ => out s ξ g4 g5 g6 g7.symm g2 g3 (Or.inl (by omega)), fun z => absurd (by omega) z⟩
    | succ f ih =>
      intro s ξ g1 g2 g3 g4 g5 g6 g7
      have ht' := tTx_of g4 ht
      rw [sSkp] at g7
      have xn : x1 ≤ n := by rw [hb]; split <;> omega
      refine r_X7_advance_12 (d := d + 2) ?_
      rw [g5]
      refine ⟨fun z => ?_, fun z => ⟨by omega, ?_⟩⟩
      · rw [if_neg (by omega)] at g7
        exact out s ξ g4 g5 g6 g7.symm g2 g3 (Or.inl z)
      · have tp := hX.2.2 s (by omega) (by omega)
        rw [if_pos (by omega)] at g7
        rw [ht'.2 s (by omega) (by omega), jm_wr_id (a := s + 1) (by omega) (by omega)]
        have e32 := sSb_eq (k := 32) tp.1 tp.2 (by decide) (by decide)
        have e10 := sSb_eq (k := 10) tp.1 tp.2 (by decide) (by decide)
        have go : sBl (τ s) = true → jg E m_X7_advance (d + 2) 12 [some (jm_R 1), some (jm_I x1), none] [] (jm_up ξ 1 3 (s + 1)) Q := fun y => by
          rw [if_pos y] at g7
          exact ih (s + 1) _ (by omega) (by omega) (by omega) (g4.trans (tKf_up (by decide) (by decide))) jm_up_at (by rw [jm_up_i (by decide)]; exact g6) g7
        refine ⟨fun y => go (by unfold sBl; rw [e32.mp y]; rfl), fun y => ⟨fun y2 => ?_, fun y2 => go (by unfold sBl; rw [e10.mp (Decidable.not_not.mp y2)]; rfl)⟩⟩
        have nb : sBl (τ s) = false := by
          unfold sBl
          rw [decide_eq_false (fun q => y (e32.mpr q)), decide_eq_false (fun q => y2 (e10.mpr q))]; rfl
        rw [if_neg (by rw [nb]; decide)] at g7
        exact out s ξ g4 g5 g6 g7.symm g2 g3 (Or.inr nb)
  exact key 940 p μ (by rw [hb]; split <;> omega) (Int.le_refl _) p1 tKf.rfl h3 hi rfl
end TK
