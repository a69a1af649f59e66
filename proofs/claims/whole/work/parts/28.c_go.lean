/-! tokens of the reference -/
theorem s27_le : ∀ (f c : Nat), s27 f c ≤ c
  | 0, _ => Nat.zero_le _
  | f + 1, c => by
    unfold s27
    split
    · omega
    · have := s27_le f (c / 32)
      omega
theorem s27_f : ∀ (f c : Nat), c < 32 ^ f → s27 (f + 1) c = s27 f c
  | 0, c, h => by
    have : c = 0 := by rw [Nat.pow_zero] at h; omega
    subst this; rfl
  | f + 1, c, h => by
    by_cases h0 : c = 0
    · subst h0; rfl
    · have e1 : s27 (f + 1 + 1) c = 27 * s27 (f + 1) (c / 32) + c % 32 := if_neg h0
      have e2 : s27 (f + 1) c = 27 * s27 f (c / 32) + c % 32 := if_neg h0
      rw [e1, e2, s27_f f (c / 32) (by rw [Nat.pow_succ] at h; omega)]
theorem sNa_on {L d : Int} (l0 : 0 ≤ L) (l1 : L < 34359738368) (d0 : 1 ≤ d) (d1 : d < 32) : sNa (L * 32 + d) = 27 * sNa L + d := by
  obtain ⟨l, rfl⟩ := jm_nat l0
  obtain ⟨e, rfl⟩ := jm_nat (show 0 ≤ d by omega)
  unfold sNa
  have e1 : ((l : Int) * 32 + e).toNat = l * 32 + e := by omega
  rw [e1, Int.toNat_natCast, s27, if_neg (by omega), show (l * 32 + e) / 32 = l by omega, show (l * 32 + e) % 32 = e by omega]
  have h7 : l < 32 ^ 7 := by have : 32 ^ 7 = 34359738368 := rfl; omega
  rw [s27_f 7 l h7]
  omega
theorem sNa_in {L : Int} (l0 : 0 ≤ L) : 0 ≤ sNa L ∧ sNa L ≤ L := by
  have := s27_le 8 L.toNat
  unfold sNa
  omega
def mTx (μ : jm_M) (τ : Int → Int) (n : Int) : Prop := μ 133 3 = n ∧ ∀ i, 0 ≤ i → i < n → μ 134 i = τ i
def mTo (μ : jm_M) (k : sTk1) : Prop := μ 133 7 = k.1 ∧ μ 133 6 = k.2.1 ∧ (k.1 = 2 → μ 133 12 = sNa k.2.2.2) ∧ (k.1 = 3 → μ 133 8 = k.2.2.2) ∧ (k.1 = 4 → μ 133 9 = k.2.2.2) ∧ (2 ≤ k.1 → μ 133 5 = k.2.2.1)
def mKf (μ ν : jm_M) : Prop := (∀ x, x ≠ 133 → ν x = μ x) ∧ ∀ j, j < 5 ∨ 9 < j → j ≠ 12 → ν 133 j = μ 133 j
theorem mKf.rfl {μ : jm_M} : mKf μ μ := ⟨fun _ _ => Eq.refl _, fun _ _ _ => Eq.refl _⟩
theorem mKf.trans {a b c : jm_M} (h1 : mKf a b) (h2 : mKf b c) : mKf a c := ⟨fun x hx => (h2.1 x hx).trans (h1.1 x hx), fun j hj h12 => (h2.2 j hj h12).trans (h1.2 j hj h12)⟩
theorem mKf_up {μ : jm_M} {i v : Int} (h : 5 ≤ i ∧ i ≤ 9 ∨ i = 12) : mKf μ (jm_up μ 133 i v) := ⟨fun x hx => jm_up_ne hx, fun j hj h12 => jm_up_i (by omega)⟩
theorem mTx_of {μ ν : jm_M} {τ : Int → Int} {n : Int} (h : mKf μ ν) (ht : mTx μ τ n) : mTx ν τ n := ⟨by rw [h.2 3 (by omega) (by decide)]; exact ht.1, fun i i0 i1 => by rw [h.1 134 (by decide)]; exact ht.2 i i0 i1⟩
theorem mTo_1 {μ : jm_M} {q e v : Int} (h7 : μ 133 7 = 1) (h6 : μ 133 6 = q) : mTo μ (1, q, e, v) :=
  ⟨h7, h6, fun z => i_ne (show (1 : Int) = 2 from z) (by decide), fun z => i_ne (show (1 : Int) = 3 from z) (by decide), fun z => i_ne (show (1 : Int) = 4 from z) (by decide), fun z => absurd (show (2 : Int) ≤ 1 from z) (by decide)⟩
theorem mTo_0 {μ : jm_M} {q e v : Int} (h7 : μ 133 7 = 0) (h6 : μ 133 6 = q) : mTo μ (0, q, e, v) :=
  ⟨h7, h6, fun z => i_ne (show (0 : Int) = 2 from z) (by decide), fun z => i_ne (show (0 : Int) = 3 from z) (by decide), fun z => i_ne (show (0 : Int) = 4 from z) (by decide), fun z => absurd (show (2 : Int) ≤ 0 from z) (by decide)⟩
theorem mTo_2 {μ : jm_M} {q e v : Int} (h7 : μ 133 7 = 2) (h6 : μ 133 6 = q) (h12 : μ 133 12 = sNa v) (h5 : μ 133 5 = e) : mTo μ (2, q, e, v) :=
  ⟨h7, h6, fun _ => h12, fun z => i_ne (show (2 : Int) = 3 from z) (by decide), fun z => i_ne (show (2 : Int) = 4 from z) (by decide), fun _ => h5⟩
theorem mTo_3 {μ : jm_M} {q e v : Int} (h7 : μ 133 7 = 3) (h6 : μ 133 6 = q) (h8 : μ 133 8 = v) (h5 : μ 133 5 = e) : mTo μ (3, q, e, v) :=
  ⟨h7, h6, fun z => i_ne (show (3 : Int) = 2 from z) (by decide), fun _ => h8, fun z => i_ne (show (3 : Int) = 4 from z) (by decide), fun _ => h5⟩
theorem mTo_4 {μ : jm_M} {q e v : Int} (h7 : μ 133 7 = 4) (h6 : μ 133 6 = q) (h9 : μ 133 9 = v) (h5 : μ 133 5 = e) : mTo μ (4, q, e, v) :=
  ⟨h7, h6, fun z => i_ne (show (4 : Int) = 2 from z) (by decide), fun z => i_ne (show (4 : Int) = 3 from z) (by decide), fun _ => h9, fun _ => h5⟩
section MT
variable {E : jm_E} {d : Nat} {μ : jm_M} {Q : Option jm_V → jm_M → Prop} {τ : Int → Int} {n lim : Int}
theorem c_M_isLetter {c : Int} (ht : sLt c = true → Q (some (jm_I 1)) μ) (hf : sLt c = false → Q (some (jm_I 0)) μ) : jc E m_X11_isLetter (d + 1) [jm_I c] μ Q := by
  have f : ¬ (97 ≤ c ∧ c ≤ 122) → Q (some (jm_I 0)) μ := fun q => hf (by cases hx : sLt c; rfl; exact absurd (sLt_iff.mp hx) q)
  exact e_X11_isLetter (fun _ => ⟨fun z => f (by omega), fun z => ⟨fun z2 => f (by omega), fun z2 => ht (sLt_iff.mpr (by omega))⟩⟩)
theorem c_M_isDigit {c : Int} (ht : sDg c = true → Q (some (jm_I 1)) μ) (hf : sDg c = false → Q (some (jm_I 0)) μ) : jc E m_X11_isDigit (d + 1) [jm_I c] μ Q := by
  have f : ¬ (48 ≤ c ∧ c ≤ 57) → Q (some (jm_I 0)) μ := fun q => hf (by cases hx : sDg c; rfl; exact absurd (sDg_iff.mp hx) q)
  exact e_X11_isDigit (fun _ => ⟨fun z => f (by omega), fun z => ⟨fun z2 => f (by omega), fun z2 => ht (sDg_iff.mpr (by omega))⟩⟩)
theorem c_M_byteAt {p : Int} (hX : sTx τ n) (ht : mTx μ τ n) (p0 : 0 ≤ p) (h : Q (some (jm_I (if p < n then τ p else 0))) μ) : jc E m_X11_byteAt (d + 1) [jm_R 133, jm_I p] μ Q := by
  have hn := hX.2.1
  refine e_X11_byteAt (fun _ => ?_)
  rw [ht.1]
  refine ⟨fun z => by rw [if_neg (by omega)] at h; exact h, fun z => ⟨by omega, ?_⟩⟩
  rw [if_pos (by omega)] at h
  rw [ht.2 p p0 (by omega)]
  exact h
/-- one sort of characters alone so far -/
def sGd (v2 a b : Int) : Int := if v2 = 1 then (if b = 0 then 1 else 0) else (if a = 0 then 1 else 0)
theorem sGd_1 {v2 : Int} {a b : Nat} (h : sGd v2 a b = 0) : sGd v2 ((a : Int) + 1) b = 0 ∧ sGd v2 a ((b : Int) + 1) = 0 := by
  unfold sGd at *
  by_cases q : v2 = 1
  · rw [if_pos q] at *
    rw [if_pos q, if_neg (show ¬ (b : Int) + 1 = 0 by omega)]
    exact ⟨h, rfl⟩
  · rw [if_neg q] at *
    rw [if_neg q, if_neg (show ¬ (a : Int) + 1 = 0 by omega)]
    exact ⟨rfl, h⟩
theorem sGd_2 {v2 : Int} {a b : Nat} (h : v2 ≠ 1) : sGd v2 ((a : Int) + 1) b = 0 := by
  unfold sGd
  rw [if_neg h, if_neg (show ¬ (a : Int) + 1 = 0 by omega)]
theorem sGd_3 {v2 : Int} {a b : Nat} (h : v2 = 1) (hz : ¬ sGd v2 a b = 0) : sGd v2 ((a : Int) + 1) b = 1 := by
  unfold sGd at *
  rw [if_pos h] at *
  by_cases q : (b : Int) = 0
  · rw [if_pos q]
  · rw [if_neg q] at hz; exact absurd rfl hz
theorem sGd_4 {v2 : Int} {a b : Nat} (h : v2 = 1) : sGd v2 a ((b : Int) + 1) = 0 := by
  unfold sGd
  rw [if_pos h, if_neg (show ¬ (b : Int) + 1 = 0 by omega)]
theorem sGd_5 {v2 : Int} {a b : Nat} (h : v2 ≠ 1) (hz : ¬ sGd v2 a b = 0) : sGd v2 a ((b : Int) + 1) = 1 := by
  unfold sGd at *
  rw [if_neg h] at *
  by_cases q : (a : Int) = 0
  · rw [if_pos q]
  · rw [if_neg q] at hz; exact absurd rfl hz
set_option maxHeartbeats 8000000 in
theorem r_M_run {q v2 : Int} (hX : sTx τ n) (ht : mTx μ τ n) (q0 : 0 ≤ q) (q1 : q < n) (hv : v2 = (if sLt (τ q) = true then 1 else 0)) (hc : (sLt (τ q) || sDg (τ q)) = true) (h : ∀ ν, mKf μ ν → mTo ν (sRk q (sRu τ n 940 q 0 0 0 0)) → Q none ν) (g5 : μ 133 5 = q) (g6 : μ 133 6 = q) (g12 : μ 133 12 = 0) (g8 : μ 133 8 = 0) : jg E m_X11_go (d + 1) 215 [some (jm_R 133), none, some (jm_I v2), some (jm_I 1), none] [] μ Q := by
  generalize hR : sRu τ n 940 q 0 0 0 0 = R at h
  have v01 : v2 = 0 ∨ v2 = 1 := by rw [hv]; split <;> simp
  have key : ∀ (f : Nat) (p : Int) (a b : Nat) (L V : Int) (ξ : jm_M), n - p ≤ f → p ≤ n → p = q + a + b → 0 ≤ L → L < ((32 ^ a : Nat) : Int) → 0 ≤ V → V < ((10 ^ b : Nat) : Int) → (q < p → v2 = 1 → 1 ≤ a) → (q < p → v2 = 0 → 1 ≤ b) → mKf μ ξ → ξ 133 5 = p → ξ 133 6 = q → (v2 = 1 → b = 0 → a ≤ 7 → ξ 133 12 = sNa L) → (v2 = 0 → a = 0 → b ≤ 3 → ξ 133 8 = V) → sRu τ n f p a b L V = R → jg E m_X11_go (d + 1) 215 [some (jm_R 133), none, some (jm_I v2), some (jm_I (sGd v2 a b)), none] [] ξ Q := by
    have fin : ∀ (p : Int) (a b : Nat) (L V : Int) (ξ : jm_M), q < p → p ≤ n → p = q + a + b → (v2 = 1 → 1 ≤ a) → (v2 = 0 → 1 ≤ b) → mKf μ ξ → ξ 133 5 = p → ξ 133 6 = q → (v2 = 1 → b = 0 → a ≤ 7 → ξ 133 12 = sNa L) → (v2 = 0 → a = 0 → b ≤ 3 → ξ 133 8 = V) → (p, (a : Int), (b : Int), L, V) = R →
        ((sGd v2 a b = 0 → Q none (jm_up ξ 133 7 1)) ∧ (¬ (sGd v2 a b = 0) → ((v2 = 0 → (((jm_wr (ξ 133 5 - ξ 133 6)) ≤ 3 → Q none (jm_up ξ 133 7 3)) ∧ (¬ ((jm_wr (ξ 133 5 - ξ 133 6)) ≤ 3) → Q none (jm_up ξ 133 7 1)))) ∧ (¬ (v2 = 0) → (((jm_wr (ξ 133 5 - ξ 133 6)) ≤ 7 → Q none (jm_up ξ 133 7 2)) ∧ (¬ ((jm_wr (ξ 133 5 - ξ 133 6)) ≤ 7) → Q none (jm_up ξ 133 7 1))))))) := by
      intro p a b L V ξ e0 e1 e2 e3 e4 e5 e6 e7 e8 e9 e10
      subst e10
      have hn := hX.2.1
      have out : ∀ s k, sRk q (p, (a : Int), (b : Int), L, V) = k → mTo (jm_up ξ 133 7 s) k → Q none (jm_up ξ 133 7 s) := fun s k e t => h _ (e5.trans (mKf_up (by omega))) (by rw [e]; exact t)
      have bad : ¬ ((b : Int) = 0 ∧ (a : Int) ≤ 7) → ¬ ((a : Int) = 0 ∧ (b : Int) ≤ 3) → Q none (jm_up ξ 133 7 1) := fun n1 n2 => out 1 (1, q, 0, 0) (by unfold sRk; rw [if_neg n1, if_neg n2]) (mTo_1 jm_up_at (by rw [jm_up_i (by decide)]; exact e7))
      rw [e6, e7, jm_wr_id (by omega) (by omega)]
      unfold sGd
      rcases v01 with z0 | z1
      · have b1 := e4 z0
        rw [if_neg (by omega)]
        refine ⟨fun z => ?_, fun z => ⟨fun _ => ⟨fun z2 => ?_, fun z2 => ?_⟩, fun y => absurd z0 y⟩⟩
        · have na : ¬ (a : Int) = 0 := fun y => by rw [if_pos y] at z; omega
          exact bad (by omega) (fun y => na y.1)
        · have ya : (a : Int) = 0 := by
            by_cases y : (a : Int) = 0
            · exact y
            · rw [if_neg y] at z; exact absurd rfl z
          exact out 3 (3, q, p, V) (by unfold sRk; rw [if_neg (show ¬ ((b : Int) = 0 ∧ (a : Int) ≤ 7) by omega), if_pos (show (a : Int) = 0 ∧ (b : Int) ≤ 3 by omega)]) (mTo_3 jm_up_at (by rw [jm_up_i (by decide)]; exact e7) (by rw [jm_up_i (by decide)]; exact e9 z0 (by omega) (by omega)) (by rw [jm_up_i (by decide)]; exact e6))
        · have ya : (a : Int) = 0 := by
            by_cases y : (a : Int) = 0
            · exact y
            · rw [if_neg y] at z; exact absurd rfl z
          exact bad (by omega) (by omega)
      · have a1 := e3 z1
        rw [if_pos z1]
        refine ⟨fun z => ?_, fun z => ⟨fun y => absurd y (by omega), fun _ => ⟨fun z2 => ?_, fun z2 => ?_⟩⟩⟩
        · have nb : ¬ (b : Int) = 0 := fun y => by rw [if_pos y] at z; omega
          exact bad (fun y => nb y.1) (by omega)
        · have yb : (b : Int) = 0 := by
            by_cases y : (b : Int) = 0
            · exact y
            · rw [if_neg y] at z; exact absurd rfl z
          exact out 2 (2, q, p, L) (by unfold sRk; rw [if_pos (show (b : Int) = 0 ∧ (a : Int) ≤ 7 by omega)]) (mTo_2 jm_up_at (by rw [jm_up_i (by decide)]; exact e7) (by rw [jm_up_i (by decide)]; exact e8 z1 (by omega) (by omega)) (by rw [jm_up_i (by decide)]; exact e6))
        · have yb : (b : Int) = 0 := by
            by_cases y : (b : Int) = 0
            · exact y
            · rw [if_neg y] at z; exact absurd rfl z
          exact bad (by omega) (by omega)
    have nz : ∀ p : Int, q ≤ p → sLt (if p < n then τ p else 0) = false → sDg (if p < n then τ p else 0) = false → q < p := fun p hp z1 z2 => by
      by_cases e : p = q
      · rw [e, if_pos q1] at z1 z2
        rw [z1, z2] at hc
        exact absurd hc (by decide)
      · omega
    intro f
    induction f with
    | zero =>
      intro p a b L V ξ g1 g2 g3 l0 l1 w0 w1 f1 f2 g4 k5 k6 k12 k8 g11
      have ht' := mTx_of g4 ht
      refine r_X11_go_215 (d := d + 1) ?_
      rw [k5]
      refine c_M_byteAt hX ht' (by omega) (jq_I ?_)
      have e0 : (if p < n then τ p else 0) = 0 := if_neg (by omega)
      have nzp := nz p (by omega)
      rw [e0] at nzp ⊢
      refine c_M_isLetter (fun z => absurd z (by decide)) (fun z1 => jq_Z (jb_f (by decide) ?_))
      rw [k5]
      refine c_M_byteAt hX ht' (by omega) (jq_I ?_)
      rw [e0]
      refine c_M_isDigit (fun z => absurd z (by decide)) (fun z2 => jq_Z (jb_t rfl ?_))
      have qp := nzp z1 z2
      exact fin p a b L V ξ qp g2 g3 (f1 qp) (f2 qp) g4 k5 k6 k12 k8 g11
    | succ f ih =>
      intro p a b L V ξ g1 g2 g3 l0 l1 w0 w1 f1 f2 g4 k5 k6 k12 k8 g11
      have ht' := mTx_of g4 ht
      have hn := hX.2.1
      rw [sRu] at g11
      refine r_X11_go_215 (d := d + 1) ?_
      rw [k5]
      refine c_M_byteAt hX ht' (by omega) (jq_I ?_)
      have nzp := nz p (by omega)
      have pl : sLt (if p < n then τ p else 0) = true → p < n := fun z => by
        by_cases y : p < n
        · exact y
        · rw [if_neg y] at z; exact absurd z (by decide)
      have pd : sDg (if p < n then τ p else 0) = true → p < n := fun z => by
        by_cases y : p < n
        · exact y
        · rw [if_neg y] at z; exact absurd z (by decide)
      -- the rest of a step
      have step : ∀ (c : Int), p < n → τ p = c → (0 ≤ c ∧ c ≤ 255) → ((sLt c = true ∧ sRu τ n f (p + 1) ((a : Int) + 1) b (L * 32 + (c - 96)) V = R) ∨ (sLt c = false ∧ sDg c = true ∧ sRu τ n f (p + 1) a ((b : Int) + 1) L (V * 10 + (c - 48)) = R)) → jg E m_X11_go (d + 1) 243 [some (jm_R 133), none, some (jm_I v2), some (jm_I (sGd v2 a b)), none] [] ξ Q := by
        intro c pn ec c255 hcase
        refine r_X11_go_243 (d := d + 1) ?_
        rw [k5]
        refine ⟨by omega, fun x hx => ?_⟩
        rw [ht'.2 p (by omega) pn, ec] at hx
        subst hx
        -- behind the word
        have tail : ∀ (v3 : Int) (ξ' : jm_M), mKf μ ξ' → ξ' 133 5 = p → ξ' 133 6 = q → ξ' 133 8 = ξ 133 8 → ((sLt x = true → v3 = sGd v2 ((a : Int) + 1) b ∧ (v2 = 1 → b = 0 → a + 1 ≤ 7 → ξ' 133 12 = sNa (L * 32 + (x - 96)))) ∧ (sLt x = false → v3 = sGd v2 a ((b : Int) + 1))) → jg E m_X11_go (d + 1) 307 [some (jm_R 133), none, some (jm_I v2), some (jm_I v3), some (jm_I x)] [] ξ' Q := by
          intro v3 ξ' t1 t2 t3 t4 t5
          refine r_X11_go_307 (d := d + 1) ?_
          have e2 : jm_wr (ξ' 133 5 - ξ' 133 6) = p - q := by rw [t2, t3]; exact jm_wr_id (by omega) (by omega)
          have e3 : jm_wr (ξ' 133 5 + 1) = p + 1 := by rw [t2]; exact jm_wr_id (by omega) (by omega)
          rw [e2, e3]
          have go : ∀ ξ2 : jm_M, mKf μ ξ2 → ξ2 133 6 = q → ξ2 133 12 = ξ' 133 12 → (v2 = 0 → sLt x = false → a = 0 → b + 1 ≤ 3 → ξ2 133 8 = V * 10 + (x - 48)) → ξ2 133 5 = p + 1 → jg E m_X11_go (d + 1) 215 [some (jm_R 133), none, some (jm_I v2), some (jm_I v3), none] [] ξ2 Q := by
            intro ξ2 u1 u2 u3 u4 u5
            rcases hcase with ⟨zl, hr⟩ | ⟨zl, zd, hr⟩
            · have hl := sLt_iff.mp zl
              have T := t5.1 zl
              have pw : ((32 ^ (a + 1) : Nat) : Int) = ((32 ^ a : Nat) : Int) * 32 := by rw [Nat.pow_succ, Int.natCast_mul]; rfl
              rw [T.1, show (a : Int) + 1 = ((a + 1 : Nat) : Int) by omega]
              refine ih (p + 1) (a + 1) b (L * 32 + (x - 96)) V ξ2 (by omega) (by omega) (by omega) (by omega) (by rw [pw]; omega) w0 w1 (fun _ _ => by omega) (fun _ z => ?_) u1 u5 u2 (fun y1 y2 y3 => by rw [u3]; exact T.2 y1 y2 y3) (fun _ y _ => by omega) (by rw [show ((a + 1 : Nat) : Int) = (a : Int) + 1 by omega]; exact hr)
              by_cases e : p = q
              · rw [← e, ec, if_pos zl] at hv; omega
              · exact f2 (by omega) z
            · have hl := sDg_iff.mp zd
              have T := t5.2 zl
              have pw : ((10 ^ (b + 1) : Nat) : Int) = ((10 ^ b : Nat) : Int) * 10 := by rw [Nat.pow_succ, Int.natCast_mul]; rfl
              rw [T, show (b : Int) + 1 = ((b + 1 : Nat) : Int) by omega]
              refine ih (p + 1) a (b + 1) L (V * 10 + (x - 48)) ξ2 (by omega) (by omega) (by omega) l0 l1 (by omega) (by rw [pw]; omega) (fun _ z => ?_) (fun _ _ => by omega) u1 u5 u2 (fun _ y _ => by omega) (fun y1 y2 y3 => u4 y1 zl y2 y3) (by rw [show ((b + 1 : Nat) : Int) = (b : Int) + 1 by omega]; exact hr)
              by_cases e : p = q
              · rw [← e, ec, if_neg (by rw [zl]; decide)] at hv; omega
              · exact f1 (by omega) z
          refine ⟨fun z => go _ (t1.trans (mKf_up (by omega))) (by rw [jm_up_i (by decide)]; exact t3) (jm_up_i (by decide)) (fun y1 y2 y3 y4 => by omega) jm_up_at, fun z x2 hx2 => go _ ((t1.trans (mKf_up (by omega))).trans (mKf_up (by omega))) (by rw [jm_up_i (by decide), jm_up_i (by decide)]; exact t3) (by rw [jm_up_i (by decide), jm_up_i (by decide)]) (fun y1 y2 y3 y4 => ?_) jm_up_at⟩
          rw [jm_up_i (by decide), jm_up_at, hx2, t4, k8 y1 y3 (by omega)]
          have p3 : 10 ^ b ≤ 10 ^ 3 := Nat.pow_le_pow_right (by decide) (by omega)
          have e10 : 10 ^ 3 = 1000 := rfl
          rw [jm_wr_id (a := 10 * V) (by omega) (by omega), jm_wr_id (a := 10 * V + x) (by omega) (by omega), jm_wr_id (by omega) (by omega)]
          omega
        have word : v2 = 1 → b = 0 → a + 1 ≤ 7 → sLt x = true → jm_wl (jm_wl (jm_wl (27 * ξ 133 12) + x) - 96) = sNa (L * 32 + (x - 96)) := fun y1 y2 y3 y4 => by
          have hl := sLt_iff.mp y4
          have p6 : 32 ^ a ≤ 32 ^ 6 := Nat.pow_le_pow_right (by decide) (by omega)
          have e6 : 32 ^ 6 = 1073741824 := rfl
          have sn := sNa_in l0
          rw [k12 y1 y2 (by omega), sNa_on l0 (by omega) (by omega) (by omega), jm_wl_id (a := 27 * sNa L) (by omega) (by omega), jm_wl_id (a := 27 * sNa L + x) (by omega) (by omega), jm_wl_id (by omega) (by omega)]
          omega
        have e2 : jm_wr (ξ 133 5 - ξ 133 6) = p - q := by rw [k5, k6]; exact jm_wr_id (by omega) (by omega)
        have no : (sLt x = true → sGd v2 ((a : Int) + 1) b = 0) → (sLt x = false → sGd v2 a ((b : Int) + 1) = 0) → jg E m_X11_go (d + 1) 271 [some (jm_R 133), none, some (jm_I v2), none, some (jm_I x)] [] ξ Q := fun y1 y2 => by
          refine r_X11_go_271 (d := d + 1) ?_
          rw [e2]
          have bz : v2 = 1 → sLt x = true → b ≠ 0 := fun z1 z2 z3 => by
            have := y1 z2
            unfold sGd at this
            rw [if_pos z1, if_pos (by omega)] at this
            omega
          exact ⟨fun z => tail 0 ξ g4 k5 k6 rfl ⟨fun z1 => ⟨(y1 z1).symm, fun z2 z3 _ => absurd z3 (bz z2 z1)⟩, fun z1 => (y2 z1).symm⟩, fun z x2 hx2 => tail 0 _ (g4.trans (mKf_up (by omega))) (by rw [jm_up_i (by decide)]; exact k5) (by rw [jm_up_i (by decide)]; exact k6) (jm_up_i (by decide)) ⟨fun z1 => ⟨(y1 z1).symm, fun z2 z3 _ => absurd z3 (bz z2 z1)⟩, fun z1 => (y2 z1).symm⟩⟩
        have yes : (sLt x = true → sGd v2 ((a : Int) + 1) b = 1) → (sLt x = false → sGd v2 a ((b : Int) + 1) = 1) → ((7 ≤ (jm_wr (ξ 133 5 - ξ 133 6)) → jg E m_X11_go (d + 1) 307 [some (jm_R 133), none, some (jm_I v2), some (jm_I 1), some (jm_I x)] [] ξ Q) ∧ (¬ (7 ≤ (jm_wr (ξ 133 5 - ξ 133 6))) → ∀ x9 : Int, x9 = jm_wl (jm_wl (jm_wl (27 * ξ 133 12) + x) - 96) → jg E m_X11_go (d + 1) 307 [some (jm_R 133), none, some (jm_I v2), some (jm_I 1), some (jm_I x)] [] (jm_up ξ 133 12 x9) Q)) := fun y1 y2 => by
          rw [e2]
          exact ⟨fun z => tail 1 ξ g4 k5 k6 rfl ⟨fun z1 => ⟨(y1 z1).symm, fun z2 z3 z4 => by omega⟩, fun z1 => (y2 z1).symm⟩, fun z x2 hx2 => tail 1 _ (g4.trans (mKf_up (by omega))) (by rw [jm_up_i (by decide)]; exact k5) (by rw [jm_up_i (by decide)]; exact k6) (jm_up_i (by decide)) ⟨fun z1 => ⟨(y1 z1).symm, fun z2 z3 z4 => by rw [jm_up_at, hx2]; exact word z2 z3 z4 z1⟩, fun z1 => (y2 z1).symm⟩⟩
        clear tail word hcase
        refine ⟨fun z => no (fun _ => (sGd_1 z).1) (fun _ => (sGd_1 z).2), fun z => c_M_isLetter (fun y => jq_Z ⟨fun z2 => no (fun _ => sGd_2 (fun q => z2 q.symm)) (fun y1 => absurd y (by rw [y1]; decide)), fun z2 => yes (fun _ => sGd_3 (Decidable.not_not.mp z2).symm z) (fun y1 => absurd y (by rw [y1]; decide))⟩) (fun y => jq_Z ⟨fun z2 => no (fun y1 => absurd y (by rw [y1]; decide)) (fun _ => sGd_4 (v01.resolve_left (fun q => z2 q.symm))), fun z2 => yes (fun y1 => absurd y (by rw [y1]; decide)) (fun _ => sGd_5 (by rw [(Decidable.not_not.mp z2).symm]; decide) z)⟩)⟩
      have tp : p < n → 0 ≤ τ p ∧ τ p ≤ 255 := fun y => hX.2.2 p (by omega) y
      refine c_M_isLetter (fun z1 => jq_Z (jb_t (by decide) ?_)) (fun z1 => jq_Z (jb_f (by decide) ?_))
      · have pn := pl z1
        rw [if_pos pn] at z1
        rw [if_pos pn, if_pos z1] at g11
        exact step (τ p) pn rfl (tp pn) (Or.inl ⟨z1, g11⟩)
      · rw [k5]
        refine c_M_byteAt hX ht' (by omega) (jq_I ?_)
        refine c_M_isDigit (fun z2 => jq_Z (jb_f (by decide) ?_)) (fun z2 => jq_Z (jb_t rfl ?_))
        · have pn := pd z2
          rw [if_pos pn] at z1 z2
          rw [if_pos pn, if_neg (by rw [z1]; decide), if_pos z2] at g11
          exact step (τ p) pn rfl (tp pn) (Or.inr ⟨z1, z2, g11⟩)
        · have qp := nzp z1 z2
          refine fin p a b L V ξ qp g2 g3 (f1 qp) (f2 qp) g4 k5 k6 k12 k8 ?_
          rw [← g11]
          by_cases pn : p < n
          · rw [if_pos pn] at z1 z2
            rw [if_pos pn, if_neg (by rw [z1]; decide), if_neg (by rw [z2]; decide)]
          · rw [if_neg pn]
  have := key 940 q 0 0 0 0 μ (by have := hX.2.1; omega) (by omega) (by omega) (by decide) (by decide) (by decide) (by decide) (fun z => by omega) (fun z => by omega) mKf.rfl g5 g6 (fun _ _ _ => by rw [g12]; rfl) (fun _ _ _ => g8) hR
  have e : sGd v2 ((0 : Nat) : Int) ((0 : Nat) : Int) = 1 := by unfold sGd; rcases v01 with z | z <;> rw [z] <;> rfl
  rw [e] at this
  exact this
end MT
