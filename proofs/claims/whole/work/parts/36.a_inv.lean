/-! what class and reference share between calls: its pieces, and the cells that each reads -/
def jW (D : sDk) : Prop := (∀ i, 0 ≤ i → i < D.1 0 → sNv (D.2.2.2.1 i)) ∧ ∀ i, 0 ≤ i → i < D.1 1 → sNv (D.2.2.2.2.1 i)
def jD (μ : jm_M) (D : sDk) : Prop := sVd D ∧ jW D ∧ cDk μ D ∧ mDk (μ 135) (μ 139) D
def jA1 (μ : jm_M) : Prop := ∃ (τ : Int → Int) (n : Int), sTx τ n ∧ tTx μ τ n ∧ mTp μ τ n
def jA2 (μ : jm_M) : Prop := μ 1 9 = μ 133 10
def jA3 (μ : jm_M) : Prop := μ 21 3 = μ 133 31
def jA4 (μ : jm_M) : Prop := μ 130 2 = μ 133 45
def jA5 (μ : jm_M) : Prop := ∃ S : Int, S ≤ 8 ∧ μ 121 6 = S ∧ μ 133 52 = S ∧ ∀ i, 0 ≤ i → i < S → μ 123 i = μ 162 i
def jA6 (μ : jm_M) : Prop := ∃ S : Int, S ≤ 24 ∧ μ 124 6 = S ∧ μ 133 44 = S ∧ ∀ f i : Int, 0 ≤ f → f ≤ 2 → 0 ≤ i → i < S → μ (127 + f) i = μ (156 + f) i
def jA7 (μ : jm_M) : Prop := ∀ f i : Int, 0 ≤ f → f ≤ 2 → 0 ≤ i → i < 24 → 0 ≤ μ (127 + f) i ∧ μ (127 + f) i < 1024
def jA8 (μ : jm_M) : Prop := ∃ S : Int, S ≤ 7 ∧ μ 130 6 = S ∧ μ 133 49 = S ∧ ∀ i, 0 ≤ i → i < S → μ 132 i = μ 160 i
def jA9 (μ : jm_M) (k : Int) : Prop := (μ (sIm k) 0 = 0 ∧ μ 142 k = 0) ∨ (μ (sIm k) 0 = 1 ∧ μ 142 k = 1 ∧ ∃ D : sDk, sVd D ∧ jW D ∧ cIm μ (sIm k) D ∧ mDk (fun i => μ 137 (1152 * k + i)) (fun i => μ 141 (18 * k + i)) D)
def jO (μ : jm_M) : Prop := jA1 μ ∧ jA2 μ ∧ jA3 μ ∧ jA4 μ ∧ jA5 μ ∧ jA6 μ ∧ jA7 μ ∧ jA8 μ ∧ jA9 μ 0 ∧ jA9 μ 1
def jI (μ : jm_M) : Prop := (∃ D, jD μ D) ∧ jO μ
section JI
variable {μ ν : jm_M} {D : sDk}
theorem tTl_ofc {ρ : sR} {w : Int → Int} {n : Nat} (hf : ∀ q i, (3 ≤ q ∧ q ≤ 11 ∨ (q = 21 ∧ 0 ≤ i ∧ i ≤ 2) ∨ 22 ≤ q ∧ q ≤ 36) → ν q i = μ q i) (h : tTl μ ρ w n) : tTl ν ρ w n := by
  obtain ⟨h1, p, hp, h0, h3, hW, hr, hb, hG, hc⟩ := h
  have e : ∀ q, (3 ≤ q ∧ q ≤ 11 ∨ 22 ≤ q ∧ q ≤ 36) → ν q = μ q := fun q hq => funext fun i => hf q i (by omega)
  exact ⟨tRu_of (fun q a b => e q (by omega)) h1, p, hp, h0, by rw [hf 21 0 (by omega)]; exact h3, hW, tRu_of (fun q a b => e q (by omega)) hr, ⟨by rw [hf 21 1 (by omega)]; exact hb.1, by rw [hf 21 2 (by omega)]; exact hb.2.1, fun f t f0 f5 t0 t1 => by rw [e (21 + 10 + f) (by omega)]; exact hb.2.2 f t f0 f5 t0 t1⟩, hG, hc⟩
theorem jD.of (h : jD μ D) (hf : ∀ q i, (3 ≤ q ∧ q ≤ 11 ∨ (q = 21 ∧ 0 ≤ i ∧ i ≤ 2) ∨ 22 ≤ q ∧ q ≤ 36 ∨ 69 ≤ q ∧ q ≤ 71 ∨ 75 ≤ q ∧ q ≤ 78 ∨ q = 135 ∨ q = 139) → ν q i = μ q i) : jD ν D := by
  obtain ⟨h1, h2, ⟨a1, a2, a3, a4⟩, h4⟩ := h
  have e : ∀ q, (3 ≤ q ∧ q ≤ 11 ∨ 69 ≤ q ∧ q ≤ 71 ∨ 75 ≤ q ∧ q ≤ 78 ∨ q = 135 ∨ q = 139) → ν q = μ q := fun q hq => funext fun i => hf q i (by omega)
  refine ⟨h1, h2, ⟨tTb_of (fun q a b => e q (by omega)) a1, tTl_ofc (fun q i hq => hf q i (by omega)) a2, tMn_of (fun q a b => e q (by omega)) a3, tSn_of (fun q a b => e q (by omega)) a4⟩, ?_⟩
  rw [e 135 (by decide), e 139 (by decide)]
  exact h4
theorem mSn_ext {f f' : Int → Int} {P : sPg} (h : ∀ i, 912 ≤ i → f' i = f i) (hs : mSn (fun _ => f) P) : mSn (fun _ => f') P := by
  intro i hi
  obtain ⟨a, b, c, d, e⟩ := hs i hi
  exact ⟨(h _ (by omega)).trans a, fun z => (h _ (by omega)).trans (b z), fun z => ⟨(h _ (by omega)).trans (c z).1, (h _ (by omega)).trans (c z).2⟩, fun z z2 => (h _ (by omega)).trans (d z z2), fun z => ⟨(h _ (by omega)).trans (e z).1, (h _ (by omega)).trans (e z).2⟩⟩
/-- the same desk, its talk laid anew -/
theorem jD.tl (h : jD μ D) (hf : ∀ q i, (3 ≤ q ∧ q ≤ 11 ∨ 69 ≤ q ∧ q ≤ 71 ∨ 75 ≤ q ∧ q ≤ 78 ∨ q = 135 ∨ q = 139) → ν q i = μ q i) (ht : tTl ν D.1 D.2.1 D.2.2.1) : jD ν D := by
  obtain ⟨h1, h2, ⟨a1, a2, a3, a4⟩, h4⟩ := h
  have e : ∀ q, (3 ≤ q ∧ q ≤ 11 ∨ 69 ≤ q ∧ q ≤ 71 ∨ 75 ≤ q ∧ q ≤ 78 ∨ q = 135 ∨ q = 139) → ν q = μ q := fun q hq => funext fun i => hf q i (by omega)
  refine ⟨h1, h2, ⟨tTb_of (fun q a b => e q (by omega)) a1, ht, tMn_of (fun q a b => e q (by omega)) a3, tSn_of (fun q a b => e q (by omega)) a4⟩, ?_⟩
  rw [e 135 (by decide), e 139 (by decide)]
  exact h4
theorem jD.ok (h : jD μ D) : mOK μ D.1 D.2.1 D.2.2.1 := ⟨h.1.1, ⟨h.2.2.2.1, h.2.2.2.2.1, h.2.2.2.2.2.1⟩, h.1.2.1, h.1.2.2.1⟩
theorem jD.t (h : jD μ D) : tTl μ D.1 D.2.1 D.2.2.1 := h.2.2.1.2.1
theorem jD.mn (h : jD μ D) : mMn μ D.2.2.2.2.2.1 D.2.2.2.2.2.2.1 := ⟨h.2.2.2.2.2.2.1, h.2.2.2.2.2.2.2.1⟩
theorem jD.tmn (h : jD μ D) : tMn μ 69 D.2.2.2.2.2.1 D.2.2.2.2.2.2.1 := h.2.2.1.2.2.1
theorem jD.tt (h : jD μ D) : mTt μ (D.1, D.2.2.2.1, D.2.2.2.2.1) := by
  obtain ⟨h1, h2, -, h4⟩ := h
  refine ⟨h4.1, fun i i0 i1 => ⟨h2.1 i i0 i1, ?_⟩, fun i i0 i1 => ⟨h2.2 i i0 i1, h4.2.2.2.2.2.2.2.2.2 i i0 i1⟩, h1.1⟩
  rw [Int.zero_add]
  exact h4.2.2.2.2.2.2.2.2.1 i i0 i1
theorem jD.talk {w : Int → Int} {n : Nat} (h : jD μ D) (hf : ∀ q i, (3 ≤ q ∧ q ≤ 11 ∨ 69 ≤ q ∧ q ≤ 71 ∨ 75 ≤ q ∧ q ≤ 78 ∨ (q = 135 ∧ (i < 60 ∨ 861 ≤ i)) ∨ q = 139) → ν q i = μ q i) (ht : tTl ν D.1 w n) (hm : mOK ν D.1 w n) : jD ν (D.1, w, n, D.2.2.2) := by
  obtain ⟨h1, h2, ⟨a1, a2, a3, a4⟩, b1, b2, b3, b4, b5, b6, b7, b8, b9, b10⟩ := h
  obtain ⟨m0, ⟨m1, m2, m3⟩, hn, hv⟩ := hm
  have e : ∀ q, (3 ≤ q ∧ q ≤ 11 ∨ 69 ≤ q ∧ q ≤ 71 ∨ 75 ≤ q ∧ q ≤ 78 ∨ q = 139) → ν q = μ q := fun q hq => funext fun i => hf q i (by omega)
  have g : ∀ i, 861 ≤ i → ν 135 i = μ 135 i := fun i hi => hf 135 i (by omega)
  refine ⟨⟨h1.1, hn, hv, h1.2.2.2⟩, h2, ⟨tTb_of (fun q a b => e q (by omega)) a1, ht, tMn_of (fun q a b => e q (by omega)) a3, tSn_of (fun q a b => e q (by omega)) a4⟩, m1, m2, m3, by rw [g 861 (by omega)]; exact b4, fun i i0 i1 => by rw [g (862 + i) (by omega)]; exact b5 i i0 i1, by rw [g 910 (by omega)]; exact b6, fun z => by rw [g 911 (by omega)]; exact b7 z, mSn_ext (fun i hi => g i (by omega)) b8, ?_⟩
  · rw [e 139 (by decide)]
    exact ⟨b9, b10⟩
theorem jD.mins {mn : Nat} {mt : Int → Int} (h : jD μ D) (hf : ∀ q i, (3 ≤ q ∧ q ≤ 11 ∨ (q = 21 ∧ 0 ≤ i ∧ i ≤ 2) ∨ 22 ≤ q ∧ q ≤ 36 ∨ 75 ≤ q ∧ q ≤ 78 ∨ (q = 135 ∧ (i < 861 ∨ 910 ≤ i)) ∨ q = 139) → ν q i = μ q i) (ht : tMn ν 69 mn mt) (hm : mMn ν mn mt) (hv : sVM D.1 mn mt) : jD ν (D.1, D.2.1, D.2.2.1, D.2.2.2.1, D.2.2.2.2.1, mn, mt, D.2.2.2.2.2.2.2) := by
  obtain ⟨h1, h2, ⟨a1, a2, a3, a4⟩, b1, b2, b3, b4, b5, b6, b7, b8, b9, b10⟩ := h
  have hn : D.2.2.1 ≤ 400 := h1.2.1
  have e : ∀ q, (3 ≤ q ∧ q ≤ 11 ∨ 75 ≤ q ∧ q ≤ 78 ∨ q = 139) → ν q = μ q := fun q hq => funext fun i => hf q i (by omega)
  have g : ∀ i, i < 861 ∨ 910 ≤ i → ν 135 i = μ 135 i := fun i hi => hf 135 i (by omega)
  refine ⟨⟨h1.1, h1.2.1, h1.2.2.1, hv, h1.2.2.2.2⟩, h2, ⟨tTb_of (fun q a b => e q (by omega)) a1, tTl_ofc (fun q i hq => hf q i (by omega)) a2, ht, tSn_of (fun q a b => e q (by omega)) a4⟩, fun i i0 i1 => by rw [g i (by omega)]; exact b1 i i0 i1, by rw [g 60 (by omega)]; exact b2, fun i i0 i1 => by rw [g (61 + i) (by have : i < 2 * (D.2.2.1 : Int) := i1; omega)]; exact b3 i i0 i1, hm.1, hm.2, by rw [g 910 (by omega)]; exact b6, fun z => by rw [g 911 (by omega)]; exact b7 z, mSn_ext (fun i hi => g i (by omega)) b8, ?_⟩
  · rw [e 139 (by decide)]
    exact ⟨b9, b10⟩
theorem jD.sent {P : sPg} (h : jD μ D) (hf : ∀ q i, (3 ≤ q ∧ q ≤ 11 ∨ (q = 21 ∧ 0 ≤ i ∧ i ≤ 2) ∨ 22 ≤ q ∧ q ≤ 36 ∨ 69 ≤ q ∧ q ≤ 71 ∨ (q = 135 ∧ i < 910) ∨ q = 139) → ν q i = μ q i) (ht : tSn ν 75 P) (hm : mSn ν P) (h0 : ν 135 910 = 1) (h9 : ν 135 911 = (P.2.2.2 : Int) - 1) (hp : sWp P) (hz : 0 < P.2.2.2) (hr : sRt P.1 P.2.2.2 = [P.2.2.2 - 1]) : jD ν (D.1, D.2.1, D.2.2.1, D.2.2.2.1, D.2.2.2.2.1, D.2.2.2.2.2.1, D.2.2.2.2.2.2.1, P) := by
  obtain ⟨h1, h2, ⟨a1, a2, a3, a4⟩, b1, b2, b3, b4, b5, b6, b7, b8, b9, b10⟩ := h
  have hn : D.2.2.1 ≤ 400 := h1.2.1
  have hn2 : D.2.2.2.2.2.1 ≤ 24 := h1.2.2.2.1.1
  have e : ∀ q, (3 ≤ q ∧ q ≤ 11 ∨ 69 ≤ q ∧ q ≤ 71 ∨ q = 139) → ν q = μ q := fun q hq => funext fun i => hf q i (by omega)
  have g : ∀ i, i < 910 → ν 135 i = μ 135 i := fun i hi => hf 135 i (by omega)
  refine ⟨⟨h1.1, h1.2.1, h1.2.2.1, h1.2.2.2.1, hp, fun _ => hr⟩, h2, ⟨tTb_of (fun q a b => e q (by omega)) a1, tTl_ofc (fun q i hq => hf q i (by omega)) a2, tMn_of (fun q a b => e q (by omega)) a3, ht⟩, fun i i0 i1 => by rw [g i (by omega)]; exact b1 i i0 i1, by rw [g 60 (by omega)]; exact b2, fun i i0 i1 => by rw [g (61 + i) (by have : i < 2 * (D.2.2.1 : Int) := i1; omega)]; exact b3 i i0 i1, by rw [g 861 (by omega)]; exact b4, fun i i0 i1 => by rw [g (862 + i) (by have : i < 2 * (D.2.2.2.2.2.1 : Int) := i1; omega)]; exact b5 i i0 i1, ?_, fun _ => h9, hm, ?_⟩
  · rw [if_neg (show ¬ (P.2.2.2 = 0) by omega)]; exact h0
  · rw [e 139 (by decide)]
    exact ⟨b9, b10⟩
theorem jA1.of (h : jA1 μ) (hf : ∀ q i, (q = 1 ∧ i = 1 ∨ q = 2 ∨ q = 133 ∧ i = 2 ∨ q = 134) → ν q i = μ q i) : jA1 ν := by
  obtain ⟨τ, n, h1, h2, h3⟩ := h
  exact ⟨τ, n, h1, ⟨by rw [hf 1 1 (by omega)]; exact h2.1, fun i i0 i1 => by rw [hf 2 i (by omega)]; exact h2.2 i i0 i1⟩, ⟨by rw [hf 133 2 (by omega)]; exact h3.1, fun i i0 i1 => by rw [hf 134 i (by omega)]; exact h3.2 i i0 i1⟩⟩
theorem jA1.z (h1 : ν 1 1 = 0) (h2 : ν 133 2 = 0) : jA1 ν := ⟨fun _ => 0, 0, ⟨by decide, by decide, fun i i0 i1 => absurd i1 (by omega)⟩, ⟨h1, fun i i0 i1 => absurd i1 (by omega)⟩, ⟨h2, fun i i0 i1 => absurd i1 (by omega)⟩⟩
theorem jA2.of (h : jA2 μ) (hf : ∀ q i, (q = 1 ∧ i = 9 ∨ q = 133 ∧ i = 10) → ν q i = μ q i) : jA2 ν := by
  unfold jA2 at *; rw [hf 1 9 (by omega), hf 133 10 (by omega)]; exact h
theorem jA3.of (h : jA3 μ) (hf : ∀ q i, (q = 21 ∧ i = 3 ∨ q = 133 ∧ i = 31) → ν q i = μ q i) : jA3 ν := by
  unfold jA3 at *; rw [hf 21 3 (by omega), hf 133 31 (by omega)]; exact h
theorem jA4.of (h : jA4 μ) (hf : ∀ q i, (q = 130 ∧ i = 2 ∨ q = 133 ∧ i = 45) → ν q i = μ q i) : jA4 ν := by
  unfold jA4 at *; rw [hf 130 2 (by omega), hf 133 45 (by omega)]; exact h
theorem jA5.of (h : jA5 μ) (hf : ∀ q i, (q = 121 ∧ i = 6 ∨ q = 123 ∨ q = 133 ∧ i = 52 ∨ q = 162) → ν q i = μ q i) : jA5 ν := by
  obtain ⟨S, h1, h2, h3, h4⟩ := h
  exact ⟨S, h1, by rw [hf 121 6 (by omega)]; exact h2, by rw [hf 133 52 (by omega)]; exact h3, fun i i0 i1 => by rw [hf 123 i (by omega), hf 162 i (by omega)]; exact h4 i i0 i1⟩
theorem jA6.of (h : jA6 μ) (hf : ∀ q i, (q = 124 ∧ i = 6 ∨ 127 ≤ q ∧ q ≤ 129 ∨ q = 133 ∧ i = 44 ∨ 156 ≤ q ∧ q ≤ 158) → ν q i = μ q i) : jA6 ν := by
  obtain ⟨S, h1, h2, h3, h4⟩ := h
  exact ⟨S, h1, by rw [hf 124 6 (by omega)]; exact h2, by rw [hf 133 44 (by omega)]; exact h3, fun f i f0 f1 i0 i1 => by rw [hf (127 + f) i (by omega), hf (156 + f) i (by omega)]; exact h4 f i f0 f1 i0 i1⟩
theorem jA7.of (h : jA7 μ) (hf : ∀ q i, (127 ≤ q ∧ q ≤ 129) → ν q i = μ q i) : jA7 ν := fun f i f0 f1 i0 i1 => by rw [hf (127 + f) i (by omega)]; exact h f i f0 f1 i0 i1
theorem jA8.of (h : jA8 μ) (hf : ∀ q i, (q = 130 ∧ i = 6 ∨ q = 132 ∨ q = 133 ∧ i = 49 ∨ q = 160) → ν q i = μ q i) : jA8 ν := by
  obtain ⟨S, h1, h2, h3, h4⟩ := h
  exact ⟨S, h1, by rw [hf 130 6 (by omega)]; exact h2, by rw [hf 133 49 (by omega)]; exact h3, fun i i0 i1 => by rw [hf 132 i (by omega), hf 160 i (by omega)]; exact h4 i i0 i1⟩
theorem jA9.of {k : Int} (h : jA9 μ k) (hf : ∀ q i, (sIm k ≤ q ∧ q ≤ sIm k + 18 ∨ q = 137 ∧ 1152 * k ≤ i ∧ i < 1152 * k + 1152 ∨ q = 141 ∧ 18 * k ≤ i ∧ i < 18 * k + 18 ∨ q = 142 ∧ i = k) → ν q i = μ q i) : jA9 ν k := by
  have e : ∀ q, sIm k ≤ q → q ≤ sIm k + 18 → ν q = μ q := fun q h0 h1 => funext fun i => hf q i (Or.inl ⟨h0, h1⟩)
  have e0 := e (sIm k) (by omega) (by omega)
  have e1 := hf 142 k (Or.inr (Or.inr (Or.inr ⟨rfl, rfl⟩)))
  rcases h with ⟨h1, h2⟩ | ⟨h1, h2, D, h3, h4, h5, h6⟩
  · exact Or.inl ⟨by rw [e0]; exact h1, by rw [e1]; exact h2⟩
  · refine Or.inr ⟨by rw [e0]; exact h1, by rw [e1]; exact h2, D, h3, h4, cIm_of e h5, ?_⟩
    exact mDk_ext h3.1 h3.2.1 h3.2.2.2.1.1 h3.2.2.2.2.1 (fun i i0 i1 => hf 137 _ (Or.inr (Or.inl ⟨rfl, by omega, by omega⟩))) (fun i i0 i1 => hf 141 _ (Or.inr (Or.inr (Or.inl ⟨rfl, by omega, by omega⟩)))) h6
theorem jO.of (h : jO μ) (a1 : ν 1 1 = μ 1 1) (a2 : ν 1 9 = μ 1 9) (a3 : ν 2 = μ 2) (a4 : ν 21 3 = μ 21 3) (a5 : ∀ q, 83 ≤ q → q ≤ 120 → ν q = μ q) (a6 : ν 121 6 = μ 121 6) (a7 : ν 123 = μ 123) (a8 : ν 124 6 = μ 124 6) (a9 : ∀ q, 127 ≤ q → q ≤ 129 → ν q = μ q) (a10 : ν 130 2 = μ 130 2) (a11 : ν 130 6 = μ 130 6) (a12 : ν 132 = μ 132) (b : ∀ i, (i = 2 ∨ i = 10 ∨ i = 31 ∨ i = 44 ∨ i = 45 ∨ i = 49 ∨ i = 52) → ν 133 i = μ 133 i) (b1 : ν 134 = μ 134) (b2 : ν 137 = μ 137) (b3 : ν 141 = μ 141) (b4 : ν 142 = μ 142) (b5 : ∀ q, 156 ≤ q → q ≤ 158 → ν q = μ q) (b6 : ν 160 = μ 160) (b7 : ν 162 = μ 162) : jO ν := by
  obtain ⟨h1, h2, h3, h4, h5, h6, h7, h8, h9, h10⟩ := h
  refine ⟨h1.of (fun q i hq => ?_), h2.of (fun q i hq => ?_), h3.of (fun q i hq => ?_), h4.of (fun q i hq => ?_), h5.of (fun q i hq => ?_), h6.of (fun q i hq => ?_), h7.of (fun q i hq => by rw [a9 q hq.1 hq.2]), h8.of (fun q i hq => ?_), h9.of (fun q i hq => ?_), h10.of (fun q i hq => ?_)⟩
  · rcases hq with ⟨rfl, rfl⟩ | rfl | ⟨rfl, rfl⟩ | rfl
    · exact a1
    · rw [a3]
    · exact b _ (by decide)
    · rw [b1]
  · rcases hq with ⟨rfl, rfl⟩ | ⟨rfl, rfl⟩
    · exact a2
    · exact b _ (by decide)
  · rcases hq with ⟨rfl, rfl⟩ | ⟨rfl, rfl⟩
    · exact a4
    · exact b _ (by decide)
  · rcases hq with ⟨rfl, rfl⟩ | ⟨rfl, rfl⟩
    · exact a10
    · exact b _ (by decide)
  · rcases hq with ⟨rfl, rfl⟩ | rfl | ⟨rfl, rfl⟩ | rfl
    · exact a6
    · rw [a7]
    · exact b _ (by decide)
    · rw [b7]
  · rcases hq with ⟨rfl, rfl⟩ | hq | ⟨rfl, rfl⟩ | hq
    · exact a8
    · rw [a9 q hq.1 hq.2]
    · exact b _ (by decide)
    · rw [b5 q hq.1 hq.2]
  · rcases hq with ⟨rfl, rfl⟩ | rfl | ⟨rfl, rfl⟩ | rfl
    · exact a11
    · rw [a12]
    · exact b _ (by decide)
    · rw [b6]
  · rcases hq with hq | ⟨rfl, -, -⟩ | ⟨rfl, -, -⟩ | ⟨rfl, rfl⟩
    · have s0 : sIm 0 = 83 := rfl
      rw [a5 q (by omega) (by omega)]
    · rw [b2]
    · rw [b3]
    · rw [b4]
  · rcases hq with hq | ⟨rfl, -, -⟩ | ⟨rfl, -, -⟩ | ⟨rfl, rfl⟩
    · have s1 : sIm 1 = 102 := rfl
      rw [a5 q (by omega) (by omega)]
    · rw [b2]
    · rw [b3]
    · rw [b4]
/-- the reference's pages, and its paths, are its own -/
theorem jO.q (h : jO μ) (hq : mQP μ ν) : jO ν := by
  have e : ∀ q, q ≠ 133 → q ≠ 161 → q < 143 ∨ 151 < q → ν q = μ q := hq.1
  exact h.of (by rw [e 1 (by decide) (by decide) (by decide)]) (by rw [e 1 (by decide) (by decide) (by decide)]) (e 2 (by decide) (by decide) (by decide)) (by rw [e 21 (by decide) (by decide) (by decide)]) (fun q q0 q1 => e q (by omega) (by omega) (by omega)) (by rw [e 121 (by decide) (by decide) (by decide)]) (e 123 (by decide) (by decide) (by decide)) (by rw [e 124 (by decide) (by decide) (by decide)]) (fun q q0 q1 => e q (by omega) (by omega) (by omega)) (by rw [e 130 (by decide) (by decide) (by decide)]) (by rw [e 130 (by decide) (by decide) (by decide)]) (e 132 (by decide) (by decide) (by decide)) (fun i hi => hq.2 i (by omega)) (e 134 (by decide) (by decide) (by decide)) (e 137 (by decide) (by decide) (by decide)) (e 141 (by decide) (by decide) (by decide)) (e 142 (by decide) (by decide) (by decide)) (fun q q0 q1 => e q (by omega) (by omega) (by omega)) (e 160 (by decide) (by decide) (by decide)) (e 162 (by decide) (by decide) (by decide))
theorem jO.cE (h : jO μ) (hq : cE μ ν) : jO ν := by
  obtain ⟨e, h1, h2, h3, h4, h5, h6, h7, h8, h9⟩ := hq
  exact h.of h1 h3 (e 2 (by decide)) h5 (fun q q0 q1 => e q (by omega)) h6 (e 123 (by decide)) h7 (fun q q0 q1 => e q (by omega)) h8 h9 (e 132 (by decide)) (fun i _ => by rw [e 133 (by decide)]) (e 134 (by decide)) (e 137 (by decide)) (e 141 (by decide)) (e 142 (by decide)) (fun q q0 q1 => e q (by omega)) (e 160 (by decide)) (e 162 (by decide))
theorem jD.q (h : jD μ D) (hq : mQP μ ν) : jD ν D := h.of (fun q i hx => by rw [hq.1 q (by omega) (by omega) (by omega)])
theorem jD.cE (h : jD μ D) (hq : cE μ ν) (ht : tTl ν D.1 D.2.1 D.2.2.1) : jD ν D := h.tl (fun q i hx => by rw [hq.1 q (by omega)]) ht
theorem jI.q (h : jI μ) (hq : mQP μ ν) : jI ν := by
  obtain ⟨⟨D, h1⟩, h2⟩ := h
  exact ⟨⟨D, h1.q hq⟩, h2.q hq⟩
theorem jI.m (h : jI μ) (hq : mQ μ ν) : jI ν := h.q (mQP_of hq)
theorem mQ_up {v : Int} : mQ μ (jm_up μ 133 0 v) := ⟨fun p hp _ => jm_up_ne hp, fun i hi => jm_up_i hi⟩
theorem jI.up {v : Int} (h : jI μ) : jI (jm_up μ 133 0 v) := h.m mQ_up
end JI
