theorem jm_up_oi {m : jm_M} {p i v q j : Int} (h : j ≠ i) : jm_up m p i v q j = m q j := jm_up_i h
/-! fillings of torn minutes: the final boards, in their order -/
def sFl {α : Type} (g : Int → List α) : Nat → Int → List α
  | 0, _ => []
  | m + 1, k => g k ++ sFl g m (k + 1)
def sFi (ρ : sR) (T : Int → Int) : Nat → sB → List sB
  | 0, b => [b]
  | r + 1, b => sFl (fun a => if T (2 * b.2.1) = -1 ∨ T (2 * b.2.1) = a then
      sFl (fun k => if (T (2 * b.2.1 + 1) = -1 ∨ T (2 * b.2.1 + 1) = k) ∧ sWr ρ b a k = 0 then sFi ρ T r (sPush ρ b a k) else []) (ρ 1).toNat 0 else []) (ρ 0).toNat 0
def sMk (g : sB → Int) : List sB → Int → Int
  | [], m => m
  | b :: l, m => sMk g l (sor m (g b))
theorem sMk_app (g : sB → Int) : ∀ (l l' : List sB) (m : Int), sMk g (l ++ l') m = sMk g l' (sMk g l m)
  | [], _, _ => rfl
  | b :: l, l', m => sMk_app g l l' (sor m (g b))
theorem sMk_lt {g : sB → Int} : ∀ (l : List sB) (m : Int), (∀ b, b ∈ l → 0 ≤ g b ∧ g b < 10) → 0 ≤ m → m < 1024 → 0 ≤ sMk g l m ∧ sMk g l m < 1024
  | [], _, _, h0, h1 => ⟨h0, h1⟩
  | b :: l, m, h, h0, h1 => by
    have hb := h b (List.mem_cons_self)
    have hs := sor_lt (m := m) (k := g b) (n := 10) h0 (by omega) hb.1 (by omega)
    exact sMk_lt l _ (fun c hc => h c (List.mem_cons_of_mem _ hc)) hs.1 (by omega)
/-- what is marked of a whole: who, kind, state of a word -/
def sFd (ρ : sR) (f i : Int) (b : sB) : Int := if f = 0 then b.1 0 i else if f = 1 then b.1 1 i else sSt ρ b i
theorem sSt_in {ρ : sR} {b : sB} {t : Int} (hG : sGB ρ b) (t0 : 0 ≤ t) (t1 : t < b.2.1) : 0 ≤ sSt ρ b t ∧ sSt ρ b t ≤ 8 := by
  have h := hG.2.2.2.2 t t0 t1
  unfold sSt
  split
  · decide
  · obtain ⟨_, _, _, _, _, h1, h2, h3⟩ := h
    by_cases c1 : sDo ρ (b.1 1 t) = 1
    · have := h1 c1; omega
    · by_cases c2 : sDo ρ (b.1 1 t) = 2
      · have := h2 c2; omega
      · have := h3 c1 c2; omega
theorem sFd_in {ρ : sR} {b : sB} {f t : Int} (hW : sWR ρ) (hG : sGB ρ b) (t0 : 0 ≤ t) (t1 : t < b.2.1) : 0 ≤ sFd ρ f t b ∧ sFd ρ f t b < 10 := by
  have h := hG.2.2.2.2 t t0 t1
  have hs := sSt_in hG t0 t1
  have hP := hW.2.1
  have hK := hW.2.2.2.1
  unfold sFd
  split
  · omega
  · split <;> omega
theorem sFl_mem {α : Type} {g : Int → List α} {P : α → Prop} : ∀ (m : Nat) (k : Int), (∀ j, k ≤ j → j < k + m → ∀ x, x ∈ g j → P x) → ∀ x, x ∈ sFl g m k → P x
  | 0, _, _, x, h => by cases h
  | m + 1, k, hf, x, h => by
    have h' : x ∈ g k ++ sFl g m (k + 1) := h
    rcases List.mem_append.mp h' with h1 | h1
    · exact hf k (by omega) (by omega) x h1
    · exact sFl_mem m (k + 1) (fun j j0 j1 => hf j (by omega) (by omega)) x h1
theorem sFi_good {ρ : sR} {T : Int → Int} (hW : sWR ρ) : ∀ (r : Nat) (b : sB), sGB ρ b → b.2.1 + r ≤ 400 → ∀ x, x ∈ sFi ρ T r b → sGB ρ x ∧ x.2.1 = b.2.1 + r
  | 0, b, hG, hn, x, h => by
    have : x = b := by simpa [sFi] using h
    subst this
    exact ⟨hG, by omega⟩
  | r + 1, b, hG, hn, x, h => by
    rw [sFi] at h
    have hP := hW.1
    have hK := hW.2.2.1
    refine sFl_mem (P := fun x => sGB ρ x ∧ x.2.1 = b.2.1 + (r + 1 : Nat)) (ρ 0).toNat 0 (fun a a0 a1 y hy => ?_) x h
    split at hy
    · refine sFl_mem (P := fun x => sGB ρ x ∧ x.2.1 = b.2.1 + (r + 1 : Nat)) (ρ 1).toNat 0 (fun k k0 k1 z hz => ?_) y hy
      split at hz
      · rename_i hc
        have nb := (sPush_c (ρ := ρ) (b := b) (who := a) (k := k) rfl).1
        have := sFi_good (T := T) hW r (sPush ρ b a k) (sGB_push hW hG (by omega) a0 (by omega) k0 (by omega) hc.2) (by omega) z hz
        exact ⟨this.1, by omega⟩
      · cases hz
    · cases hy
/-- the reference before and behind fillings -/
def mFs (ρ : sR) (T : Int → Int) (N : Nat) (b : sB) (ξ : jm_M) : Prop := mRu ξ 0 ρ ∧ mBd ξ 0 b ∧ ξ 135 0 = ρ 0 ∧ ξ 135 1 = ρ 1 ∧ ξ 133 42 = N ∧ (∀ i : Int, 0 ≤ i → i < 2 * N → ξ 152 i = T i) ∧ 0 ≤ ξ 133 43 ∧ ∀ f i : Int, 0 ≤ f → f ≤ 2 → 0 ≤ i → i < 24 → 0 ≤ ξ (153 + f) i ∧ ξ (153 + f) i < 1024
def mFg (ρ : sR) (N : Nat) (R : List sB) (ξ ν : jm_M) : Prop := (∀ p, p ≠ 133 → p < 144 ∨ (151 < p ∧ p < 153) ∨ 155 < p → ν p = ξ p) ∧ (∀ i, i ≠ 43 → ν 133 i = ξ 133 i) ∧ ν 133 43 = ξ 133 43 + R.length ∧ (∀ f i : Int, 0 ≤ f → f ≤ 2 → 0 ≤ i → i < N → ν (153 + f) i = sMk (sFd ρ f i) R (ξ (153 + f) i)) ∧ ∀ f i : Int, 0 ≤ f → f ≤ 2 → (N : Int) ≤ i → ν (153 + f) i = ξ (153 + f) i
theorem mFg.trans {ρ : sR} {N : Nat} {R S : List sB} {a b c : jm_M} (h1 : mFg ρ N R a b) (h2 : mFg ρ N S b c) : mFg ρ N (R ++ S) a c := by
  obtain ⟨p1, p2, p3, p4, p5⟩ := h1
  obtain ⟨q1, q2, q3, q4, q5⟩ := h2
  refine ⟨fun p hp hq => (q1 p hp hq).trans (p1 p hp hq), fun i hi => (q2 i hi).trans (p2 i hi), ?_, fun f i f0 f1 i0 i1 => ?_, fun f i f0 f1 hi => (q5 f i f0 f1 hi).trans (p5 f i f0 f1 hi)⟩
  · rw [q3, p3, List.length_append]; omega
  · rw [q4 f i f0 f1 i0 i1, p4 f i f0 f1 i0 i1, sMk_app]
theorem mFg_fr {ρ : sR} {N : Nat} {a b : jm_M} (h : mFr 0 a b) : mFg ρ N [] a b :=
  ⟨fun p hp hq => h.1 p (by omega), fun i _ => by rw [h.1 133 (by decide)], by rw [h.1 133 (by decide)]; simp, fun f i f0 f1 _ _ => by rw [h.1 (153 + f) (by omega)]; rfl, fun f i f0 f1 _ => by rw [h.1 (153 + f) (by omega)]⟩
theorem mFs_of {ρ : sR} {T : Int → Int} {N : Nat} {b b' : sB} {R : List sB} {ξ ν : jm_M} (hW : sWR ρ) (h : mFs ρ T N b' ξ) (hg : mFg ρ N R ξ ν) (hb : mBd ν 0 b) (hN : N ≤ 24) (hR : ∀ x, x ∈ R → sGB ρ x ∧ x.2.1 = N) : mFs ρ T N b ν := by
  obtain ⟨h1, h2, h3, h4, h5, h6, h7, h8⟩ := h
  obtain ⟨p1, p2, p3, p4, p5⟩ := hg
  have e135 := p1 135 (by decide) (by decide)
  refine ⟨fun i i0 i1 => by rw [p1 143 (by decide) (by decide)]; exact h1 i i0 i1, hb, by rw [e135]; exact h3, by rw [e135]; exact h4, by rw [p2 42 (by decide)]; exact h5, fun i i0 i1 => by rw [p1 152 (by decide) (by decide)]; exact h6 i i0 i1, by omega, fun f i f0 f1 i0 i1 => ?_⟩
  by_cases hi : i < N
  · rw [p4 f i f0 f1 i0 hi]
    have := h8 f i f0 f1 i0 i1
    exact sMk_lt R _ (fun x hx => sFd_in hW (hR x hx).1 i0 (by rw [(hR x hx).2]; exact hi)) this.1 this.2
  · rw [p5 f i f0 f1 (by omega)]
    exact h8 f i f0 f1 i0 i1
