/-! fillings of the class -/
def wS (T : Int → Int) (N : Nat) (tl en : Int) (ξ : jm_M) : Prop := ξ 124 0 = N ∧ ξ 124 5 = tl ∧ ξ 124 4 = en ∧ (∀ i : Int, 0 ≤ i → i < N → ξ 125 i = T (2 * i) ∧ ξ 126 i = T (2 * i + 1)) ∧ 0 ≤ ξ 124 3 ∧ ∀ f i : Int, 0 ≤ f → f ≤ 2 → 0 ≤ i → i < 24 → 0 ≤ ξ (127 + f) i ∧ ξ (127 + f) i < 1024
def wG (ρ : sR) (N : Nat) (t tl en : Int) (R : List sB) (ξ ν : jm_M) : Prop :=
  (∀ q, q ≠ 37 → q < 47 ∨ 52 < q → q ≠ 124 → q < 127 ∨ 129 < q → ν q = ξ q) ∧ (∀ j, j ≠ 1 → j ≠ 2 → ν 37 j = ξ 37 j) ∧ (∀ j, j ≠ 3 → ν 124 j = ξ 124 j) ∧
  (ξ 124 3 ≤ ν 124 3 ∧ ν 124 3 ≤ ξ 124 3 + R.length) ∧ (ξ 124 3 + R.length ≤ en → ν 124 3 = ξ 124 3 + R.length) ∧ (en < ξ 124 3 + R.length → en < ν 124 3) ∧
  (tl = 0 → ν 127 = ξ 127 ∧ ν 128 = ξ 128 ∧ ν 129 = ξ 129) ∧
  (tl = 1 → ξ 124 3 + R.length ≤ en → (∀ f i : Int, 0 ≤ f → f ≤ 1 → t ≤ i → i < N → ν (127 + f) i = sMk (sFd ρ f i) R (ξ (127 + f) i)) ∧ (∀ f i : Int, 0 ≤ f → f ≤ 1 → (i < t ∨ (N : Int) ≤ i) → ν (127 + f) i = ξ (127 + f) i) ∧ (∀ i : Int, 0 ≤ i → i < N → ν 129 i = sMk (sFd ρ 2 i) R (ξ 129 i)) ∧ ∀ i : Int, (N : Int) ≤ i → ν 129 i = ξ 129 i)
theorem wG.trans {ρ : sR} {N : Nat} {t tl en : Int} {L M : List sB} {a b c : jm_M} (h1 : wG ρ N t tl en L a b) (h2 : wG ρ N t tl en M b c) : wG ρ N t tl en (L ++ M) a c := by
  obtain ⟨a1, a2, a3, a4, a5, a6, a7, a8⟩ := h1
  obtain ⟨b1, b2, b3, b4, b5, b6, b7, b8⟩ := h2
  have hl : ((L ++ M).length : Int) = L.length + M.length := by rw [List.length_append]; omega
  refine ⟨fun q q1 q2 q3 q4 => (b1 q q1 q2 q3 q4).trans (a1 q q1 q2 q3 q4), fun j j1 j2 => (b2 j j1 j2).trans (a2 j j1 j2), fun j j3 => (b3 j j3).trans (a3 j j3), ?_, ?_, ?_, ?_, ?_⟩
  · rw [hl]; omega
  · rw [hl]; intro h; rw [b5 (by rw [a5 (by omega)]; omega), a5 (by omega)]; omega
  · rw [hl]; intro h
    by_cases q : a 124 3 + L.length ≤ en
    · exact b6 (by rw [a5 q]; omega)
    · have := a6 (by omega); omega
  · intro h
    have x := a7 h
    have y := b7 h
    exact ⟨y.1.trans x.1, y.2.1.trans x.2.1, y.2.2.trans x.2.2⟩
  · rw [hl]
    intro h h2
    have x := a8 h (by omega)
    have y := b8 h (by rw [a5 (by omega)]; omega)
    exact ⟨fun f i f0 f1 i0 i1 => by rw [y.1 f i f0 f1 i0 i1, x.1 f i f0 f1 i0 i1, sMk_app], fun f i f0 f1 hi => (y.2.1 f i f0 f1 hi).trans (x.2.1 f i f0 f1 hi), fun i i0 i1 => by rw [y.2.2.1 i i0 i1, x.2.2.1 i i0 i1, sMk_app], fun i hi => (y.2.2.2 i hi).trans (x.2.2.2 i hi)⟩
theorem wG_fr {ρ : sR} {N : Nat} {t tl en : Int} {ξ ν : jm_M} (h : tFr 37 ξ ν) : wG ρ N t tl en [] ξ ν := by
  have e := fun q (h1 : 52 < q) => h.1 q (by omega) (by omega)
  refine ⟨fun q q1 q2 _ _ => h.1 q q1 (by omega), h.2, fun j _ => by rw [e 124 (by decide)], ?_, ?_, ?_, ?_, ?_⟩
  · rw [e 124 (by decide)]; exact ⟨Int.le_refl _, by simp⟩
  · rw [e 124 (by decide)]; intro _; simp
  · rw [e 124 (by decide)]; intro z; simpa using z
  · exact fun _ => ⟨e 127 (by decide), e 128 (by decide), e 129 (by decide)⟩
  · exact fun _ _ => ⟨fun f i f0 _ _ _ => by rw [e _ (by omega)]; rfl, fun f i f0 _ _ => by rw [e _ (by omega)], fun i _ _ => by rw [e 129 (by decide)]; rfl, fun i _ => by rw [e 129 (by decide)]⟩
theorem wG_skip {ρ : sR} {N : Nat} {t tl en : Int} {R : List sB} {ξ : jm_M} (h : en < ξ 124 3) : wG ρ N t tl en R ξ ξ :=
  ⟨fun _ _ _ _ _ => rfl, fun _ _ _ => rfl, fun _ _ => rfl, ⟨Int.le_refl _, by omega⟩, fun z => by omega, fun _ => h, fun _ => ⟨rfl, rfl, rfl⟩, fun _ z => by omega⟩
theorem wS_fr {T : Int → Int} {N : Nat} {tl en : Int} {ξ ν : jm_M} (hf : tFr 37 ξ ν) (h : wS T N tl en ξ) : wS T N tl en ν := by
  have e := fun q (h1 : 52 < q) => hf.1 q (by omega) (by omega)
  obtain ⟨h1, h2, h3, h4, h5, h6⟩ := h
  exact ⟨by rw [e 124 (by decide)]; exact h1, by rw [e 124 (by decide)]; exact h2, by rw [e 124 (by decide)]; exact h3, fun i i0 i1 => by rw [e 125 (by decide), e 126 (by decide)]; exact h4 i i0 i1, by rw [e 124 (by decide)]; exact h5, fun f i f0 f1 i0 i1 => by rw [e _ (by omega)]; exact h6 f i f0 f1 i0 i1⟩
theorem sor_idem {m k : Int} (h : 0 ≤ m) : sor (sor m k) k = sor m k := by
  unfold sor
  rw [Int.toNat_natCast, Nat.or_assoc, Nat.or_self]
theorem sMk_const {g : sB → Int} {v : Int} : ∀ (l : List sB) (m : Int), 0 ≤ m → (∀ x, x ∈ l → g x = v) → l ≠ [] → sMk g l m = sor m v
  | [], _, _, _, h => absurd rfl h
  | x :: l, m, m0, h, _ => by
    have hx := h x List.mem_cons_self
    show sMk g l (sor m (g x)) = _
    rw [hx]
    by_cases hl : l = []
    · subst hl; rfl
    · rw [sMk_const l (sor m v) sor_nn (fun y hy => h y (List.mem_cons_of_mem _ hy)) hl, sor_idem m0]
theorem sFi_keep {ρ : sR} {T : Int → Int} {f i : Int} (hf : f ≠ 5) : ∀ (r : Nat) (b : sB), i < b.2.1 → ∀ x, x ∈ sFi ρ T r b → x.1 f i = b.1 f i
  | 0, b, _, x, hx => by rw [List.mem_singleton.mp hx]
  | r + 1, b, hi, x, hx => by
    unfold sFi at hx
    obtain ⟨a, _, _, hx⟩ := (sFl_iff _ _).mp hx
    split at hx
    · obtain ⟨k, _, _, hx⟩ := (sFl_iff _ _).mp hx
      split at hx
      · rw [sFi_keep hf r _ (by rw [(sPush_c rfl).1]; omega) x hx]
        exact sPush_f rfl hf (by omega)
      · cases hx
    · cases hx
def sLo (x : Int) : Int := if x = -1 then 0 else x
def sCt (x m : Int) : Nat := if x = -1 then m.toNat else 1
theorem sFl_only {α : Type} {g : Int → List α} {x : Int} : ∀ (m : Nat) (k : Int), (∀ j, j ≠ x → g j = []) → k ≤ x → x < k + m → sFl g m k = g x
  | 0, k, _, h0, h1 => absurd h1 (by omega)
  | m + 1, k, h, h0, h1 => by
    unfold sFl
    by_cases hk : k = x
    · subst hk
      have : sFl g m (k + 1) = [] := by
        have hz : ∀ (m : Nat) (j : Int), k < j → sFl g m j = [] := by
          intro m
          induction m with
          | zero => intro j _; rfl
          | succ m ih => intro j hj; unfold sFl; rw [h j (by omega), ih (j + 1) (by omega)]; rfl
        exact hz m (k + 1) (by omega)
      rw [this, List.append_nil]
    · rw [h k hk, sFl_only m (k + 1) h (by omega) (by omega)]
      rfl
theorem sFl_if {α : Type} {g : Int → List α} {x m : Int} (hx : x = -1 ∨ 0 ≤ x ∧ x < m) : sFl (fun a => if x = -1 ∨ x = a then g a else []) m.toNat 0 = sFl g (sCt x m) (sLo x) := by
  unfold sCt sLo
  by_cases h : x = -1
  · rw [if_pos h, if_pos h]
    congr 1
    funext a
    rw [if_pos (Or.inl h)]
  · rw [if_neg h, if_neg h]
    rw [sFl_only (x := x) _ _ (fun j hj => if_neg (fun q => by omega)) (by omega) (by omega), if_pos (Or.inr rfl)]
    show g x = g x ++ []
    rw [List.append_nil]
theorem sFl_ext {α : Type} {g g' : Int → List α} : ∀ (m : Nat) (k : Int), (∀ j, g j = g' j) → sFl g m k = sFl g' m k
  | 0, _, _ => rfl
  | m + 1, k, h => by unfold sFl; rw [h k, sFl_ext m (k + 1) h]
theorem sFi_alt {ρ : sR} {T : Int → Int} {r : Nat} {b : sB} {t : Int} (ht : t = b.2.1) (h1 : T (2 * t) = -1 ∨ 0 ≤ T (2 * t) ∧ T (2 * t) < ρ 0) (h2 : T (2 * t + 1) = -1 ∨ 0 ≤ T (2 * t + 1) ∧ T (2 * t + 1) < ρ 1) :
    sFi ρ T (r + 1) b = sFl (fun a => sFl (fun k => if sWr ρ b a k = 0 then sFi ρ T r (sPush ρ b a k) else []) (sCt (T (2 * t + 1)) (ρ 1)) (sLo (T (2 * t + 1)))) (sCt (T (2 * t)) (ρ 0)) (sLo (T (2 * t))) := by
  rw [sFi, ← ht, ← sFl_if h1]
  refine sFl_ext _ _ (fun a => ?_)
  split
  · rw [← sFl_if h2]
    refine sFl_ext _ _ (fun k => ?_)
    by_cases q : T (2 * t + 1) = -1 ∨ T (2 * t + 1) = k
    · rw [if_pos q]
      by_cases q2 : sWr ρ b a k = 0
      · rw [if_pos q2, if_pos ⟨q, q2⟩]
      · rw [if_neg q2, if_neg (fun z => q2 z.2)]
    · rw [if_neg q, if_neg (fun z => q z.1)]
  · rfl
section WF
variable {E : jm_E} {d : Nat} {μ : jm_M} {Q : Option jm_V → jm_M → Prop} {ρ : sR} {p : Int} {b : sB} {T : Int → Int} {N : Nat} {tl en : Int}
theorem c_T_mark (h0 : tA μ ρ 37 p 400 b) (hN : b.2.1 ≤ 24) (hm : ∀ i, 0 ≤ i → i < 24 → 0 ≤ μ 129 i ∧ μ 129 i < 1024) (h : ∀ ν : jm_M, (∀ q, q ≠ 129 → ν q = μ q) → (∀ i, 0 ≤ i → i < b.2.1 → ν 129 i = sor (μ 129 i) (sSt ρ b i)) → (∀ i, b.2.1 ≤ i → ν 129 i = μ 129 i) → Q none ν) : jc E m_X9_markStates (d + 4) [jm_R 124, jm_R 37] μ Q := by
  have hG := h0.2.2.2.2.2.1
  have hG0 := hG.1
  refine e_X9_markStates (d := d + 3) (fun _ => ?_)
  have key : ∀ (m : Nat) (x : Int) (ξ : jm_M), b.2.1 - x = m → 0 ≤ x → (∀ q, q ≠ 129 → ξ q = μ q) → (∀ i, 0 ≤ i → i < x → ξ 129 i = sor (μ 129 i) (sSt ρ b i)) → (∀ i, x ≤ i → ξ 129 i = μ 129 i) → jg E m_X9_markStates (d + 3) 2 [some (jm_R 124), some (jm_R 37), some (jm_I x)] [] ξ Q := by
    intro m
    induction m with
    | zero =>
      intro x ξ g1 g2 g3 g4 g5
      refine r_X9_markStates_2 (d := d + 3) ⟨is_37, ?_⟩
      rw [g3 37 (by decide), h0.2.2.2.2.1.1]
      exact ⟨fun _ => h ξ g3 (fun i i0 i1 => g4 i i0 (by omega)) (fun i i0 => g5 i (by omega)), fun z => absurd z (by omega)⟩
    | succ m ih =>
      intro x ξ g1 g2 g3 g4 g5
      have A : tA ξ ρ 37 p 400 b := h0.of (fun q hq => g3 q (by have := h0.1.p; omega))
      have sx := sSt_in (t := x) hG g2 (by omega)
      have mx := hm x g2 (by omega)
      refine r_X9_markStates_2 (d := d + 3) ⟨is_37, ?_⟩
      rw [g3 37 (by decide), h0.2.2.2.2.1.1]
      refine ⟨fun z => absurd z (by omega), fun _ => ⟨fun z => absurd z (by omega), fun _ => ⟨by omega, c_T_stateOf A (jq_I ?_)⟩⟩⟩
      rw [if_pos ⟨g2, by omega⟩, g5 x (by omega), jm_or_bit mx.1 (by omega) sx.1 (by omega), jm_wr_id (by omega) (by omega)]
      intro m7 hm7
      subst hm7
      refine ih (x + 1) _ (by omega) (by omega) (fun q hq => by rw [jm_up_ne hq]; exact g3 q hq) (fun i i0 i1 => ?_) (fun i hi => ?_)
      · by_cases e : i = x
        · rw [e, jm_up_at]
        · rw [jm_up_i e]; exact g4 i i0 (by omega)
      · rw [jm_up_i (by omega)]; exact g5 i (by omega)
  exact key b.2.1.toNat 0 μ (by omega) (by decide) (fun _ _ => rfl) (fun i i0 i1 => by omega) (fun _ _ => rfl)
theorem t_fill0 (h0 : tA μ ρ 37 p 400 b) (hn : b.2.1 = N) (hN : N ≤ 24) (hs : wS T N tl en μ) (htl : tl = 0 ∨ tl = 1) (hl : μ 124 3 + 1 < 2147483648)
    (h : ∀ ν, tA ν ρ 37 p 400 b → wS T N tl en ν → wG ρ N b.2.1 tl en [b] μ ν → Q none ν) :
    (μ 124 5 = 0 → Q none (jm_up μ 124 3 (jm_wr (μ 124 3 + 1)))) ∧ (¬ (μ 124 5 = 0) → jc E m_X9_markStates (d + 4) [jm_R 124, jm_R 37] (jm_up μ 124 3 (jm_wr (μ 124 3 + 1))) (fun o m3 => o = none → Q none m3)) := by
  obtain ⟨s0, s1, s2, s3, s4, s5⟩ := hs
  have hG := h0.2.2.2.2.2.1
  rw [jm_wr_id (by omega) (by omega), s1]
  have A1 : tA (jm_up μ 124 3 (μ 124 3 + 1)) ρ 37 p 400 b := h0.up (by decide)
  have S1 : wS T N tl en (jm_up μ 124 3 (μ 124 3 + 1)) := ⟨by rw [jm_up_i (by decide)]; exact s0, by rw [jm_up_i (by decide)]; exact s1, by rw [jm_up_i (by decide)]; exact s2, fun i i0 i1 => by rw [jm_up_ne (by decide), jm_up_ne (by decide)]; exact s3 i i0 i1, by rw [jm_up_at]; omega, fun f i f0 f1 i0 i1 => by rw [jm_up_ne (by omega)]; exact s5 f i f0 f1 i0 i1⟩
  refine ⟨fun z => h _ A1 S1 ⟨fun q _ _ q3 _ => jm_up_ne q3, fun j _ _ => by rw [jm_up_ne (by decide)], fun j hj => jm_up_i hj, ?_, ?_, ?_, fun _ => ⟨jm_up_ne (by decide), jm_up_ne (by decide), jm_up_ne (by decide)⟩, fun q => by omega⟩, fun z => ?_⟩
  · rw [jm_up_at]; show _ ∧ _ ≤ _ + ((1 : Nat) : Int); omega
  · rw [jm_up_at]; intro _; rfl
  · rw [jm_up_at]; exact fun q => q
  · refine c_T_mark (d := d) A1 (by omega) (fun i i0 i1 => by rw [jm_up_ne (by decide)]; exact s5 2 i (by decide) (by decide) i0 i1) (fun ν v1 v2 v3 _ => ?_)
    have v2' : ∀ i, 0 ≤ i → i < b.2.1 → ν 129 i = sor (μ 129 i) (sSt ρ b i) := fun i i0 i1 => by rw [v2 i i0 i1, jm_up_ne (by decide)]
    have v3' : ∀ i, b.2.1 ≤ i → ν 129 i = μ 129 i := fun i hi => by rw [v3 i hi, jm_up_ne (by decide)]
    have c3 : ν 124 3 = μ 124 3 + 1 := by rw [v1 124 (by decide), jm_up_at]
    refine h ν (A1.of (fun q hq => v1 q (by have := h0.1.p; omega))) ⟨by rw [v1 124 (by decide)]; exact S1.1, by rw [v1 124 (by decide)]; exact S1.2.1, by rw [v1 124 (by decide)]; exact S1.2.2.1, fun i i0 i1 => by rw [v1 125 (by decide), v1 126 (by decide)]; exact S1.2.2.2.1 i i0 i1, by rw [c3]; omega, fun f i f0 f1 i0 i1 => ?_⟩ ⟨fun q _ _ q3 q4 => by rw [v1 q (by omega), jm_up_ne q3], fun j _ _ => by rw [v1 37 (by decide), jm_up_ne (by decide)], fun j hj => by rw [v1 124 (by decide), jm_up_i hj], ?_, ?_, ?_, fun q => absurd q z, fun _ _ => ⟨fun f i f0 f1 i0 i1 => ?_, fun f i f0 f1 _ => by rw [v1 _ (by omega), jm_up_ne (by omega)], fun i i0 i1 => ?_, fun i hi => v3' i (by omega)⟩⟩
    · have g := s5 f i f0 f1 i0 i1
      by_cases hf : f = 2
      · subst hf
        rw [show (127 + 2 : Int) = 129 by decide] at g ⊢
        by_cases hi : i < b.2.1
        · rw [v2' i i0 hi]
          have sx := sSt_in (t := i) hG i0 hi
          exact sor_lt (n := 10) g.1 (by omega) sx.1 (by omega)
        · rw [v3' i (by omega)]; exact g
      · rw [v1 _ (by omega), jm_up_ne (by omega)]; exact g
    · rw [c3]; show _ ∧ _ ≤ _ + ((1 : Nat) : Int); omega
    · rw [c3]; intro _; rfl
    · rw [c3]; exact fun q => q
    · omega
    · rw [v2' i i0 (by omega)]; rfl
end WF
