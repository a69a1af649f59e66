/-! READING. A text as a row of tokens: κ p is the token that is met at p. What a reading answers: fault and place, or what is told -/
abbrev zRs (α : Type) : Type := Except (Int × Int) α
abbrev zKp : Type := Int → sTk1
def zBi {α β : Type} (x : zRs α) (f : α → zRs β) : zRs β :=
  match x with
  | .error e => .error e
  | .ok a => f a
theorem zBi_e {α β : Type} {x : zRs α} {f : α → zRs β} {e : Int × Int} (h : x = .error e) : zBi x f = .error e := by rw [h]; rfl
theorem zBi_o {α β : Type} {x : zRs α} {f : α → zRs β} {a : α} (h : x = .ok a) : zBi x f = f a := by rw [h]; rfl
/-- a fault here -/
def zE {α : Type} (κ : zKp) (p f : Int) : zRs α := .error (f, (κ p).2.1)
/-- one of the texts' own words, by its index; 0: a name -/
abbrev zIs (κ : zKp) (p t : Int) : Prop := (κ p).1 = 2 ∧ sTm (κ p).2.2.2 = t
abbrev zSg (κ : zKp) (p c : Int) : Prop := (κ p).1 = 4 ∧ (κ p).2.2.2 = c
abbrev zNx (κ : zKp) (p : Int) : Int := (κ p).2.2.1
def zNu (κ : zKp) (p lo hi : Int) : zRs Int := if (κ p).1 ≠ 3 then zE κ p 1 else if lo ≤ (κ p).2.2.2 ∧ (κ p).2.2.2 ≤ hi then .ok (κ p).2.2.2 else zE κ p 2
/-- the first that has it -/
def zFd (g : Int → Int) (v : Int) : Nat → Int → Int
  | 0, _ => -1
  | m + 1, i => if g i = v then i else zFd g v m (i + 1)
theorem zFd_in {g : Int → Int} {v : Int} : ∀ (m : Nat) (i : Int), 0 ≤ i → (zFd g v m i = -1 ∨ (i ≤ zFd g v m i ∧ zFd g v m i < i + m))
  | 0, _, _ => Or.inl rfl
  | m + 1, i, h => by
    have ih := zFd_in (g := g) (v := v) m (i + 1) (by omega)
    unfold zFd
    split
    · exact Or.inr ⟨Int.le_refl _, by omega⟩
    · omega
/-- a name that is told, among so many -/
def zNH (κ : zKp) (g : Int → Int) (m p : Int) : zRs Int := if ¬ zIs κ p 0 then zE κ p 1 else if zFd g (κ p).2.2.2 m.toNat 0 = -1 then zE κ p 3 else .ok (zFd g (κ p).2.2.2 m.toNat 0)
theorem zNH_in {κ : zKp} {g : Int → Int} {m p a : Int} (hm : 0 ≤ m) (h : zNH κ g m p = .ok a) : 0 ≤ a ∧ a < m ∧ (κ p).1 = 2 := by
  unfold zNH at h
  by_cases c1 : ¬ zIs κ p 0
  · rw [if_pos c1] at h; cases h
  · rw [if_neg c1] at h
    by_cases c2 : zFd g (κ p).2.2.2 m.toNat 0 = -1
    · rw [if_pos c2] at h; cases h
    · rw [if_neg c2] at h
      have := zFd_in (g := g) (v := (κ p).2.2.2) m.toNat 0 (by decide)
      have e : zFd g (κ p).2.2.2 m.toNat 0 = a := by cases h; rfl
      exact ⟨by omega, by omega, (Decidable.not_not.mp c1).1⟩
/-! tables: rules, names of people, names of kinds -/
abbrev zTs : Type := sR × (Int → Int) × (Int → Int)
def zNN (κ : zKp) (T : zTs) (p : Int) : zRs Int :=
  if ¬ zIs κ p 0 then zE κ p 1 else if zFd T.2.1 (κ p).2.2.2 (T.1 0).toNat 0 ≠ -1 ∨ zFd T.2.2 (κ p).2.2.2 (T.1 1).toNat 0 ≠ -1 then zE κ p 3 else .ok (κ p).2.2.2
def zRw (κ : zKp) (T : zTs) (p : Int) : zRs (zTs × Int) :=
  if T.1 0 = 8 then zE κ p 4 else
  zBi (zNN κ T (zNx κ p)) fun v => zBi (zNu κ (zNx κ (zNx κ p)) 1 6) fun r => .ok ((sUp (sUp T.1 (12 + T.1 0) r) 0 (T.1 0 + 1), sUp T.2.1 (T.1 0) v, T.2.2), zNx κ (zNx κ (zNx κ p)))
def zOo (κ : zKp) (p : Int) : Int := if zIs κ p 7 then 1 else if zIs κ p 8 then 2 else 0
def zDD (κ : zKp) (p : Int) : Int := if (κ p).1 = 2 ∧ 9 ≤ sTm (κ p).2.2.2 ∧ sTm (κ p).2.2.2 ≤ 14 then sTm (κ p).2.2.2 - 8 else 0
def zKd (ρ : sR) (a b c : Int) : sR := sUp (sUp (sUp (sUp (sUp ρ (20 + 4 * ρ 1) a) (21 + 4 * ρ 1) b) (22 + 4 * ρ 1) c) (23 + 4 * ρ 1) 0) 1 (ρ 1 + 1)
/-- behind a kind's name: where it opens, what it does -/
def zRk2 (κ : zKp) (T : zTs) (v a p : Int) : zRs (zTs × Int) :=
  if zDD κ p = 0 then .ok ((zKd T.1 a 0 0, T.2.1, sUp T.2.2 (T.1 1) v), p)
  else if zDD κ p ≠ 2 then .ok ((zKd T.1 a (zDD κ p) 0, T.2.1, sUp T.2.2 (T.1 1) v), zNx κ p)
  else zBi (zNu κ (zNx κ p) 1 99) fun c => .ok ((zKd T.1 a 2 c, T.2.1, sUp T.2.2 (T.1 1) v), zNx κ (zNx κ p))
def zRk1 (κ : zKp) (T : zTs) (p : Int) : zRs (zTs × Int) :=
  if T.1 1 = 10 then zE κ p 4 else
  zBi (zNN κ T (zNx κ p)) fun v => zRk2 κ T v (zOo κ (zNx κ (zNx κ p))) (if zOo κ (zNx κ (zNx κ p)) = 0 then zNx κ (zNx κ p) else zNx κ (zNx κ (zNx κ p)))
def zRm (κ : zKp) (T : zTs) (p : Int) : zRs (zTs × Int) :=
  if T.1 2 = 40 then zE κ p 4 else
  zBi (zNH κ T.2.2 (T.1 1) (zNx κ p)) fun a => zBi (zNH κ T.2.2 (T.1 1) (zNx κ (zNx κ p))) fun b =>
  if sbt (sMa T.1 a) b = true then zE κ (zNx κ (zNx κ p)) 3 else .ok ((sUp (sUp T.1 (23 + 4 * a) (sor (sMa T.1 a) b)) 2 (T.1 2 + 1), T.2), zNx κ (zNx κ (zNx κ p)))
def zRc (κ : zKp) : Nat → zTs → Int → zRs (zTs × Int)
  | 0, T, p => .ok (T, p)
  | f + 1, T, p => if T.1 3 = 0 ∨ (κ p).1 = 3 then (if T.1 3 = 6 then zE κ p 4 else zBi (zNu κ p 1 6) fun v => zRc κ f (sUp (sUp T.1 (6 + T.1 3) v) 3 (T.1 3 + 1), T.2) (zNx κ p)) else .ok (T, p)
def zRo (κ : zKp) (i : Int) (T : zTs) (p : Int) : zRs (zTs × Int) := if 0 < T.1 i then zE κ p 3 else .ok ((sUp T.1 i 1, T.2), zNx κ p)
def zRl1 (κ : zKp) (T : zTs) (p : Int) : zRs (zTs × Int) :=
  if zIs κ p 1 then zRw κ T p else if zIs κ p 2 then zRk1 κ T p else if zIs κ p 3 then zRm κ T p else if zIs κ p 4 then (if 0 < T.1 3 then zE κ p 3 else zRc κ 7 T (zNx κ p))
  else if zIs κ p 5 then zRo κ 4 T p else if zIs κ p 6 then zRo κ 5 T p else zE κ p 1
def zRl (κ : zKp) (T : zTs) (p : Int) : zRs (zTs × Int) := zBi (zRl1 κ T p) fun x => if zSg κ x.2 59 then .ok (x.1, zNx κ x.2) else zE κ x.2 1
def zRtb (κ : zKp) : Nat → zTs → Int → Int → zRs (zTs × Int)
  | 0, T, m, _ => .ok (T, m)
  | f + 1, T, m, p => if (κ p).1 = 0 then .ok (T, m) else zBi (zRl κ T p) fun x => zRtb κ f x.1 (m + 1) x.2
def zT0 : zTs := (fun _ => 0, fun _ => 0, fun _ => 0)
/-- what a table that is being read is worth -/
def zTi (T : zTs) : Prop := sWR T.1 ∧ (∀ i, 0 ≤ i → i < T.1 0 → sNv (T.2.1 i)) ∧ (∀ i, 0 ≤ i → i < T.1 1 → sNv (T.2.2 i)) ∧ ∀ k, T.1 1 ≤ k → k < 10 → T.1 (22 + 4 * k) = 0 ∧ T.1 (23 + 4 * k) = 0
theorem zTi_0 : zTi zT0 := by
  refine ⟨⟨by decide, by decide, by decide, by decide, by decide, by decide, by decide, by decide, Or.inl rfl, Or.inl rfl, fun w w0 w1 => ?_, fun w w0 w1 => ?_, fun w w0 w1 => ?_⟩, fun w w0 w1 => ?_, fun w w0 w1 => ?_, fun k _ _ => ⟨rfl, rfl⟩⟩ <;> · have : w < 0 := w1; omega
theorem sUp_at {f : Int → Int} {i v : Int} : sUp f i v i = v := if_pos rfl
theorem sUp_ne {f : Int → Int} {i v j : Int} (h : j ≠ i) : sUp f i v j = f j := if_neg h
/-! frames: only these places (and the reader's own) -/
def kFo (W : Int → Prop) (μ ν : jm_M) : Prop := (∀ x, x ≠ 1 → ¬ W x → ν x = μ x) ∧ ∀ j, j = 0 ∨ j = 1 ∨ j = 2 ∨ 8 < j → ν 1 j = μ 1 j
def kFe (W : Int → Prop) (μ ν : jm_M) (e : Int × Int) : Prop := (∀ x, x ≠ 1 → ¬ W x → ν x = μ x) ∧ (∀ j, j = 0 ∨ j = 1 ∨ j = 2 ∨ 10 < j → ν 1 j = μ 1 j) ∧ ν 1 9 = e.1 ∧ ν 1 10 = e.2
theorem kFo.rfl {W : Int → Prop} {μ : jm_M} : kFo W μ μ := ⟨fun _ _ _ => Eq.refl _, fun _ _ => Eq.refl _⟩
theorem kFo.trans {W : Int → Prop} {a b c : jm_M} (h1 : kFo W a b) (h2 : kFo W b c) : kFo W a c := ⟨fun x hx hw => (h2.1 x hx hw).trans (h1.1 x hx hw), fun j hj => (h2.2 j hj).trans (h1.2 j hj)⟩
theorem kFo.of {W : Int → Prop} {a b : jm_M} (h : tKf a b) : kFo W a b := ⟨fun x hx _ => h.1 x hx, h.2⟩
theorem kFo.up {W : Int → Prop} {a : jm_M} {q i v : Int} (h : W q) (h1 : q ≠ 1) : kFo W a (jm_up a q i v) := ⟨fun x _ hw => jm_up_ne (fun z => hw (by rw [z]; exact h)), fun _ _ => jm_up_lj (fun z => h1 z.symm)⟩
theorem kFo.er {W : Int → Prop} {a b c : jm_M} {f pl : Int} (h1 : kFo W a b) (h2 : kEr b c f pl) : kFe W a c (f, pl) := ⟨fun x hx hw => (h2.1 x hx).trans (h1.1 x hx hw), fun j hj => (h2.2.1 j (by omega) (by omega)).trans (h1.2 j (by omega)), h2.2.2⟩
theorem kFo.fe {W : Int → Prop} {a b c : jm_M} {e : Int × Int} (h1 : kFo W a b) (h2 : kFe W b c e) : kFe W a c e := ⟨fun x hx hw => (h2.1 x hx hw).trans (h1.1 x hx hw), fun j hj => (h2.2.1 j hj).trans (h1.2 j (by omega)), h2.2.2⟩
