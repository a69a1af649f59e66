/-! fillings of torn minutes: the final boards, in their order -/
def sFl {α : Type} (g : Int → List α) : Nat → Int → List α
  | 0, _ => []
  | m + 1, k => g k ++ sFl g m (k + 1)
def sFi (ρ : sR) (T : Int → Int) : Nat → sB → List sB
  | 0, b => [b]
  | r + 1, b => sFl (fun a => if T (2 * b.2.1) = -1 ∨ T (2 * b.2.1) = a then
      sFl (fun k => if (T (2 * b.2.1 + 1) = -1 ∨ T (2 * b.2.1 + 1) = k) ∧ sWr ρ b a k = 0 then sFi ρ T r (sPush ρ b a k) else []) (ρ 1).toNat 0 else []) (ρ 0).toNat 0
def sMk (g : sB → Int) : List sB → Int → Int
  | [], m => m
  | b :: l, m => sMk g l (sor m (g b))
theorem sMk_app (g : sB → Int) : ∀ (l l' : List sB) (m : Int), sMk g (l ++ l') m = sMk g l' (sMk g l m)
  | [], _, _ => rfl
  | b :: l, l', m => sMk_app g l l' (sor m (g b))
/-- what is marked of a whole: who, kind, state of a word -/
def sFd (ρ : sR) (f i : Int) (b : sB) : Int := if f = 0 then b.1 0 i else if f = 1 then b.1 1 i else sSt ρ b i
theorem sSt_in {ρ : sR} {b : sB} {t : Int} (hG : sGB ρ b) (t0 : 0 ≤ t) (t1 : t < b.2.1) : 0 ≤ sSt ρ b t ∧ sSt ρ b t ≤ 8 := by
  have h := hG.2.2.2.2 t t0 t1
  unfold sSt
  split
  · decide
  · obtain ⟨_, _, _, _, _, h1, h2, h3⟩ := h
    by_cases c1 : sDo ρ (b.1 1 t) = 1
    · have := h1 c1; omega
    · by_cases c2 : sDo ρ (b.1 1 t) = 2
      · have := h2 c2; omega
      · have := h3 c1 c2; omega
