/-! a text's tokens, read off its letters -/
def pAt (τ : Int → Int) (n p : Int) (r : List Int) : Prop := 0 ≤ p ∧ p + (r.length : Int) = n ∧ ∀ i : Nat, i < r.length → τ (p + (i : Int)) = r.getD i 0
section PT
variable {τ : Int → Int} {n : Int}
theorem pAt.hd {p x : Int} {r : List Int} (h : pAt τ n p (x :: r)) : p < n ∧ τ p = x ∧ pAt τ n (p + 1) r := by
  obtain ⟨h0, h1, h2⟩ := h
  rw [List.length_cons] at h1
  refine ⟨by omega, ?_, by omega, by omega, fun i hi => ?_⟩
  · have := h2 0 (Nat.zero_lt_succ _)
    rwa [show p + ((0 : Nat) : Int) = p by omega] at this
  · have := h2 (i + 1) (by rw [List.length_cons]; omega)
    rw [show p + ((i + 1 : Nat) : Int) = p + 1 + (i : Int) by omega] at this
    rw [this]
    rfl
theorem pAt.nl {p : Int} (h : pAt τ n p []) : p = n := by
  have h1 : p + (([] : List Int).length : Int) = n := h.2.1
  have h2 : (([] : List Int).length : Int) = 0 := rfl
  omega
/-- what stands behind a run -/
def pNr (r : List Int) : Prop := ∀ x, r.head? = some x → sLt x = false ∧ sDg x = false
theorem pNr_c {x : Int} {r : List Int} (h : sLt x = false ∧ sDg x = false) : pNr (x :: r) := fun y hy => by
  have e : x = y := by simpa using hy
  rw [← e]; exact h
def pWv (L : Int) (w : List Int) : Int := w.foldl (fun L x => L * 32 + (x - 96)) L
theorem pRuE {p a b L V : Int} {r : List Int} {f : Nat} (h : pAt τ n p r) (hr : pNr r) : sRu τ n (f + 1) p a b L V = (p, a, b, L, V) := by
  unfold sRu
  cases r with
  | nil => rw [if_neg (by have := h.nl; omega)]
  | cons x r =>
    obtain ⟨g1, g2, -⟩ := h.hd
    have q := hr x rfl
    rw [if_pos g1, g2, if_neg (by rw [q.1]; decide), if_neg (by rw [q.2]; decide)]
theorem pRuL : ∀ (w : List Int) (f : Nat) (p a b L V : Int) (r : List Int), pAt τ n p (w ++ r) → (∀ x ∈ w, sLt x = true) → pNr r → w.length < f → sRu τ n f p a b L V = (p + (w.length : Int), a + (w.length : Int), b, pWv L w, V)
  | [], f, p, a, b, L, V, r, h, _, hr, hf => by
    obtain ⟨g, rfl⟩ : ∃ g, f = g + 1 := ⟨f - 1, by simp at hf; omega⟩
    rw [pRuE h hr]
    simp [pWv]
  | x :: w, f, p, a, b, L, V, r, h, hw, hr, hf => by
    obtain ⟨g, rfl⟩ : ∃ g, f = g + 1 := ⟨f - 1, by simp at hf; omega⟩
    obtain ⟨g1, g2, g3⟩ := h.hd
    have ih := pRuL w g (p + 1) (a + 1) b (L * 32 + (x - 96)) V r g3 (fun y hy => hw y (List.mem_cons_of_mem _ hy)) hr (by rw [List.length_cons] at hf; omega)
    unfold sRu
    rw [if_pos g1, g2, if_pos (hw x List.mem_cons_self), ih, List.length_cons]
    have e1 : p + 1 + (w.length : Int) = p + ((w.length + 1 : Nat) : Int) := by omega
    have e2 : a + 1 + (w.length : Int) = a + ((w.length + 1 : Nat) : Int) := by omega
    rw [e1, e2]
    rfl
/-- blanks ahead of a token: none or one -/
theorem pSk {p x : Int} {r : List Int} (bl : Bool) (h : pAt τ n p (cond bl (32 :: x :: r) (x :: r))) (hx : sBl x = false) : ∃ q, q = p + cond bl 1 0 ∧ sSkp τ n 940 p = q ∧ pAt τ n q (x :: r) := by
  have key : ∀ (f : Nat) (q : Int), pAt τ n q (x :: r) → sSkp τ n (f + 1) q = q := by
    intro f q hq
    obtain ⟨g1, g2, -⟩ := hq.hd
    unfold sSkp
    rw [if_pos g1, g2, if_neg (by rw [hx]; decide)]
  cases bl with
  | false => exact ⟨p, by show p = p + 0; omega, key 939 p h, h⟩
  | true =>
    have h' : pAt τ n p (32 :: x :: r) := h
    obtain ⟨g1, g2, g3⟩ := h'.hd
    refine ⟨p + 1, rfl, ?_, g3⟩
    unfold sSkp
    rw [if_pos g1, g2, if_pos (by decide)]
    exact key 938 (p + 1) g3
theorem pTokL {p x : Int} {w r : List Int} (bl : Bool) (hn : n ≤ 900) (h : pAt τ n p (cond bl (32 :: (x :: w ++ r)) (x :: w ++ r))) (hw : ∀ y ∈ x :: w, sLt y = true) (hl : w.length ≤ 6) (hr : pNr r) :
    sTok τ n 900 p = (2, p + cond bl 1 0, p + cond bl 1 0 + ((x :: w).length : Int), pWv 0 (x :: w)) ∧ pAt τ n (p + cond bl 1 0 + ((x :: w).length : Int)) r := by
  have hx := hw x List.mem_cons_self
  have hb : sBl x = false := by
    unfold sLt at hx
    unfold sBl
    simp only [Bool.and_eq_true, decide_eq_true_eq] at hx
    have h1 : ¬ x = 32 := by omega
    have h2 : ¬ x = 10 := by omega
    simp [h1, h2]
  obtain ⟨q, e, hs, hq⟩ := pSk (x := x) (r := w ++ r) bl h hb
  rw [← e]
  obtain ⟨g1, g2, -⟩ := hq.hd
  have hru := pRuL (x :: w) 940 q 0 0 0 0 r hq hw hr (by rw [List.length_cons]; omega)
  refine ⟨?_, ?_⟩
  · unfold sTok
    rw [hs, if_neg (by omega), if_neg (by omega), g2, if_pos (by rw [hx]; rfl), hru]
    unfold sRk
    rw [if_pos ⟨rfl, by show 0 + ((x :: w).length : Int) ≤ 7; rw [List.length_cons]; omega⟩]
  · obtain ⟨k0, k1, k2⟩ := hq
    have hlen : ((x :: w ++ r).length : Int) = ((x :: w).length : Int) + (r.length : Int) := by rw [List.length_append]; omega
    refine ⟨by omega, by rw [← k1]; show _ = q + ((x :: w ++ r).length : Int); omega, fun i hi => ?_⟩
    have := k2 ((x :: w).length + i) (by show _ < (x :: w ++ r).length; rw [List.length_append]; omega)
    rw [show q + ((x :: w).length : Int) + (i : Int) = q + (((x :: w).length + i : Nat) : Int) by omega, this]
    show (x :: w ++ r).getD _ 0 = _
    rw [List.getD_eq_getElem?_getD, List.getElem?_append_right (Nat.le_add_right _ _), Nat.add_sub_cancel_left, ← List.getD_eq_getElem?_getD]
theorem pTokD {p v : Int} {r : List Int} (bl : Bool) (hn : n ≤ 900) (h : pAt τ n p (cond bl (32 :: (48 + v) :: r) ((48 + v) :: r))) (v0 : 0 ≤ v) (v1 : v ≤ 9) (hr : pNr r) :
    sTok τ n 900 p = (3, p + cond bl 1 0, p + cond bl 1 0 + 1, v) ∧ pAt τ n (p + cond bl 1 0 + 1) r := by
  have hd : sDg (48 + v) = true := by
    unfold sDg
    simp only [Bool.and_eq_true, decide_eq_true_eq]
    omega
  have hlt : sLt (48 + v) = false := by
    unfold sLt
    have : ¬ 97 ≤ 48 + v := by omega
    simp [this]
  have hb : sBl (48 + v) = false := by
    unfold sBl
    have h1 : ¬ 48 + v = 32 := by omega
    have h2 : ¬ 48 + v = 10 := by omega
    simp [h1, h2]
  obtain ⟨q, e, hs, hq⟩ := pSk bl h hb
  rw [← e]
  obtain ⟨g1, g2, g3⟩ := hq.hd
  refine ⟨?_, g3⟩
  have hru : sRu τ n 940 q 0 0 0 0 = (q + 1, 0, 1, 0, v) := by
    unfold sRu
    rw [if_pos g1, g2, if_neg (by rw [hlt]; decide), if_pos hd, pRuE g3 hr]
    have : (0 : Int) * 10 + (48 + v - 48) = v := by omega
    rw [this]
    rfl
  unfold sTok
  rw [hs, if_neg (by omega), if_neg (by omega), g2, if_pos (by rw [hlt, hd]; rfl), hru]
  unfold sRk
  rw [if_neg (fun z => absurd (show (1 : Int) = 0 from z.1) (by decide)), if_pos ⟨rfl, show (1 : Int) ≤ 3 by decide⟩]
theorem pTokS {p : Int} {r : List Int} (hn : n ≤ 900) (h : pAt τ n p (59 :: r)) : sTok τ n 900 p = (4, p, p + 1, 59) ∧ pAt τ n (p + 1) r := by
  obtain ⟨q, e, hs, hq⟩ := pSk (x := 59) (r := r) false h (by decide)
  have e2 : q = p := by rw [e]; show p + 0 = p; omega
  subst e2
  obtain ⟨g1, g2, g3⟩ := hq.hd
  refine ⟨?_, g3⟩
  unfold sTok
  rw [hs, if_neg (by omega), if_neg (by omega), g2, if_neg (by decide), if_pos (by decide)]
theorem pTokE {p : Int} (hn : n ≤ 900) (h : pAt τ n p []) : (sTok τ n 900 p).1 = 0 := by
  have e := h.nl
  subst e
  have hs : sSkp τ p 940 p = p := by
    unfold sSkp
    rw [if_neg (by omega)]
  unfold sTok
  rw [hs, if_neg (by omega), if_pos (Int.le_refl _)]
/-! tokens one after another -/
def pCh (κ : zKp) : List (Int × Int) → Int → Int → Prop
  | [], p, q => p = q
  | x :: l, p, q => (κ p).1 = x.1 ∧ (κ p).2.2.2 = x.2 ∧ pCh κ l (zNx κ p) q
def pC (τ : Int → Int) (n : Int) (l : List (Int × Int)) (r : List Int) (p : Int) : Prop := ∃ q, pCh (sTok τ n 900) l p q ∧ pAt τ n q r
theorem pC_0 {p : Int} {r : List Int} (h : pAt τ n p r) : pC τ n [] r p := ⟨p, rfl, h⟩
theorem pC_w {p x v : Int} {w r r2 : List Int} {l : List (Int × Int)} (bl : Bool) (hn : n ≤ 900) (hw : ∀ y ∈ x :: w, sLt y = true) (hl : w.length ≤ 6) (hv : pWv 0 (x :: w) = v) (hr : pNr r) (h : pAt τ n p (cond bl (32 :: (x :: w ++ r)) (x :: w ++ r))) (k : ∀ p', pAt τ n p' r → pC τ n l r2 p') : pC τ n ((2, v) :: l) r2 p := by
  obtain ⟨e, h2⟩ := pTokL bl hn h hw hl hr
  obtain ⟨q, g1, g2⟩ := k _ h2
  refine ⟨q, ⟨by rw [e], by rw [e]; exact hv, ?_⟩, g2⟩
  show pCh _ l (sTok τ n 900 p).2.2.1 q
  rw [e]
  exact g1
theorem pC_d {p v : Int} {r r2 : List Int} {l : List (Int × Int)} (bl : Bool) (hn : n ≤ 900) (v0 : 0 ≤ v) (v1 : v ≤ 9) (hr : pNr r) (h : pAt τ n p (cond bl (32 :: (48 + v) :: r) ((48 + v) :: r))) (k : ∀ p', pAt τ n p' r → pC τ n l r2 p') : pC τ n ((3, v) :: l) r2 p := by
  obtain ⟨e, h2⟩ := pTokD bl hn h v0 v1 hr
  obtain ⟨q, g1, g2⟩ := k _ h2
  refine ⟨q, ⟨by rw [e], by rw [e], ?_⟩, g2⟩
  show pCh _ l (sTok τ n 900 p).2.2.1 q
  rw [e]
  exact g1
theorem pC_s {p : Int} {r r2 : List Int} {l : List (Int × Int)} (hn : n ≤ 900) (h : pAt τ n p (59 :: r)) (k : ∀ p', pAt τ n p' r → pC τ n l r2 p') : pC τ n ((4, 59) :: l) r2 p := by
  obtain ⟨e, h2⟩ := pTokS hn h
  obtain ⟨q, g1, g2⟩ := k _ h2
  refine ⟨q, ⟨by rw [e], by rw [e], ?_⟩, g2⟩
  show pCh _ l (sTok τ n 900 p).2.2.1 q
  rw [e]
  exact g1
theorem pNr_b {r : List Int} : pNr (32 :: r) := pNr_c (by decide)
theorem pNr_s {r : List Int} : pNr (59 :: r) := pNr_c (by decide)
end PT
