/-! what is told, together: rules, words, names, minutes, sentence -/
abbrev sDk : Type := sR × (Int → Int) × Nat × (Int → Int) × (Int → Int) × Nat × (Int → Int) × sPg
/-- a table of the class, names and all -/
def tTb (μ : jm_M) (p : Int) (ρ : sR) (nw nk : Int → Int) : Prop := tRu μ p ρ ∧ (∀ i, 0 ≤ i → i < ρ 0 → μ (p + 1) i = nw i) ∧ (∀ i, 0 ≤ i → i < ρ 1 → μ (p + 3) i = nk i) ∧ (μ p 13 = 0 ∨ μ p 13 = 1)
theorem tTb_of {μ ν : jm_M} {p : Int} {ρ : sR} {nw nk : Int → Int} (hf : ∀ q, p ≤ q → q ≤ p + 8 → ν q = μ q) (h : tTb μ p ρ nw nk) : tTb ν p ρ nw nk :=
  ⟨tRu_of hf h.1, fun i i0 i1 => by rw [hf (p + 1) (by omega) (by omega)]; exact h.2.1 i i0 i1, fun i i0 i1 => by rw [hf (p + 3) (by omega) (by omega)]; exact h.2.2.1 i i0 i1, by rw [hf p (by omega) (by omega)]; exact h.2.2.2⟩
/-- what the class holds told -/
def cDk (μ : jm_M) (D : sDk) : Prop := tTb μ 3 D.1 D.2.2.2.1 D.2.2.2.2.1 ∧ tTl μ D.1 D.2.1 D.2.2.1 ∧ tMn μ 69 D.2.2.2.2.2.1 D.2.2.2.2.2.2.1 ∧ tSn μ 75 D.2.2.2.2.2.2.2
/-- it could be told -/
def sVd (D : sDk) : Prop := sWR D.1 ∧ D.2.2.1 ≤ 400 ∧ sVW D.1 D.2.1 D.2.2.1 ∧ sVM D.1 D.2.2.2.2.2.1 D.2.2.2.2.2.2.1 ∧ sWp D.2.2.2.2.2.2.2 ∧ (D.2.2.2.2.2.2.2.2.2.2 ≠ 0 → sRt D.2.2.2.2.2.2.2.1 D.2.2.2.2.2.2.2.2.2.2 = [D.2.2.2.2.2.2.2.2.2.2 - 1])
theorem jm_cpy_at {μ : jm_M} {s t k j : Int} (j0 : 0 ≤ j) (j1 : j < k) : jm_cpy μ s 0 t 0 k t j = μ s j := by
  unfold jm_cpy
  rw [if_pos ⟨rfl, j0, by omega⟩, show 0 + (j - 0) = j by omega]
section DA
variable {E : jm_E} {d : Nat} {μ : jm_M} {Q : Option jm_V → jm_M → Prop} {ρ : sR} {w : Int → Int} {n : Nat} {P : sPg}
theorem c_T_tcopy {p q : Int} {nw nk : Int → Int} (hp : jm_is jm_N p 1 5) (hq : jm_is jm_N q 1 5) (hs : p + 8 < q ∨ q + 8 < p) (hW : sWR ρ) (ht : tTb μ p ρ nw nk) (h : ∀ ν, tTb ν q ρ nw nk → ν q 0 = μ p 0 → (∀ x, x < q ∨ q + 8 < x → ν x = μ x) → Q none ν) : jc E m_X5_copy (d + 1) [jm_R q, jm_R p] μ Q := by
  obtain ⟨⟨r0, r1, r2, r3, r4, r5, r6, r7, r8, r9⟩, n0, n1, z13⟩ := ht
  obtain ⟨w0, w1, w2, w3, w4, w5, w6, w7, w8, w9, w10, w11, w12⟩ := hW
  refine e_X5_copy (fun _ => ⟨hp, hq, fun m3 h3 m4 h4 m5 h5 m6 h6 m7 h7 m8 h8 m9 h9 m10 h10 => ?_⟩)
  -- the places beside it
  have o3 : ∀ x, x ≠ q → x ≠ q + 1 → m3 x = μ x := fun x x0 x1 => by rw [h3, jm_cpy_ne x1, jm_up_ne x0, jm_up_ne x0]
  have o4 : ∀ x, x ≠ q + 2 → m4 x = m3 x := fun x x0 => by rw [h4, jm_cpy_ne x0]
  have o5 : ∀ x, x ≠ q → x ≠ q + 3 → m5 x = m4 x := fun x x0 x1 => by rw [h5, jm_cpy_ne x1, jm_up_ne x0]
  have o6 : ∀ x, x ≠ q + 4 → m6 x = m5 x := fun x x0 => by rw [h6, jm_cpy_ne x0]
  have o7 : ∀ x, x ≠ q + 5 → m7 x = m6 x := fun x x0 => by rw [h7, jm_cpy_ne x0]
  have o8 : ∀ x, x ≠ q + 6 → m8 x = m7 x := fun x x0 => by rw [h8, jm_cpy_ne x0]
  have o9 : ∀ x, x ≠ q + 7 → m9 x = m8 x := fun x x0 => by rw [h9, jm_cpy_ne x0]
  have oa : ∀ x, x ≠ q → x ≠ q + 8 → m10 x = m9 x := fun x x0 x1 => by rw [h10, jm_cpy_ne x1, jm_up_ne x0, jm_up_ne x0]
  have e4 : ∀ x, x ≠ q → x ≠ q + 1 → x ≠ q + 2 → m4 x = μ x := fun x x0 x1 x2 => by rw [o4 x x2, o3 x x0 x1]
  have e5 : ∀ x, (x < q ∨ q + 3 < x) → m5 x = μ x := fun x hx => by rw [o5 x (by omega) (by omega), e4 x (by omega) (by omega) (by omega)]
  have e6 : ∀ x, (x < q ∨ q + 4 < x) → m6 x = μ x := fun x hx => by rw [o6 x (by omega), e5 x (by omega)]
  have e7 : ∀ x, (x < q ∨ q + 5 < x) → m7 x = μ x := fun x hx => by rw [o7 x (by omega), e6 x (by omega)]
  have e8 : ∀ x, (x < q ∨ q + 6 < x) → m8 x = μ x := fun x hx => by rw [o8 x (by omega), e7 x (by omega)]
  have e9 : ∀ x, (x < q ∨ q + 7 < x) → m9 x = μ x := fun x hx => by rw [o9 x (by omega), e8 x (by omega)]
  have ea : ∀ x, (x < q ∨ q + 8 < x) → m10 x = μ x := fun x hx => by rw [oa x (by omega) (by omega), e9 x (by omega)]
  have pa := ea p (by omega)
  rw [pa]
  have k3 : ∀ j, m3 q j = jm_up (jm_up μ q 0 (μ p 0)) q 1 (μ p 1) q j := fun j => by rw [h3, jm_cpy_ne (by omega)]
  have k4 : ∀ j, m4 q j = m3 q j := fun j => by rw [o4 q (by omega)]
  have k5 : ∀ j, j ≠ 4 → m5 q j = m4 q j := fun j hj => by rw [h5, jm_cpy_ne (by omega), jm_up_i hj]
  have k9 : ∀ j, m9 q j = m5 q j := fun j => by rw [o9 q (by omega), o8 q (by omega), o7 q (by omega), o6 q (by omega)]
  have ka : ∀ j, j ≠ 10 → j ≠ 11 → m10 q j = m9 q j := fun j j0 j1 => by rw [h10, jm_cpy_ne (by omega), jm_up_i j1, jm_up_i j0]
  have v0 : m10 q 0 = μ p 0 := by rw [ka 0 (by decide) (by decide), k9, k5 0 (by decide), k4, k3, jm_up_i (by decide), jm_up_at]
  have v1 : m10 q 1 = μ p 1 := by rw [ka 1 (by decide) (by decide), k9, k5 1 (by decide), k4, k3, jm_up_at]
  have v4 : m10 q 4 = μ p 4 := by rw [ka 4 (by decide) (by decide), k9, h5, jm_cpy_ne (by omega), jm_up_at, e4 p (by omega) (by omega) (by omega)]
  have v10 : m10 q 10 = μ p 10 := by rw [h10, jm_cpy_ne (by omega), jm_up_i (by decide), jm_up_at, e9 p (by omega)]
  have v11 : m10 q 11 = μ p 11 := by rw [h10, jm_cpy_ne (by omega), jm_up_at, e9 p (by omega)]
  have a1 : ∀ j, 0 ≤ j → j < 8 → m10 (q + 1) j = μ (p + 1) j := fun j j0 j1 => by rw [oa _ (by omega) (by omega), o9 _ (by omega), o8 _ (by omega), o7 _ (by omega), o6 _ (by omega), o5 _ (by omega) (by omega), o4 _ (by omega), h3, jm_cpy_at j0 j1, jm_up_ne (by omega), jm_up_ne (by omega)]
  have a2 : ∀ j, 0 ≤ j → j < 8 → m10 (q + 2) j = μ (p + 2) j := fun j j0 j1 => by rw [oa _ (by omega) (by omega), o9 _ (by omega), o8 _ (by omega), o7 _ (by omega), o6 _ (by omega), o5 _ (by omega) (by omega), h4, jm_cpy_at j0 j1, o3 _ (by omega) (by omega)]
  have a3 : ∀ j, 0 ≤ j → j < 10 → m10 (q + 3) j = μ (p + 3) j := fun j j0 j1 => by rw [oa _ (by omega) (by omega), o9 _ (by omega), o8 _ (by omega), o7 _ (by omega), o6 _ (by omega), h5, jm_cpy_at j0 j1, jm_up_ne (by omega), e4 _ (by omega) (by omega) (by omega)]
  have a4 : ∀ j, 0 ≤ j → j < 10 → m10 (q + 4) j = μ (p + 4) j := fun j j0 j1 => by rw [oa _ (by omega) (by omega), o9 _ (by omega), o8 _ (by omega), o7 _ (by omega), h6, jm_cpy_at j0 j1, e5 _ (by omega)]
  have a5 : ∀ j, 0 ≤ j → j < 10 → m10 (q + 5) j = μ (p + 5) j := fun j j0 j1 => by rw [oa _ (by omega) (by omega), o9 _ (by omega), o8 _ (by omega), h7, jm_cpy_at j0 j1, e6 _ (by omega)]
  have a6 : ∀ j, 0 ≤ j → j < 10 → m10 (q + 6) j = μ (p + 6) j := fun j j0 j1 => by rw [oa _ (by omega) (by omega), o9 _ (by omega), h8, jm_cpy_at j0 j1, e7 _ (by omega)]
  have a7 : ∀ j, 0 ≤ j → j < 10 → m10 (q + 7) j = μ (p + 7) j := fun j j0 j1 => by rw [oa _ (by omega) (by omega), h9, jm_cpy_at j0 j1, e8 _ (by omega)]
  have a8 : ∀ j, 0 ≤ j → j < 6 → m10 (q + 8) j = μ (p + 8) j := fun j j0 j1 => by rw [h10, jm_cpy_at j0 j1, jm_up_ne (by omega), jm_up_ne (by omega), e9 _ (by omega)]
  refine ⟨z13, by rw [r4]; exact w8, by rw [r5]; exact w9, ?_⟩
  generalize hM : jm_up (jm_up (jm_up m10 q 13 (μ p 13)) q 14 (μ p 14)) q 15 (μ p 15) = M
  have mq : ∀ j, j ≠ 13 → j ≠ 14 → j ≠ 15 → M q j = m10 q j := fun j j0 j1 j2 => by rw [← hM, jm_up_i j2, jm_up_i j1, jm_up_i j0]
  have mx : ∀ x, x ≠ q → M x = m10 x := fun x hx => by rw [← hM, jm_up_ne hx, jm_up_ne hx, jm_up_ne hx]
  have m13 : M q 13 = μ p 13 := by rw [← hM, jm_up_i (by decide), jm_up_i (by decide), jm_up_at]
  have m14 : M q 14 = μ p 14 := by rw [← hM, jm_up_i (by decide), jm_up_at]
  have m15 : M q 15 = μ p 15 := by rw [← hM, jm_up_at]
  refine h M ⟨⟨?_, ?_, ?_, ?_, ?_, ?_, fun z => ?_, fun i i0 i1 => ?_, fun i i0 i1 => ?_, fun k k0 k1 => ⟨?_, ?_, ?_, ?_⟩⟩, fun i i0 i1 => ?_, fun i i0 i1 => ?_, ?_⟩ ?_ (fun x hx => by rw [mx x (by omega)]; exact ea x hx)
  · rw [mq 1 (by decide) (by decide) (by decide), v1]; exact r0
  · rw [mq 4 (by decide) (by decide) (by decide), v4]; exact r1
  · rw [mq 10 (by decide) (by decide) (by decide), v10]; exact r2
  · rw [mq 11 (by decide) (by decide) (by decide), v11]; exact r3
  · rw [m14]; exact r4
  · rw [m15]; exact r5
  · rw [mx _ (by omega), a8 0 (by decide) (by decide)]; exact r6 z
  · rw [mx _ (by omega), a8 i i0 (by omega)]; exact r7 i i0 i1
  · rw [mx _ (by omega), a2 i i0 (by omega)]; exact r8 i i0 i1
  · rw [mx _ (by omega), a4 k k0 (by omega)]; exact (r9 k k0 k1).1
  · rw [mx _ (by omega), a5 k k0 (by omega)]; exact (r9 k k0 k1).2.1
  · rw [mx _ (by omega), a6 k k0 (by omega)]; exact (r9 k k0 k1).2.2.1
  · rw [mx _ (by omega), a7 k k0 (by omega)]; exact (r9 k k0 k1).2.2.2
  · rw [mx _ (by omega), a1 i i0 (by omega)]; exact n0 i i0 i1
  · rw [mx _ (by omega), a3 i i0 (by omega)]; exact n1 i i0 i1
  · rw [m13]; exact z13
  · rw [mq 0 (by decide) (by decide) (by decide), v0]
end DA
