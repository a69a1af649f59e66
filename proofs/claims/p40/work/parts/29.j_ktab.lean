/-! the call of a table, in the class -/
section KC
variable {E : jm_E} {d : Nat} {μ : jm_M} {Q : Option jm_V → jm_M → Prop} {τ : Int → Int} {n lim p : Int} {T : zTs}
/-- what is told by a table alone -/
def zD0 (T : zTs) : sDk := (T.1, fun _ => 0, 0, T.2.1, T.2.2, 0, fun _ => 0, (fun _ => 0, fun _ => 0, fun _ => 0, 0))
theorem c_C_after {v s : Int} (h0 : v = 0 → Q (some (jm_I (jm_wr (-1 - μ 1 10)))) (jm_up μ 1 1 0)) (h1 : v ≠ 0 → Q (some (jm_I s)) (jm_up μ 1 1 0)) : jc E m_X10_afterReading (d + 1) [jm_R 0, jm_I v, jm_I s] μ Q := e_X10_afterReading (fun _ => ⟨h0, h1⟩)
theorem c_C_table (hX : sTx τ n) (ht : tTx μ τ n) (h1 : ∀ e, zRtb (sTok τ n 900) 471 zT0 0 0 = .error e → ∀ ν, (∀ x, x ≠ 1 → x < 12 ∨ 20 < x → ν x = μ x) → (∀ j, j = 0 ∨ 10 < j → ν 1 j = μ 1 j) → ν 1 1 = 0 → ν 1 9 = e.1 → Q (some (jm_I (jm_wr (-1 - e.2)))) ν)
    (h2 : ∀ x, zRtb (sTok τ n 900) 471 zT0 0 0 = .ok x → ∀ ν, (∀ y, y ≠ 1 → y < 3 ∨ 21 < y → y ≠ 69 → y ≠ 75 → ν y = μ y) → (∀ i, i ≠ 0 → i ≠ 1 → i ≠ 2 → ν 21 i = μ 21 i) → (∀ j, j = 0 ∨ 10 < j → ν 1 j = μ 1 j) → ν 1 1 = 0 → ν 1 9 = 0 → zTi x.1 → cDk ν (zD0 x.1) → Q (some (jm_I x.2)) ν) : jc E m_X10_table (d + 8) [jm_R 0] μ Q := by
  refine e_X10_table (d := d + 7) (fun _ => c_K_read hX ht (fun e he m1 a1 a2 a9 a10 => jq_Z (jb_t rfl ?_)) (fun x hx m1 a1 a2 a9 a0 aT => jq_Z (jb_f (by decide) ?_)))
  · refine c_C_after (fun _ => jq_I ?_) (fun z => absurd rfl z)
    rw [a10]
    exact h1 e he _ (fun x x1 x2 => by rw [jm_up_ne x1]; exact a1 x x1 x2) (fun j hj => by rw [jm_up_i (by omega)]; exact a2 j (by omega)) jm_up_at (by rw [jm_up_i (by decide)]; exact a9)
  · refine c_T_tcopy (p := 12) (q := 3) is_12 is_3 (by decide) aT.2.2.1 aT.1 (fun m7 b1 b0 b2 _ => ?_)
    refine c_T_begin (a := 21) (p := 3) (c := 400) ⟨Or.inl rfl, Or.inl rfl, rfl⟩ aT.2.2.1 b1.1 (fun m8 c1 c2 c3 _ => ?_)
    refine e_X1_clear (fun _ => ⟨is_69, fun _ => ?_⟩)
    refine e_X4_clear (fun _ => ⟨is_75, fun _ => ?_⟩)
    have g : ∀ y, y ≠ 69 → y ≠ 75 → jm_up (jm_up (jm_up (jm_up m8 69 0 0) 69 1 0) 75 0 0) 75 1 0 y = m8 y := fun y y0 y1 => by rw [jm_up_ne y1, jm_up_ne y1, jm_up_ne y0, jm_up_ne y0]
    have u0 : jm_up (jm_up (jm_up (jm_up m8 69 0 0) 69 1 0) 75 0 0) 75 1 0 69 0 = 0 := by rw [jm_up_lj (by decide), jm_up_lj (by decide), jm_up_i (by decide), jm_up_at]
    have u1 : jm_up (jm_up (jm_up (jm_up m8 69 0 0) 69 1 0) 75 0 0) 75 1 0 69 1 = 0 := by rw [jm_up_lj (by decide), jm_up_lj (by decide), jm_up_at]
    have u2 : jm_up (jm_up (jm_up (jm_up m8 69 0 0) 69 1 0) 75 0 0) 75 1 0 75 1 = 0 := jm_up_at
    generalize jm_up (jm_up (jm_up (jm_up m8 69 0 0) 69 1 0) 75 0 0) 75 1 0 = m at g u0 u1 u2 ⊢
    refine c_C_after (fun z => absurd z (by decide)) (fun _ => jq_I ?_)
    rw [g 3 (by decide) (by decide), c2 3 (by decide), b0, a0]
    have fr : ∀ y, y ≠ 1 → y < 3 ∨ 21 < y → y ≠ 69 → y ≠ 75 → m y = μ y := fun y y1 y2 y3 y4 => by rw [g y y3 y4, c2 y (by omega), b2 y (by omega), a1 y y1 (by omega)]
    have fs : ∀ y, y ≠ 1 → y ≠ 69 → y ≠ 75 → jm_up m 1 1 0 y = m8 y := fun y y1 y3 y4 => by rw [jm_up_ne y1, g y y3 y4]
    have f1 : ∀ j, m 1 j = m1 1 j := fun j => by rw [g 1 (by decide) (by decide), c2 1 (by decide), b2 1 (by decide)]
    refine h2 x hx _ (fun y y1 y2 y3 y4 => by rw [jm_up_ne y1]; exact fr y y1 y2 y3 y4) (fun i i0 i1 i2 => by rw [fs 21 (by decide) (by decide) (by decide), c3 i i0 i1 i2, b2 21 (by decide), a1 21 (by decide) (by decide)]) (fun j hj => by rw [jm_up_i (by omega), f1]; exact a2 j (by omega)) jm_up_at (by rw [jm_up_i (by decide), f1]; exact a9) aT.2.2 ⟨?_, ⟨?_, 3, Or.inl rfl, ?_⟩, ⟨?_, ?_, fun t t0 t1 => absurd (show t < 0 from t1) (by omega)⟩, ?_, fun i i0 i1 => absurd (show i < 0 from i1) (by omega)⟩
    · exact tTb_of (fun q q0 q1 => by rw [fs q (by omega) (by omega) (by omega), c2 q (by omega)]) b1
    · exact tRu_of (fun q q0 q1 => by rw [fs q (by omega) (by omega) (by omega), c2 q (by omega)]) b1.1
    · obtain ⟨h0, h3, hW, hr, hb, hG, hc⟩ := c1
      exact ⟨h0, by rw [fs 21 (by decide) (by decide) (by decide)]; exact h3, hW, tRu_of (fun q q0 q1 => fs q (by omega) (by omega) (by omega)) hr, ⟨by rw [fs 21 (by decide) (by decide) (by decide)]; exact hb.1, by rw [fs 21 (by decide) (by decide) (by decide)]; exact hb.2.1, fun f t f0 f5 t0 t1 => absurd (show t < 0 from t1) (by omega)⟩, hG, hc⟩
    · rw [jm_up_lj (by decide)]; exact u0
    · rw [jm_up_lj (by decide)]; exact u1
    · rw [jm_up_lj (by decide)]; exact u2
end KC
