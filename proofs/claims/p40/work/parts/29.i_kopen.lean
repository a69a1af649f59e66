/-! a table, in the class: from its beginning -/
section KO
variable {E : jm_E} {d : Nat} {μ : jm_M} {Q : Option jm_V → jm_M → Prop} {τ : Int → Int} {n lim p : Int} {T : zTs}
theorem c_K_open (hX : sTx τ n) (ht : tTx μ τ n) (h : ∀ ν, (∀ x, x ≠ 1 → ν x = μ x) → (∀ j, j = 0 ∨ j = 1 ∨ 10 < j → ν 1 j = μ 1 j) → ν 1 9 = 0 → ν 1 10 = 0 → kAt ν τ n lim 0 → Q none ν) : jc E m_X7_open (d + 4) [jm_R 1, jm_I lim] μ Q := by
  refine e_X7_open (d := d + 3) (fun _ => ?_)
  have u : ∀ x, x ≠ 1 → jm_up (jm_up (jm_up (jm_up μ 1 2 lim) 1 3 0) 1 9 0) 1 10 0 x = μ x := fun x hx => by rw [jm_up_ne hx, jm_up_ne hx, jm_up_ne hx, jm_up_ne hx]
  have o : ∀ j, j = 0 ∨ j = 1 ∨ 10 < j → jm_up (jm_up (jm_up (jm_up μ 1 2 lim) 1 3 0) 1 9 0) 1 10 0 1 j = μ 1 j := fun j hj => by rw [jm_up_i (by omega), jm_up_i (by omega), jm_up_i (by omega), jm_up_i (by omega)]
  have o2 : jm_up (jm_up (jm_up (jm_up μ 1 2 lim) 1 3 0) 1 9 0) 1 10 0 1 2 = lim := by rw [jm_up_i (by decide), jm_up_i (by decide), jm_up_i (by decide), jm_up_at]
  have o3 : jm_up (jm_up (jm_up (jm_up μ 1 2 lim) 1 3 0) 1 9 0) 1 10 0 1 3 = 0 := by rw [jm_up_i (by decide), jm_up_i (by decide), jm_up_at]
  have o9 : jm_up (jm_up (jm_up (jm_up μ 1 2 lim) 1 3 0) 1 9 0) 1 10 0 1 9 = 0 := by rw [jm_up_i (by decide), jm_up_at]
  have oa : jm_up (jm_up (jm_up (jm_up μ 1 2 lim) 1 3 0) 1 9 0) 1 10 0 1 10 = 0 := jm_up_at
  generalize jm_up (jm_up (jm_up (jm_up μ 1 2 lim) 1 3 0) 1 9 0) 1 10 0 = m at *
  have t : tTx m τ n := ⟨by rw [o 1 (by omega)]; exact ht.1, fun i i0 i1 => by rw [u 2 (by decide)]; exact ht.2 i i0 i1⟩
  refine c_K_advance hX t o2 o3 trivial (by decide) hX.1 (fun ν f i k _ => h ν (fun x hx => by rw [f.1 x hx, u x hx]) (fun j hj => by rw [f.2 j (by omega), o j hj]) (by rw [f.2 9 (by omega), o9]) (by rw [f.2 10 (by omega), oa]) ⟨hX, tTx_of f t, by rw [f.2 2 (by omega)]; exact o2, i, by decide, hX.1, k⟩)
theorem c_T_clear (h : ∀ ν, (∀ x, x < 12 ∨ 20 < x → ν x = μ x) → ν 12 0 = 0 → kTb ν zT0 → Q none ν) : jc E m_X5_clear (d + 1) [jm_R 12] μ Q := by
  refine e_X5_clear (fun _ => ⟨is_12, fun m2 h2 => ?_⟩)
  have g : ∀ x, x ≠ 12 → x ≠ 20 → jm_up (jm_up (jm_up m2 12 13 0) 12 14 0) 12 15 0 x = μ x := fun x a b => by rw [jm_up_ne a, jm_up_ne a, jm_up_ne a, h2, jm_up_ne (show x ≠ 12 + 8 by omega), jm_up_ne a, jm_up_ne a, jm_up_ne a, jm_up_ne a, jm_up_ne a]
  have m : ∀ j, m2 12 j = jm_up (jm_up (jm_up (jm_up (jm_up μ 12 0 0) 12 1 0) 12 4 0) 12 10 0) 12 11 1 12 j := fun j => by rw [h2, jm_up_lj (by decide)]
  refine h _ (fun x hx => g x (by omega) (by omega)) ?_ ⟨⟨⟨?_, ?_, ?_, ?_, ?_, ?_, fun _ => ?_, fun i i0 i1 => absurd (show i < 0 from i1) (by omega), fun i i0 i1 => absurd (show i < 0 from i1) (by omega), fun i i0 i1 => absurd (show i < 0 from i1) (by omega)⟩, fun i i0 i1 => absurd (show i < 0 from i1) (by omega), fun i i0 i1 => absurd (show i < 0 from i1) (by omega), Or.inl ?_⟩, ?_, zTi_0⟩
  · rw [jm_up_i (by decide), jm_up_i (by decide), jm_up_i (by decide), m, jm_up_i (by decide), jm_up_i (by decide), jm_up_i (by decide), jm_up_i (by decide), jm_up_at]
  · rw [jm_up_i (by decide), jm_up_i (by decide), jm_up_i (by decide), m, jm_up_i (by decide), jm_up_i (by decide), jm_up_i (by decide)]; exact jm_up_at
  · rw [jm_up_i (by decide), jm_up_i (by decide), jm_up_i (by decide), m, jm_up_i (by decide), jm_up_i (by decide)]; exact jm_up_at
  · rw [jm_up_i (by decide), jm_up_i (by decide), jm_up_i (by decide), m, jm_up_i (by decide)]; exact jm_up_at
  · rw [jm_up_i (by decide), jm_up_i (by decide), jm_up_i (by decide), m]; exact jm_up_at
  · rw [jm_up_i (by decide)]; exact jm_up_at
  · exact jm_up_at
  · rw [jm_up_lj (by decide), jm_up_lj (by decide), jm_up_lj (by decide), h2]; exact jm_up_at
  · rw [jm_up_i (by decide), jm_up_i (by decide), jm_up_at]
  · rw [jm_up_i (by decide), jm_up_i (by decide)]; exact jm_up_at
theorem c_K_read (hX : sTx τ n) (ht : tTx μ τ n) (h1 : ∀ e, zRtb (sTok τ n 900) 471 zT0 0 0 = .error e → ∀ ν, (∀ x, x ≠ 1 → x < 12 ∨ 20 < x → ν x = μ x) → (∀ j, j = 0 ∨ j = 1 ∨ 10 < j → ν 1 j = μ 1 j) → ν 1 9 = e.1 → ν 1 10 = e.2 → Q (some (jm_I 0)) ν)
    (h2 : ∀ x, zRtb (sTok τ n 900) 471 zT0 0 0 = .ok x → ∀ ν, (∀ x, x ≠ 1 → x < 12 ∨ 20 < x → ν x = μ x) → (∀ j, j = 0 ∨ j = 1 ∨ 10 < j → ν 1 j = μ 1 j) → ν 1 9 = 0 → ν 12 0 = x.2 → kTb ν x.1 → Q (some (jm_I 1)) ν) : jc E m_X5_read (d + 7) [jm_R 12, jm_R 1] μ Q := by
  refine e_X5_read (d := d + 6) (fun _ => ⟨is_12, c_T_clear (fun m1 a1 a0 aT _ => ?_)⟩)
  have t1 : tTx m1 τ n := ⟨by rw [a1 1 (by decide)]; exact ht.1, fun i i0 i1 => by rw [a1 2 (by decide)]; exact ht.2 i i0 i1⟩
  refine c_K_open (d := d + 2) hX t1 (fun m3 b1 b2 b9 b10 bA _ => ?_)
  have nW : ∀ x : Int, x < 12 ∨ 20 < x → ¬ kW x := fun x hx q => by have : 12 ≤ x ∧ x ≤ 20 := q; omega
  refine g_read 471 0 0 zT0 m3 (by decide) (by decide) (by decide) (by rw [b1 12 (by decide)]; exact a0) bA (aT.of (fun q q0 q1 => b1 q (by omega))) (fun e he ξ fe => h1 e he ξ (fun x x1 x2 => by rw [fe.1 x x1 (nW x x2), b1 x x1, a1 x x2]) (fun j hj => by rw [fe.2.1 j (by omega), b2 j hj, a1 1 (by decide)]) fe.2.2.1 fe.2.2.2) (fun x hx ξ fo xo xt => h2 x hx ξ (fun y y1 y2 => by rw [fo.1 y y1 (nW y y2), b1 y y1, a1 y y2]) (fun j hj => by rw [fo.2 j (by omega), b2 j hj, a1 1 (by decide)]) (by rw [fo.2 9 (by omega), b9]) xo xt)
end KO
