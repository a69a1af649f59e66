/-! torn minutes: the call of the class -/
section KU
variable {E : jm_E} {d : Nat} {μ : jm_M} {Q : Option jm_V → jm_M → Prop} {τ : Int → Int} {n lim p : Int} {T : zTs} {M : zMs}
theorem c_C_minutes (hX : sTx τ n) (ht : tTx μ τ n) (hW : sWR T.1) (hT : tTb μ 3 T.1 T.2.1 T.2.2) (h1 : ∀ e, zMt (sTok τ n 300) T 471 zM0 0 = .error e → ∀ ν, (∀ x, x ≠ 1 → x < 72 ∨ 74 < x → ν x = μ x) → (∀ j, j = 0 ∨ 10 < j → ν 1 j = μ 1 j) → ν 1 1 = 0 → ν 1 9 = e.1 → Q (some (jm_I (jm_wr (-1 - e.2)))) ν)
    (h2 : ∀ x, zMt (sTok τ n 300) T 471 zM0 0 = .ok x → zMi T.1 x → ∀ ν, (∀ y, y ≠ 1 → y < 69 ∨ 74 < y → ν y = μ y) → (∀ j, j = 0 ∨ 10 < j → ν 1 j = μ 1 j) → ν 1 1 = 0 → ν 1 9 = 0 → tMn ν 69 x.2.1 x.1 → Q (some (jm_I x.2.1)) ν) : jc E m_X10_minutes (d + 7) [jm_R 0] μ Q := by
  refine e_X10_minutes (d := d + 6) (fun _ => e_X1_read (d := d + 5) (fun _ => ⟨is_72, e_X1_clear (d := d + 4) (fun _ => ⟨is_72, fun _ => ?_⟩)⟩))
  have g0 : ∀ x, x ≠ 72 → jm_up (jm_up μ 72 0 0) 72 1 0 x = μ x := fun x hx => by rw [jm_up_ne hx, jm_up_ne hx]
  have k0 : jm_up (jm_up μ 72 0 0) 72 1 0 72 0 = 0 := by rw [jm_up_i (by decide), jm_up_at]
  have k1 : jm_up (jm_up μ 72 0 0) 72 1 0 72 1 = 0 := jm_up_at
  generalize jm_up (jm_up μ 72 0 0) 72 1 0 = m0 at g0 k0 k1 ⊢
  have t0 : tTx m0 τ n := ⟨by rw [g0 1 (by decide)]; exact ht.1, fun i i0 i1 => by rw [g0 2 (by decide)]; exact ht.2 i i0 i1⟩
  refine c_K_open (d := d + 1) hX t0 (fun m1 a1 a2 a9 a10 aA _ => ?_)
  have nX : ∀ q : Int, q < 72 ∨ 74 < q → ¬ kX q := fun q hq y => by have : 72 ≤ q ∧ q ≤ 74 := y; omega
  have fr : ∀ x, x ≠ 1 → x ≠ 72 → m1 x = μ x := fun x x1 x2 => by rw [a1 x x1, g0 x x2]
  have sl : ∀ j, j = 0 ∨ 10 < j → m1 1 j = μ 1 j := fun j hj => by rw [a2 j (by omega), g0 1 (by decide)]
  refine g_K_mread 471 0 0 zM0 m1 (by decide) (by decide) (by decide) hW (tTb_of (fun q q0 q1 => fr q (by omega) (by omega)) hT) aA ⟨by rw [a1 72 (by decide)]; exact k0, by rw [a1 72 (by decide)]; exact k1, fun t t0 t1 => absurd (show t < 0 from t1) (by omega)⟩ zMi_0 (fun e he ξ fe => jq_Z (jb_t rfl ?_)) (fun x hx ξ fo xm xi => jq_Z (jb_f (by decide) ?_))
  · refine c_C_after (fun _ => jq_I ?_) (fun z => absurd rfl z)
    rw [fe.2.2.2]
    exact h1 e he _ (fun x x1 x2 => by rw [jm_up_ne x1, fe.1 x x1 (nX x x2), fr x x1 (by omega)]) (fun j hj => by rw [jm_up_i (by omega), fe.2.1 j (by omega), sl j hj]) jm_up_at (by rw [jm_up_i (by decide)]; exact fe.2.2.1)
  · have tm : tMn ξ 72 x.2.1 x.1 := ⟨xm.1, by rw [xm.2.1]; exact xi.2, fun t t0 t1 => xm.2.2 t t0 t1⟩
    refine c_T_mcopy (p := 72) (q := 69) is_72 is_69 (by decide) xi.1.1 tm (fun m7 b1 b2 _ => ?_)
    refine c_C_after (fun z => absurd z (by decide)) (fun _ => jq_I ?_)
    rw [b1.1]
    refine h2 x hx xi _ (fun y y1 y2 => by rw [jm_up_ne y1, b2 y (by omega), fo.1 y y1 (nX y (by omega)), fr y y1 (by omega)]) (fun j hj => by rw [jm_up_i (by omega), b2 1 (by decide), fo.2 j (by omega), sl j hj]) jm_up_at (by rw [jm_up_i (by decide), b2 1 (by decide), fo.2 9 (by decide), a9]) ?_
    exact ⟨by rw [jm_up_lj (by decide)]; exact b1.1, by rw [jm_up_lj (by decide)]; exact b1.2.1, fun t t0 t1 => by rw [jm_up_lj (by decide), jm_up_lj (by decide)]; exact b1.2.2 t t0 t1⟩
end KU
