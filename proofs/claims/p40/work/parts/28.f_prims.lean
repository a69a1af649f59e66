/-! at a token, on either side -/
def kAt (μ : jm_M) (τ : Int → Int) (n lim p : Int) : Prop := sTx τ n ∧ tTx μ τ n ∧ μ 1 2 = lim ∧ kIt (μ 1 7) ∧ 0 ≤ p ∧ p ≤ n ∧ tTo μ n lim (sTok τ n lim p)
/-- where it goes on behind the token -/
abbrev sNx1 (τ : Int → Int) (n lim p : Int) : Int := (sTok τ n lim p).2.2.1
def kEr (μ ν : jm_M) (f pl : Int) : Prop := (∀ x, x ≠ 1 → ν x = μ x) ∧ (∀ j, j ≠ 9 → j ≠ 10 → ν 1 j = μ 1 j) ∧ ν 1 9 = f ∧ ν 1 10 = pl
theorem kAt.of {μ ν : jm_M} {τ : Int → Int} {n lim p : Int} (h : kAt μ τ n lim p) (h1 : ν 1 = μ 1) (h2 : ν 2 = μ 2) : kAt ν τ n lim p := by
  obtain ⟨a1, a2, a3, a4, a5, a6, a7⟩ := h
  exact ⟨a1, ⟨by rw [h1]; exact a2.1, fun i i0 i1 => by rw [h2]; exact a2.2 i i0 i1⟩, by rw [h1]; exact a3, by rw [h1]; exact a4, a5, a6, by unfold tTo; rw [h1]; exact a7⟩
theorem kAt.s1 {μ : jm_M} {τ : Int → Int} {n lim p : Int} (h : kAt μ τ n lim p) : (μ 1 4 = 1 ↔ (sTok τ n lim p).1 = 2) ∧ (μ 1 4 = 2 ↔ (sTok τ n lim p).1 = 3) ∧ (μ 1 4 = 3 ↔ (sTok τ n lim p).1 = 4) ∧ ((sTok τ n lim p).1 = 0 ↔ μ 1 4 = 0 ∧ n ≤ lim) := by
  have hs := sTok_so (τ := τ) (n := n) (lim := lim) (p := p)
  obtain ⟨t5, t0, t1, t2, t3, t4, _⟩ := h.2.2.2.2.2.2
  generalize (sTok τ n lim p).1 = s at hs t0 t1 t2 t3 t4
  rcases (show s = 0 ∨ s = 1 ∨ s = 2 ∨ s = 3 ∨ s = 4 by omega) with rfl | rfl | rfl | rfl | rfl
  · have := t0 rfl; omega
  · have := t1 rfl; omega
  · have := (t2 rfl).1; omega
  · have := (t3 rfl).1; omega
  · have := (t4 rfl).1; omega
theorem kAt.it {μ : jm_M} {τ : Int → Int} {n lim p : Int} (h : kAt μ τ n lim p) (h4 : μ 1 4 = 1) : jm_it (μ 1 7) := by
  have t := sTm_in (v := (sTok τ n lim p).2.2.2)
  rw [(h.2.2.2.2.2.2.2.2.2.1 (h.s1.1.mp h4)).2.2]
  unfold jm_it
  omega
section PK
variable {E : jm_E} {d : Nat} {μ : jm_M} {Q : Option jm_V → jm_M → Prop} {τ : Int → Int} {n lim p : Int}
theorem c_K_adv (h0 : kAt μ τ n lim p) (hs : 2 ≤ (sTok τ n lim p).1) (h : ∀ ν, tKf μ ν → kAt ν τ n lim (sNx1 τ n lim p) → Q none ν) : jc E m_X7_advance (d + 3) [jm_R 1] μ Q := by
  obtain ⟨a1, a2, a3, a4, a5, a6, a7⟩ := h0
  have nx := sTok_nx a5 a6 hs
  exact c_K_advance a1 a2 a3 (a7.2.2.2.2.2.2 hs) a4 (by omega) nx.2 (fun ν f i t => h ν f ⟨a1, tTx_of f a2, by rw [f.2 2 (by omega)]; exact a3, i, by show 0 ≤ (sTok τ n lim p).2.2.1; omega, nx.2, t⟩)
theorem c_K_fails {f pl : Int} (h : ∀ ν, kEr μ ν f pl → Q (some (jm_I 0)) ν) : jc E m_X7_fails (d + 1) [jm_R 1, jm_I f, jm_I pl] μ Q :=
  e_X7_fails (fun _ => h _ ⟨fun x hx => by rw [jm_up_ne hx, jm_up_ne hx], fun j j9 j10 => by rw [jm_up_i j10, jm_up_i j9], by rw [jm_up_i (by decide), jm_up_at], jm_up_at⟩)
theorem c_K_isTerm {t : Int} (h0 : kAt μ τ n lim p) (t0 : 0 ≤ t) (t1 : t ≤ 25) (ht : (sTok τ n lim p).1 = 2 → sTm (sTok τ n lim p).2.2.2 = t → Q (some (jm_I 1)) μ) (hf : ¬ ((sTok τ n lim p).1 = 2 ∧ sTm (sTok τ n lim p).2.2.2 = t) → Q (some (jm_I 0)) μ) {r : Int} (hr : r = -11 - t) : jc E m_X7_isTerm (d + 1) [jm_R 1, jm_R r] μ Q := by
  subst hr
  have s := h0.s1
  refine e_X7_isTerm (fun _ => ⟨fun z => hf (fun q => z (s.1.mpr q.1)), fun z => ⟨h0.it (Decidable.not_not.mp z), by unfold jm_it; omega, fun z2 => ?_, fun z2 => ?_⟩⟩)
  · have e := s.1.mp (Decidable.not_not.mp z)
    have := (h0.2.2.2.2.2.2.2.2.2.1 e).2.2
    exact hf (fun q => z2 (by rw [this, q.2]))
  · have e := s.1.mp (Decidable.not_not.mp z)
    have := (h0.2.2.2.2.2.2.2.2.2.1 e).2.2
    exact ht e (by omega)
theorem c_K_isName (h0 : kAt μ τ n lim p) (ht : (sTok τ n lim p).1 = 2 → sTm (sTok τ n lim p).2.2.2 = 0 → Q (some (jm_I 1)) μ) (hf : ¬ ((sTok τ n lim p).1 = 2 ∧ sTm (sTok τ n lim p).2.2.2 = 0) → Q (some (jm_I 0)) μ) : jc E m_X7_isName (d + 1) [jm_R 1] μ Q := by
  have s := h0.s1
  refine e_X7_isName (fun _ => ⟨fun z => hf (fun q => z (s.1.mpr q.1)), fun z => ⟨h0.it (Decidable.not_not.mp z), by unfold jm_it; omega, fun z2 => ?_, fun z2 => ?_⟩⟩)
  · have e := s.1.mp (Decidable.not_not.mp z)
    have := (h0.2.2.2.2.2.2.2.2.2.1 e).2.2
    exact hf (fun q => z2 (by rw [this, q.2]; decide))
  · have e := s.1.mp (Decidable.not_not.mp z)
    have := (h0.2.2.2.2.2.2.2.2.2.1 e).2.2
    exact ht e (by omega)
theorem c_K_isSign {c : Int} (h0 : kAt μ τ n lim p) (ht : (sTok τ n lim p).1 = 4 → (sTok τ n lim p).2.2.2 = c → Q (some (jm_I 1)) μ) (hf : ¬ ((sTok τ n lim p).1 = 4 ∧ (sTok τ n lim p).2.2.2 = c) → Q (some (jm_I 0)) μ) : jc E m_X7_isSign (d + 1) [jm_R 1, jm_I c] μ Q := by
  have s := h0.s1
  refine e_X7_isSign (fun _ => ⟨fun z => hf (fun q => z (s.2.2.1.mpr q.1)), fun z => ⟨fun z2 => ?_, fun z2 => ?_⟩⟩)
  · have e := s.2.2.1.mp (Decidable.not_not.mp z)
    have := (h0.2.2.2.2.2.2.2.2.2.2.2.1 e).2
    exact hf (fun q => z2 (by rw [this, q.2]))
  · have e := s.2.2.1.mp (Decidable.not_not.mp z)
    have := (h0.2.2.2.2.2.2.2.2.2.2.2.1 e).2
    exact ht e (by omega)
theorem c_K_takes {c : Int} (h0 : kAt μ τ n lim p) (ht : (sTok τ n lim p).1 = 4 → (sTok τ n lim p).2.2.2 = c → ∀ ν, tKf μ ν → kAt ν τ n lim (sNx1 τ n lim p) → Q (some (jm_I 1)) ν) (hf : ¬ ((sTok τ n lim p).1 = 4 ∧ (sTok τ n lim p).2.2.2 = c) → ∀ ν, kEr μ ν 1 (sTok τ n lim p).2.1 → Q (some (jm_I 0)) ν) : jc E m_X7_takes (d + 4) [jm_R 1, jm_I c] μ Q := by
  refine e_X7_takes (d := d + 3) (fun _ => c_K_isSign h0 (fun a b => jq_Z (jb_t (by decide) (c_K_adv h0 (by omega) (fun ν f k _ => ht a b ν f k)))) (fun z => jq_Z (jb_f (by decide) ?_)))
  rw [h0.2.2.2.2.2.2.1]
  exact c_K_fails (fun ν e => jq_Z (hf z ν e))
theorem c_K_isNumber {lo hi : Int} (h0 : kAt μ τ n lim p) (ht : (sTok τ n lim p).1 = 3 → lo ≤ (sTok τ n lim p).2.2.2 → (sTok τ n lim p).2.2.2 ≤ hi → Q (some (jm_I 1)) μ) (h1 : (sTok τ n lim p).1 ≠ 3 → ∀ ν, kEr μ ν 1 (sTok τ n lim p).2.1 → Q (some (jm_I 0)) ν) (h2 : (sTok τ n lim p).1 = 3 → ¬ (lo ≤ (sTok τ n lim p).2.2.2 ∧ (sTok τ n lim p).2.2.2 ≤ hi) → ∀ ν, kEr μ ν 2 (sTok τ n lim p).2.1 → Q (some (jm_I 0)) ν) : jc E m_X7_isNumber (d + 2) [jm_R 1, jm_I lo, jm_I hi] μ Q := by
  have s := h0.s1
  have e5 := h0.2.2.2.2.2.2.1
  refine e_X7_isNumber (d := d + 1) (fun _ => ?_)
  rw [e5]
  refine ⟨fun z => ?_, fun z => c_K_fails (fun ν e => jq_Z (h1 (fun q => z (s.2.1.mpr q)) ν e))⟩
  have e := s.2.1.mp z
  have v := (h0.2.2.2.2.2.2.2.2.2.2.1 e).2
  rw [v]
  exact ⟨fun z2 => c_K_fails (fun ν er => jq_Z (jb_t rfl (h2 e (by omega) ν er))), fun z2 => ⟨fun z3 => ht e (by omega) z3, fun z3 => c_K_fails (fun ν er => jq_Z (jb_t rfl (h2 e (by omega) ν er)))⟩⟩
theorem c_K_closes (h0 : kAt μ τ n lim p) (ht : (sTok τ n lim p).1 = 0 → Q (some (jm_I 1)) μ) (hf : (sTok τ n lim p).1 ≠ 0 → ∀ ν, kEr μ ν 1 (sTok τ n lim p).2.1 → Q (some (jm_I 0)) ν) : jc E m_X7_closes (d + 2) [jm_R 1] μ Q := by
  have s := h0.s1
  refine e_X7_closes (d := d + 1) (fun _ => ?_)
  rw [h0.2.2.2.2.2.2.1, h0.2.1.1, h0.2.2.1]
  exact ⟨fun z => c_K_fails (fun ν er => jq_Z (jb_t rfl (hf (fun q => z (s.2.2.2.mp q).1) ν er))), fun z => ⟨fun z2 => ht (s.2.2.2.mpr ⟨Decidable.not_not.mp z, z2⟩), fun z2 => c_K_fails (fun ν er => jq_Z (jb_t rfl (hf (fun q => z2 (s.2.2.2.mp q).2) ν er)))⟩⟩
theorem jm_cmp_ne {a b : Int} : jm_cmp a b ≠ 0 ↔ a ≠ b := by
  unfold jm_cmp
  split
  · exact ⟨fun _ => by omega, fun _ => by decide⟩
  · split
    · rename_i q; exact ⟨fun z => absurd rfl z, fun z => absurd q z⟩
    · rename_i q; exact ⟨fun _ => q, fun _ => by decide⟩
end PK
