/-! how many fillings there can be -/
def sPr (g : Int → Int) : Nat → Int → Int
  | 0, _ => 1
  | m + 1, t => g t * sPr g m (t + 1)
theorem sPr_ext {g g' : Int → Int} : ∀ (m : Nat) (i j : Int), (∀ s : Int, 0 ≤ s → s < m → g' (i + s) = g (j + s)) → sPr g' m i = sPr g m j
  | 0, _, _, _ => rfl
  | m + 1, i, j, h => by
    have h0 := h 0 (by decide) (by omega)
    simp only [Int.add_zero] at h0
    rw [sPr, sPr, h0, sPr_ext m (i + 1) (j + 1) (fun s s0 s1 => by rw [Int.add_assoc, Int.add_assoc, Int.add_comm 1 s]; rw [← Int.add_assoc, ← Int.add_assoc]; have := h (s + 1) (by omega) (by omega); rw [Int.add_assoc, Int.add_assoc]; exact this)]
theorem sPr_add {g : Int → Int} : ∀ (m n : Nat) (t : Int), sPr g (m + n) t = sPr g m t * sPr g n (t + m)
  | 0, n, t => by simp [sPr]
  | m + 1, n, t => by
    rw [show m + 1 + n = (m + n) + 1 by omega, sPr, sPr_add m n (t + 1), sPr, Int.mul_assoc, show t + 1 + (m : Int) = t + ((m + 1 : Nat) : Int) by omega]
theorem sPr_nn {g : Int → Int} : ∀ (m : Nat) (t : Int), (∀ s, t ≤ s → s < t + m → 0 ≤ g s) → 0 ≤ sPr g m t
  | 0, _, _ => show (0 : Int) ≤ 1 by decide
  | m + 1, t, h => Int.mul_nonneg (h t (Int.le_refl _) (by omega)) (sPr_nn m (t + 1) (fun s s0 s1 => h s (by omega) (by omega)))
/-- the ways to fill a word -/
def sGw (ρ : sR) (T : Int → Int) (s : Int) : Int := (if T (2 * s) = -1 then ρ 0 else 1) * (if T (2 * s + 1) = -1 then ρ 1 else 1)
/-- the ways to fill all -/
def sWays (ρ : sR) (T : Int → Int) (n : Nat) : Int := sPr (sGw ρ T) n 0
theorem sFl_len {α : Type} {g : Int → List α} {c : Int} (c0 : 0 ≤ c) : ∀ (m : Nat) (k : Int), (∀ j, k ≤ j → j < k + m → ((g j).length : Int) ≤ c) → ((sFl g m k).length : Int) ≤ m * c
  | 0, _, _ => by simp [sFl]
  | m + 1, k, h => by
    have h1 := h k (Int.le_refl _) (by omega)
    have h2 := sFl_len c0 m (k + 1) (fun j j0 j1 => h j (by omega) (by omega))
    have e : ((m + 1 : Nat) : Int) * c = m * c + c := by rw [Int.natCast_add, Int.add_mul]; simp
    rw [e]
    show ((g k ++ sFl g m (k + 1)).length : Int) ≤ _
    rw [List.length_append]
    omega
theorem sFl_len1 {α : Type} {g : Int → List α} {c x : Int} (c0 : 0 ≤ c) : ∀ (m : Nat) (k : Int), (∀ j, j ≠ x → g j = []) → (((g x).length : Int) ≤ c) → ((sFl g m k).length : Int) ≤ c
  | 0, _, _, _ => by simpa [sFl] using c0
  | m + 1, k, h, hx => by
    show ((g k ++ sFl g m (k + 1)).length : Int) ≤ _
    rw [List.length_append]
    by_cases hk : k = x
    · have hz : ∀ (m : Nat) (k : Int), x < k → sFl g m k = [] := by
        intro m
        induction m with
        | zero => exact fun _ _ => rfl
        | succ m ih => intro k hk; show g k ++ sFl g m (k + 1) = []; rw [h k (by omega), ih (k + 1) (by omega)]; rfl
      rw [hz m (k + 1) (by omega), hk]
      simpa using hx
    · rw [h k hk]
      have := sFl_len1 c0 m (k + 1) h hx
      simpa using this
theorem sFi_len {ρ : sR} {T : Int → Int} (hW : sWR ρ) : ∀ (r : Nat) (b : sB), ((sFi ρ T r b).length : Int) ≤ sPr (sGw ρ T) r b.2.1
  | 0, b => by simp [sFi, sPr]
  | r + 1, b => by
    have hP := hW.1
    have hK := hW.2.2.1
    have nb : ∀ a k, (sPush ρ b a k).2.1 = b.2.1 + 1 := fun a k => (sPush_c (ρ := ρ) (b := b) (who := a) (k := k) rfl).1
    obtain ⟨c, hc⟩ : ∃ c, c = sPr (sGw ρ T) r (b.2.1 + 1) := ⟨_, rfl⟩
    have c0 : 0 ≤ c := by
      rw [hc]
      refine sPr_nn r _ (fun s _ _ => ?_)
      unfold sGw
      refine Int.mul_nonneg ?_ ?_ <;> split <;> omega
    have hcc : ∀ a k, ((sFi ρ T r (sPush ρ b a k)).length : Int) ≤ c := fun a k => by
      have := sFi_len (T := T) hW r (sPush ρ b a k)
      rw [nb] at this
      rw [hc]
      exact this
    have inner : ∀ a, ((sFl (fun k => if (T (2 * b.2.1 + 1) = -1 ∨ T (2 * b.2.1 + 1) = k) ∧ sWr ρ b a k = 0 then sFi ρ T r (sPush ρ b a k) else []) (ρ 1).toNat 0).length : Int) ≤ (if T (2 * b.2.1 + 1) = -1 then ρ 1 else 1) * c := by
      intro a
      split
      · have := sFl_len (g := fun k => if (T (2 * b.2.1 + 1) = -1 ∨ T (2 * b.2.1 + 1) = k) ∧ sWr ρ b a k = 0 then sFi ρ T r (sPush ρ b a k) else []) c0 (ρ 1).toNat 0 (fun j j0 j1 => by
          show ((if (T (2 * b.2.1 + 1) = -1 ∨ T (2 * b.2.1 + 1) = j) ∧ sWr ρ b a j = 0 then sFi ρ T r (sPush ρ b a j) else []).length : Int) ≤ c
          split
          · exact hcc a j
          · simpa using c0)
        rw [show (((ρ 1).toNat : Nat) : Int) = ρ 1 by omega] at this
        exact this
      · rename_i hne
        rw [Int.one_mul]
        refine sFl_len1 (x := T (2 * b.2.1 + 1)) c0 (ρ 1).toNat 0 (fun j hj => if_neg (fun q => q.1.elim hne (fun q2 => hj q2.symm))) ?_
        show ((if (T (2 * b.2.1 + 1) = -1 ∨ T (2 * b.2.1 + 1) = T (2 * b.2.1 + 1)) ∧ sWr ρ b a (T (2 * b.2.1 + 1)) = 0 then sFi ρ T r (sPush ρ b a (T (2 * b.2.1 + 1))) else []).length : Int) ≤ c
        split
        · exact hcc a _
        · simpa using c0
    rw [sFi, sPr, ← hc, sGw, Int.mul_assoc]
    obtain ⟨c', hc'⟩ : ∃ c', c' = (if T (2 * b.2.1 + 1) = -1 then ρ 1 else 1) * c := ⟨_, rfl⟩
    rw [← hc'] at inner ⊢
    have c0' : 0 ≤ c' := by rw [hc']; refine Int.mul_nonneg ?_ c0; split <;> omega
    generalize hF : (fun a : Int => sFl (fun k => if (T (2 * b.2.1 + 1) = -1 ∨ T (2 * b.2.1 + 1) = k) ∧ sWr ρ b a k = 0 then sFi ρ T r (sPush ρ b a k) else []) (ρ 1).toNat 0) = F
    have hF' : ∀ a, ((F a).length : Int) ≤ c' := fun a => by rw [← hF]; exact inner a
    show ((sFl (fun a => if T (2 * b.2.1) = -1 ∨ T (2 * b.2.1) = a then (fun a : Int => sFl (fun k => if (T (2 * b.2.1 + 1) = -1 ∨ T (2 * b.2.1 + 1) = k) ∧ sWr ρ b a k = 0 then sFi ρ T r (sPush ρ b a k) else []) (ρ 1).toNat 0) a else []) (ρ 0).toNat 0).length : Int) ≤ _
    rw [hF]
    by_cases h1 : T (2 * b.2.1) = -1
    · rw [if_pos h1]
      have := sFl_len (g := fun a => if T (2 * b.2.1) = -1 ∨ T (2 * b.2.1) = a then F a else []) c0' (ρ 0).toNat 0 (fun j _ _ => by
        show ((if T (2 * b.2.1) = -1 ∨ T (2 * b.2.1) = j then F j else []).length : Int) ≤ c'
        rw [if_pos (Or.inl h1)]
        exact hF' j)
      rw [show (((ρ 0).toNat : Nat) : Int) = ρ 0 by omega] at this
      exact this
    · rw [if_neg h1, Int.one_mul]
      refine sFl_len1 (x := T (2 * b.2.1)) c0' (ρ 0).toNat 0 (fun j hj => if_neg (fun q => q.elim h1 (fun q2 => hj q2.symm))) ?_
      show ((if T (2 * b.2.1) = -1 ∨ T (2 * b.2.1) = T (2 * b.2.1) then F (T (2 * b.2.1)) else []).length : Int) ≤ c'
      rw [if_pos (Or.inr rfl)]
      exact hF' _

