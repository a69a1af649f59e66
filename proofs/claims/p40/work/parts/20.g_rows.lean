theorem sTq_Gw {ρ : sR} {mt : Int → Int} {wo sw s : Int} : sGw ρ (sTq mt wo sw) s = sGw ρ mt (sSw sw (sDp wo s)) := by
  unfold sGw sTq
  rw [show 2 * s / 2 = s by omega, show 2 * s % 2 = 0 by omega, show (2 * s + 1) / 2 = s by omega, show (2 * s + 1) % 2 = 1 by omega, Int.add_zero]
theorem sFl_nil {α : Type} {g : Int → List α} : ∀ (m : Nat) (k : Int), (∀ j, g j = []) → sFl g m k = []
  | 0, _, _ => rfl
  | m + 1, k, h => by show g k ++ sFl g m (k + 1) = []; rw [h k, sFl_nil m (k + 1) h]; rfl
theorem sFi_zero {ρ : sR} {T : Int → Int} {b : sB} (h : ρ 0 ≤ 0 ∨ ρ 1 ≤ 0) : ∀ r : Nat, (sFi ρ T r b).length ≤ 1
  | 0 => by simp [sFi]
  | r + 1 => by
    rw [sFi]
    rcases h with h | h
    · rw [show (ρ 0).toNat = 0 by omega]; exact Nat.zero_le _
    · rw [show (ρ 1).toNat = 0 by omega]
      rw [sFl_nil]
      · exact Nat.zero_le _
      · intro j
        split <;> rfl
theorem sRow_len {ρ : sR} {mn : Nat} {mt : Int → Int} {wo sw B : Int} (hW : sWR ρ) (w0 : -1 ≤ wo) (w1 : wo < mn) (s0 : -1 ≤ sw) (s1 : sw = -1 ∨ sw + 1 < mn) (hx : wo = -1 ∨ sw = -1) (b1 : 1 ≤ B) (hB : sWays ρ mt mn ≤ B) : ((sFi ρ (sTq mt wo sw) (sTn mn wo) sEmpty).length : Int) ≤ B := by
  by_cases hz : ρ 0 ≤ 0 ∨ ρ 1 ≤ 0
  · have := sFi_zero (T := sTq mt wo sw) (b := sEmpty) hz (sTn mn wo)
    omega
  · have hp0 : 1 ≤ ρ 0 := by omega
    have hp1 : 1 ≤ ρ 1 := by omega
    have hg : ∀ s, 1 ≤ sGw ρ mt s := fun s => by
      unfold sGw
      have h1 : 1 ≤ (if mt (2 * s) = -1 then ρ 0 else 1) := by split <;> omega
      have h2 : 1 ≤ (if mt (2 * s + 1) = -1 then ρ 1 else 1) := by split <;> omega
      have := Int.mul_le_mul h1 h2 (by decide) (by omega)
      omega
    have hl := sFi_len (T := sTq mt wo sw) hW (sTn mn wo) sEmpty
    refine Int.le_trans hl (Int.le_trans ?_ hB)
    show sPr (sGw ρ (sTq mt wo sw)) (sTn mn wo) 0 ≤ sPr (sGw ρ mt) mn 0
    generalize hG : sGw ρ mt = g at hg
    have hq : ∀ s, sGw ρ (sTq mt wo sw) s = g (sSw sw (sDp wo s)) := fun s => by rw [sTq_Gw, hG]
    by_cases hw : wo = -1
    · subst hw
      have hN : sTn mn (-1) = mn := rfl
      rw [hN]
      by_cases hs : sw = -1
      · subst hs
        refine Int.le_of_eq (sPr_ext mn 0 0 (fun s a0 a1 => ?_))
        rw [hq]
        unfold sDp sSw
        rw [if_neg (by omega), if_neg (by omega), if_neg (by omega)]
      · obtain ⟨t, rfl⟩ : ∃ t : Nat, sw = t := ⟨sw.toNat, by omega⟩
        obtain ⟨m, rfl⟩ : ∃ m : Nat, mn = t + (m + 1 + 1) := ⟨mn - t - 2, by omega⟩
        have hd : ∀ s : Int, sDp (-1) s = s := fun s => by unfold sDp; rw [if_neg (by omega)]
        rw [sPr_add, sPr_add t (m + 1 + 1)]
        simp only [sPr]
        have e1 : sPr (sGw ρ (sTq mt (-1) t)) t 0 = sPr g t 0 := sPr_ext t 0 0 (fun s a0 a1 => by rw [hq, hd]; unfold sSw; rw [if_neg (by omega), if_neg (by omega)])
        have e2 : sPr (sGw ρ (sTq mt (-1) t)) m (0 + (t : Int) + 1 + 1) = sPr g m (0 + (t : Int) + 1 + 1) := sPr_ext m _ _ (fun s a0 a1 => by rw [hq, hd]; unfold sSw; rw [if_neg (by omega), if_neg (by omega)])
        have e3 : sGw ρ (sTq mt (-1) t) (0 + (t : Int)) = g (0 + (t : Int) + 1) := by rw [hq, hd]; unfold sSw; rw [if_pos (by omega)]
        have e4 : sGw ρ (sTq mt (-1) t) (0 + (t : Int) + 1) = g (0 + (t : Int)) := by rw [hq, hd]; unfold sSw; rw [if_neg (by omega), if_pos ⟨by omega, by omega⟩]; congr 1; omega
        rw [e1, e2, e3, e4]
        rw [Int.mul_left_comm (g (0 + (t : Int) + 1))]
        exact Int.le_refl _
    · have hs : sw = -1 := by omega
      subst hs
      obtain ⟨t, rfl⟩ : ∃ t : Nat, wo = t := ⟨wo.toNat, by omega⟩
      obtain ⟨m, rfl⟩ : ∃ m : Nat, mn = t + (m + 1) := ⟨mn - t - 1, by omega⟩
      have hN : sTn (t + (m + 1)) t = t + m := by unfold sTn; rw [if_pos (by omega)]; omega
      rw [hN, sPr_add, sPr_add t (m + 1)]
      simp only [sPr]
      have e1 : sPr (sGw ρ (sTq mt t (-1))) t 0 = sPr g t 0 := sPr_ext t 0 0 (fun s a0 a1 => by rw [hq]; unfold sDp sSw; rw [if_neg (by omega), if_neg (by omega), if_neg (by omega)])
      have e2 : sPr (sGw ρ (sTq mt t (-1))) m (0 + (t : Int)) = sPr g m (0 + (t : Int) + 1) := sPr_ext m _ _ (fun s a0 a1 => by rw [hq, show sDp (t : Int) (0 + (t : Int) + s) = 0 + (t : Int) + 1 + s by unfold sDp; rw [if_pos (by omega)]; omega]; unfold sSw; rw [if_neg (by omega), if_neg (by omega)])
      rw [e1, e2]
      have n1 : 0 ≤ sPr g t 0 := sPr_nn t 0 (fun s _ _ => by have := hg s; omega)
      have n2 : 0 ≤ sPr g m (0 + (t : Int) + 1) := sPr_nn m _ (fun s _ _ => by have := hg s; omega)
      refine Int.mul_le_mul_of_nonneg_left ?_ n1
      have := Int.mul_le_mul_of_nonneg_right (hg (0 + (t : Int))) n2
      omega
/-- all wholes, in the order in which they are found -/
def sWl (ρ : sR) (mn : Nat) (mt : Int → Int) (w : Int) : List sB :=
  if w = 0 then sFi ρ (sTq mt (-1) (-1)) (sTn mn (-1)) sEmpty
  else sFl (fun i => sFi ρ (sTq mt (if w = 1 then i else -1) (if w = 2 then i else -1)) (sTn mn (if w = 1 then i else -1)) sEmpty) (if w = 2 then mn - 1 else mn) 0
def sWn (mn : Nat) (w : Int) : Nat := if w = 1 then mn - 1 else mn
