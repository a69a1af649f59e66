/-! SENTENCES: steps (what, sign, value), each behind its parts: 0 not, 1 and, 2 or, 3 by, 4 to, 5 is, 6 place, 7 thread, 8 depth, 9 state -/
abbrev sPg : Type := (Int → Int) × (Int → Int) × (Int → Int) × Nat
def sCp (x sg v : Int) : Bool := if sg = 60 then decide (x < v) else if sg = 61 then decide (x = v) else decide (v < x)
def sAt (ρ : sR) (b : sB) (t : Int) (P : sPg) (i : Int) : Bool :=
  if P.1 i = 3 then decide (b.1 0 t = P.2.2.1 i) else if P.1 i = 4 then decide (b.1 2 t ≠ -1 ∧ b.1 0 (b.1 2 t) = P.2.2.1 i) else if P.1 i = 5 then decide (b.1 1 t = P.2.2.1 i)
  else sCp (if P.1 i = 6 then t else if P.1 i = 7 then b.1 3 t else if P.1 i = 8 then b.1 4 t else sSt ρ b t) (P.2.1 i) (P.2.2.1 i)
/-- the roots that wait behind so many steps -/
def sRt (op : Int → Int) : Nat → List Nat
  | 0 => []
  | i + 1 => if op i = 0 then i :: (sRt op i).tail else if op i = 1 ∨ op i = 2 then i :: (sRt op i).tail.tail else i :: sRt op i
def sSk (op : Int → Int) (at0 : Int → Bool) : Nat → List Bool
  | 0 => []
  | i + 1 => if op i = 0 then (!(sSk op at0 i).headD false) :: (sSk op at0 i).tail
    else if op i = 1 then ((sSk op at0 i).tail.headD false && (sSk op at0 i).headD false) :: (sSk op at0 i).tail.tail
    else if op i = 2 then ((sSk op at0 i).tail.headD false || (sSk op at0 i).headD false) :: (sSk op at0 i).tail.tail
    else at0 i :: sSk op at0 i
def sVl (op : Int → Int) (at0 : Int → Bool) (i : Nat) : Bool := (sSk op at0 (i + 1)).headD false
/-- steps that a text can tell -/
def sWp (P : sPg) : Prop := P.2.2.2 ≤ 40 ∧ (∀ i : Nat, i < P.2.2.2 → (0 ≤ P.1 i ∧ P.1 i ≤ 9) ∧ (P.1 i = 0 → 1 ≤ (sRt P.1 i).length) ∧ (P.1 i = 1 ∨ P.1 i = 2 → 2 ≤ (sRt P.1 i).length) ∧ (3 ≤ P.1 i → P.1 i ≤ 5 → 0 ≤ P.2.2.1 i)) ∧ ∀ i : Nat, i ≤ P.2.2.2 → (sRt P.1 i).length ≤ 20
def sHo (P : sPg) (at0 : Int → Bool) : Bool := (sSk P.1 at0 P.2.2.2).headD false
theorem sSk_rt {op : Int → Int} {at0 : Int → Bool} : ∀ i : Nat, sSk op at0 i = (sRt op i).map (sVl op at0)
  | 0 => rfl
  | i + 1 => by
    have ih := sSk_rt (op := op) (at0 := at0) i
    have hv : sVl op at0 i = (sSk op at0 (i + 1)).headD false := rfl
    have hc : sSk op at0 (i + 1) = sVl op at0 i :: (sSk op at0 (i + 1)).tail := by
      rw [hv]
      unfold sSk
      split
      · rfl
      · split
        · rfl
        · split <;> rfl
    rw [hc]
    unfold sRt
    rw [sSk]
    by_cases h0 : op i = 0
    · rw [if_pos h0, if_pos h0, List.map_cons, List.map_tail, ← ih]; rfl
    · rw [if_neg h0, if_neg h0]
      by_cases h1 : op i = 1
      · rw [if_pos h1, if_pos (Or.inl h1), List.map_cons, List.map_tail, List.map_tail, ← ih]; rfl
      · rw [if_neg h1]
        by_cases h2 : op i = 2
        · rw [if_pos h2, if_pos (Or.inr h2), List.map_cons, List.map_tail, List.map_tail, ← ih]; rfl
        · rw [if_neg h2, if_neg (fun q => q.elim h1 h2), List.map_cons, ← ih]; rfl
section SA
variable {E : jm_E} {d : Nat} {μ : jm_M} {Q : Option jm_V → jm_M → Prop} {ρ : sR} {b : sB} {P : sPg}
theorem m_cmp3 {x y r : Int} (h : Q (some (jm_I (if sCp x r y = true then 1 else 0))) μ) :
    ((r ≠ 60 → ((r ≠ 61 → ((x ≤ y → Q (some (jm_I 0)) μ) ∧ (¬ (x ≤ y) → Q (some (jm_I 1)) μ))) ∧ (¬ (r ≠ 61) → ((x ≠ y → Q (some (jm_I 0)) μ) ∧ (¬ (x ≠ y) → Q (some (jm_I 1)) μ))))) ∧ (¬ (r ≠ 60) → ((y ≤ x → Q (some (jm_I 0)) μ) ∧ (¬ (y ≤ x) → Q (some (jm_I 1)) μ)))) := by
  unfold sCp at h
  refine ⟨fun z => ⟨fun z2 => ⟨fun z3 => ?_, fun z3 => ?_⟩, fun z2 => ⟨fun z3 => ?_, fun z3 => ?_⟩⟩, fun z => ⟨fun z3 => ?_, fun z3 => ?_⟩⟩
  · rw [if_neg z, if_neg z2, decide_eq_false (by omega)] at h; exact h
  · rw [if_neg z, if_neg z2, decide_eq_true (by omega)] at h; exact h
  · rw [if_neg z, if_pos (Decidable.not_not.mp z2), decide_eq_false z3] at h; exact h
  · rw [if_neg z, if_pos (Decidable.not_not.mp z2), decide_eq_true (Decidable.not_not.mp z3)] at h; exact h
  · rw [if_pos (Decidable.not_not.mp z), decide_eq_false (show ¬ x < y by omega)] at h; exact h
  · rw [if_pos (Decidable.not_not.mp z), decide_eq_true (show x < y by omega)] at h; exact h
end SA
