/-! the reference's questions about the talk -/
def sSel (p : Int → Bool) (k : Int) : Nat → Int → Int → Int
  | 0, _, c => if k = -1 then c else -1
  | m + 1, t, c => if p t then (if c = k then t else sSel p k m (t + 1) (c + 1)) else sSel p k m (t + 1) c
def sMsk (p : Int → Bool) : Nat → Int → Int → Int
  | 0, _, acc => acc
  | m + 1, k, acc => sMsk p m (k + 1) (if p k then sor acc k else acc)
def sCnt (p : Int → Bool) : Nat → Int → Int → Int
  | 0, _, c => c
  | m + 1, t, c => sCnt p m (t + 1) (if p t then c + 1 else c)
theorem sCnt_le (p : Int → Bool) : ∀ (m : Nat) (t c : Int), c ≤ sCnt p m t c ∧ sCnt p m t c ≤ c + m
  | 0, t, c => ⟨Int.le_refl _, by simp [sCnt]⟩
  | m + 1, t, c => by
    have h := sCnt_le p m (t + 1) (if p t then c + 1 else c)
    unfold sCnt
    by_cases hp : p t = true
    · rw [if_pos hp] at h ⊢; omega
    · rw [if_neg hp] at h ⊢; omega
theorem sMsk_lt (p : Int → Bool) : ∀ (m : Nat) (k acc : Int), 0 ≤ k → k + m ≤ 10 → 0 ≤ acc → acc < 1024 → 0 ≤ sMsk p m k acc ∧ sMsk p m k acc < 1024
  | 0, k, acc, _, _, h0, h1 => ⟨h0, h1⟩
  | m + 1, k, acc, k0, k1, h0, h1 => by
    have h := sor_lt (m := acc) (k := k) (n := 10) h0 (by omega) k0 (by omega)
    unfold sMsk
    split
    · exact sMsk_lt p m (k + 1) _ (by omega) (by omega) h.1 (by omega)
    · exact sMsk_lt p m (k + 1) _ (by omega) (by omega) h0 h1
section ML
variable {E : jm_E} {d : Nat} {μ : jm_M} {Q : Option jm_V → jm_M → Prop} {ρ : sR} {w : Int → Int} {n : Nat}
end ML
