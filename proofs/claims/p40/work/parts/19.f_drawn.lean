theorem sLay_say {ρ : sR} {w : Int → Int} {n : Nat} {who k : Int} : sLay ρ (sSay w n who k) (n + 1) = sPush ρ (sLay ρ w n) who k := by
  have h := sLay_ext (ρ := ρ) (w := sSay w n who k) (w' := w) n (fun i i0 i1 => by unfold sSay; rw [if_neg (by omega), if_neg (by omega)])
  show sPush ρ (sLay ρ (sSay w n who k) n) (sSay w n who k (2 * n)) (sSay w n who k (2 * n + 1)) = _
  have e1 : sSay w n who k (2 * n) = who := by unfold sSay; rw [if_pos rfl]
  have e2 : sSay w n who k (2 * n + 1) = k := by unfold sSay; rw [if_neg (by omega), if_pos rfl]
  rw [h, e1, e2]
section ME
variable {E : jm_E} {d : Nat} {μ : jm_M} {Q : Option jm_V → jm_M → Prop} {ρ : sR} {w : Int → Int} {n : Nat}
end ME
