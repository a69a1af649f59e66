/-! torn minutes, in the class: read -/
section KN
variable {E : jm_E} {d : Nat} {μ : jm_M} {Q : Option jm_V → jm_M → Prop} {τ : Int → Int} {n lim p : Int} {T : zTs} {M : zMs}
theorem c_K_readMin {ν : jm_M} (h0 : kAt ν τ n lim p) (hm : M.2.1 ≤ 24) (t0 : 0 ≤ M.2.2) (t8 : M.2.2 ≤ 8) (hW : sWR T.1) (hT : tTb ν 3 T.1 T.2.1 T.2.2) (hM : kMn ν M) (h1 : ∀ e, zMw (sTok τ n lim) T M p = .error e → ∀ ξ, kFe kX ν ξ e → Q (some (jm_I 0)) ξ) (h2 : ∀ x, zMw (sTok τ n lim) T M p = .ok x → p + 2 ≤ x.2 → ∀ ξ, kFo kX ν ξ → kAt ξ τ n lim x.2 → kMn ξ x.1 → Q (some (jm_I 1)) ξ) : jc E m_X1_readWord (d + 4) [jm_R 72, jm_R 1, jm_R 3] ν Q := by
  have hMh : kMh ν M M.2.2 := hM
  -- behind who is told
  have go : ∀ (v4 a : Int), (sTok τ n lim p).1 = 2 → (v4 = 0 ∧ ¬ zIs (sTok τ n lim) p 15 ∧ zNH (sTok τ n lim) T.2.1 (T.1 0) p = .ok a ∨ v4 = 1 ∧ zIs (sTok τ n lim) p 15 ∧ a = -1) → jg E m_X1_readWord (d + 3) 43 [some (jm_R 72), some (jm_R 1), some (jm_R 3), some (jm_I (sTok τ n lim p).2.1), some (jm_I v4), some (jm_I a), none, none] [] ν Q := by
    intro v4 a s hc
    refine r_X1_readWord_43 (d := d + 3) ⟨is_72, ?_⟩
    rw [hM.1]
    refine ⟨fun z => ?_, fun z => ⟨fun z4 => ?_, fun z4 => ?_⟩⟩
    · have m24 : M.2.1 = 24 := by omega
      refine c_K_fails (fun ξ er => jq_Z (h1 (4, _) ?_ ξ (kFo.rfl.er er)))
      unfold zMw
      rw [if_pos m24]
      rcases hc with ⟨_, q, e⟩ | ⟨_, q, _⟩
      · rw [if_neg q, zBi_o e]; rfl
      · rw [if_pos q]; rfl
    · have m24 : ¬ M.2.1 = 24 := by omega
      rcases hc with ⟨_, q, e⟩ | ⟨q4, _⟩
      · have ex : zTn (sTok τ n lim) T.2.1 (T.1 0) M.2.2 p = .ok (a, M.2.2) := by unfold zTn; rw [if_neg q, zBi_o e]
        exact g_K_71 h0 (by omega) (by omega) t0 t8 hW hT hMh (fun e he ξ fe => h1 e (by unfold zMw; rw [if_neg m24, zBi_o ex]; exact zBi_e he) ξ fe) (fun y hy yp ξ fo xa xm => h2 (_, _) (by unfold zMw; rw [if_neg m24, zBi_o ex]; rw [zBi_o hy]) yp ξ fo xa xm)
      · exact absurd z4 (by omega)
    · have m24 : ¬ M.2.1 = 24 := by omega
      rcases hc with ⟨q4, _⟩ | ⟨_, q, rfl⟩
      · exact absurd q4 z4
      · refine c_K_tears hM.2.1 t0 t8 (fun q8 => jq_Z (jb_t (by decide) ?_)) (fun q8 => jq_Z (jb_f (by decide) ?_))
        · have ex : zTn (sTok τ n lim) T.2.1 (T.1 0) M.2.2 p = .ok (-1, M.2.2 + 1) := by unfold zTn; rw [if_pos q, if_neg q8]
          have f0 : kFo kX ν (jm_up ν 72 1 (M.2.2 + 1)) := kFo.up (by decide) (by decide)
          exact g_K_71 (h0.kf (jm_up_ne (by decide)) (jm_up_ne (by decide))) (by omega) (by omega) (by omega) (by omega) hW (tTb_of (fun q q0 q1 => jm_up_ne (by omega)) hT) hMh.tr (fun e he ξ fe => h1 e (by unfold zMw; rw [if_neg m24, zBi_o ex]; exact zBi_e he) ξ (f0.fe fe)) (fun y hy yp ξ fo xa xm => h2 (_, _) (by unfold zMw; rw [if_neg m24, zBi_o ex]; rw [zBi_o hy]) yp ξ (f0.trans fo) xa xm)
        · exact c_K_fails (fun ξ er => jq_Z (h1 (4, _) (by unfold zMw; rw [if_neg m24]; exact zBi_e (by unfold zTn; rw [if_pos q, if_pos q8]; rfl)) ξ ((kFo.up (by decide) (by decide)).er er)))
  refine e_X1_readWord (d := d + 3) (fun _ => c_K_isTerm (t := 15) h0 (by decide) (by decide) (fun s t => jq_Z (jb_f (by decide) (jb_t (by decide) ?_))) (fun z => jq_Z (jb_t rfl ?_)) rfl)
  · rw [h0.val.1]
    exact go 1 (-1) s (Or.inr ⟨rfl, ⟨s, t⟩, rfl⟩)
  · rw [h0.val.1]
    refine c_K_whoHere h0 is_3 hW hT.1.1 hT.2.1 (fun e he ξ er => jq_I (jb_f (by decide) (jb_f (by decide) (h1 e ?_ ξ (kFo.rfl.er er))))) (fun a ha => jq_I (jb_f (by decide) ?_))
    · unfold zMw
      by_cases m24 : M.2.1 = 24
      · rw [if_pos m24, if_neg z]; exact zBi_e he
      · rw [if_neg m24]; exact zBi_e (by unfold zTn; rw [if_neg z]; exact zBi_e he)
    · obtain ⟨x0, x1, s⟩ := zNH_in hW.1 ha
      exact jb_t (by omega) (go 0 a s (Or.inl ⟨rfl, z, ha⟩))
end KN
