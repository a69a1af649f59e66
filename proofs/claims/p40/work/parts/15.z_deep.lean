/-! calls over a deeper stack -/
def jm_csn : List jm_V → Nat
  | [] => 0
  | v :: t => cond (jm_lg v) 2 1 + jm_csn t
section JMD
variable {E : jm_E} {Y : jm_Y} {R : Room} {n' n cs sl pc : Nat} {L : List (Option jm_V)} {st : List jm_V} {μ : jm_M} {Q : Option jm_V → jm_M → Prop}
theorem jm_csn_sum : ∀ (st : List jm_V), ((st.map (jm_cv E)).map fun v => v.category).sum ≤ jm_csn st
  | [] => Nat.le_refl _
  | v :: t => by
    have ih := jm_csn_sum t
    rw [List.map_cons, List.map_cons, List.sum_cons]
    unfold jm_csn
    cases hv : jm_lg v with
    | true =>
      have : (jm_cv E v).category ≤ 2 := by
        rcases lv_cat (jm_cv E v) with h | h <;> omega
      show _ ≤ 2 + jm_csn t
      omega
    | false =>
      have : (jm_cv E v).category = 1 := jm_cat1 hv
      show _ ≤ 1 + jm_csn t
      omega
theorem jm_invS5 {Y' : jm_Y} {idx k n1 mc ms d C2 S2 : Nat} {av : List jm_V} {stf : List jm_V} (hw : jm_wS Y' k) (hlink : Cond.methodLink Y.1.cls idx Y'.1 ∈ jm_tbl) (hd : decode Y.2.1 pc = .ok (.invokestatic idx, 3)) (hlen : av.length = k) (hroom : cs + mc ≤ C2 ∧ sl + ms ≤ S2) (hrest : jm_csn st ≤ 8) (hst : stf = av.reverse ++ st)
    (h : jm_Cl E Y' d n n1 mc ms av μ (fun o m1 => jm_rok Y'.2.2.2 o → jm_G E Y (jm_rm (d + 1) C2 S2) n' n1 (cs + mc) (sl + ms) (pc + 3) L (o.toList ++ st) m1 Q)) : jm_G E Y (jm_rm (d + 1) C2 S2) n' n cs sl pc L stf μ Q := by
  subst hst
  intro p e s m args below meth c Z H locs ls C hZ hR hS hl hL hst
  have hts := C.2.2.2.2.1
  have hM := h (fun w hw => hst w (List.mem_append_left _ (List.mem_reverse.mpr hw)))
  rw [List.map_append, List.map_reverse]
  refine jm_after (va_runS (As := av.map (jm_cv E)) (rest := st.map (jm_cv E)) ⟨C.1, C.2.1, C.2.2.1, C.2.2.2.1, hts⟩ hM ⟨jm_callB hw.1 hts hlink, hts _ hw.2⟩ ⟨jm_blind, jm_enter C hR hS⟩ rfl (by rw [List.length_map]; exact hlen) hl.1 rfl (lv_room (Nat.le_trans (jm_csn_sum st) hrest)) hd hroom) hS (fun o m1 H1 locs1 hQ ho hrok hR1 hS1 => ?_)
  have h2 := hQ hrok p e s m args below meth c Z H1 locs1 ls C hZ hR1 hS1 hl hL (jm_okst hst ho)
  rw [List.map_append] at h2
  have e1 : (o.map (jm_cv E)).toList = o.toList.map (jm_cv E) := by cases o <;> rfl
  rw [e1]
  exact h2
end JMD
