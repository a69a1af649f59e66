/-! more forms -/
section JMF3
variable {E : jm_E} {Y : jm_Y} {R : Room} {n' n cs sl pc : Nat} {L : List (Option jm_V)} {st : List jm_V} {μ : jm_M} {Q : Option jm_V → jm_M → Prop}
theorem jm_sl_len : ∀ (av : List jm_V), (lg_sl (av.map (jm_cv E))).length = (jm_en av).length
  | [] => rfl
  | v :: t => by
    have ih := jm_sl_len t
    have e0 : lg_sl ((v :: t).map (jm_cv E)) = (if (jm_cv E v).category = 2 then [Slot.val (jm_cv E v), .second] else [.val (jm_cv E v)]) ++ lg_sl (t.map (jm_cv E)) := rfl
    rw [e0, List.length_append, ih]
    by_cases hv : jm_lg v = true
    · have hc : (jm_cv E v).category = 2 := by
        rcases v with v | v | v
        · simp [jm_lg] at hv
        · rfl
        · simp [jm_lg] at hv
      rw [jm_en, if_pos hv, if_pos hc]
      simp only [List.length_cons, List.length_nil]
      omega
    · have hc : ¬ (jm_cv E v).category = 2 := fun z => hv (jm_cat2 z)
      rw [jm_en, if_neg hv, if_neg hc]
      simp only [List.length_cons, List.length_nil]
      omega
theorem jm_Cl.of2 {d mc ms : Nat} {av : List jm_V} {L0 : List (Option jm_V)} (hy : plainName Y.1.cls = true) (hL : jm_en av ++ List.replicate (Y.2.2.1 - (jm_en av).length) none = L0) (hlen : (jm_en av).length ≤ Y.2.2.1) (h : (∀ v ∈ av, jm_ok v) → jm_G E Y (jm_rm d mc ms) n' n 0 0 0 L0 [] μ Q) : jm_Cl E Y d n n' mc ms av μ Q :=
  jm_Cl.of hy (by rw [jm_sl_len]; exact hlen) (fun q => by rw [hL]; exact h q)
/-- the top number gets a name -/
theorem jm_nmI {x : Int} (h : ∀ y : Int, y = x → jm_G E Y R n' n cs sl pc L (jm_I y :: st) μ Q) : jm_G E Y R n' n cs sl pc L (jm_I x :: st) μ Q := h x rfl
theorem jm_ialoadv {a i x : Int} (hd : decode Y.2.1 pc = .ok (.iaload, 1)) (hx : jm_ix n a 2 i) (hv : μ a i = x) (h : jm_G E Y R n' n cs sl (pc + 1) L (jm_I x :: st) μ Q) : jm_G E Y R n' n cs sl pc L (jm_I i :: jm_R a :: st) μ Q := by
  subst hv
  exact jm_iaload hd hx h
theorem jm_baloadv {a i x : Int} (hd : decode Y.2.1 pc = .ok (.baload, 1)) (hx : jm_ix n a 4 i) (hv : μ a i = x) (h : jm_G E Y R n' n cs sl (pc + 1) L (jm_I x :: st) μ Q) : jm_G E Y R n' n cs sl pc L (jm_I i :: jm_R a :: st) μ Q := by
  subst hv
  exact jm_baload hd hx h
theorem jm_laloadv {a i x : Int} (hd : decode Y.2.1 pc = .ok (.laload, 1)) (hx : jm_ix n a 3 i) (hv : μ a i = x) (h : jm_G E Y R n' n cs sl (pc + 1) L (jm_L x :: st) μ Q) : jm_G E Y R n' n cs sl pc L (jm_I i :: jm_R a :: st) μ Q := by
  subst hv
  exact jm_laload hd hx h
/-- arraycopy is known to the tables -/
theorem jm_acpw : Cond.native arraycopyName ∈ jm_tbl ∧ Cond.static arraycopyName ∈ jm_tbl ∧ Cond.initialized "java/lang/System" ∈ jm_tbl := ⟨jm_tb (List.mem_of_getElem? (i := 598) (by decide +kernel)) rfl, jm_tb (List.mem_of_getElem? (i := 597) (by decide +kernel)) rfl, jm_tb (List.mem_of_getElem? (i := 34) (by decide +kernel)) rfl⟩
theorem jm_acp {d idx : Nat} {src dst k : Int} (hf : 0 ≤ k ∧ jm_ia jm_N src 2 ∧ k ≤ jm_sn src ∧ jm_ia jm_N dst 2 ∧ k ≤ jm_sn dst) (hlink : Cond.methodLink Y.1.cls idx arraycopyName ∈ jm_tbl) (hd : decode Y.2.1 pc = .ok (.invokestatic idx, 3)) (h : jm_G E Y (jm_rm (d + 1) 0 0) jm_N jm_N cs sl (pc + 3) L [] (jm_cpy μ src 0 dst 0 k) Q) :
    jm_G E Y (jm_rm (d + 1) 0 0) jm_N jm_N cs sl pc L [jm_I k, jm_I 0, jm_R dst, jm_I 0, jm_R src] μ Q :=
  jm_acopy rfl ⟨by show 36 ≤ 44 * (d + 1); omega, by show 1 ≤ d + 1; omega⟩ rfl hlink jm_acpw.1 jm_acpw.2.1 jm_acpw.2.2 hd hf.1 ⟨hf.2.1.1, hf.2.1.2.1, hf.2.1.2.2.1, hf.2.2.1⟩ ⟨hf.2.2.2.1.1, hf.2.2.2.1.2.1, hf.2.2.2.1.2.2.1, hf.2.2.2.2⟩ h
theorem jm_acpl {d idx : Nat} {src dst k : Int} (hf : 0 ≤ k ∧ jm_ia jm_N src 3 ∧ k ≤ jm_sn src ∧ jm_ia jm_N dst 3 ∧ k ≤ jm_sn dst) (hlink : Cond.methodLink Y.1.cls idx arraycopyName ∈ jm_tbl) (hd : decode Y.2.1 pc = .ok (.invokestatic idx, 3)) (h : jm_G E Y (jm_rm (d + 1) 0 0) jm_N jm_N cs sl (pc + 3) L [] (jm_cpy μ src 0 dst 0 k) Q) :
    jm_G E Y (jm_rm (d + 1) 0 0) jm_N jm_N cs sl pc L [jm_I k, jm_I 0, jm_R dst, jm_I 0, jm_R src] μ Q :=
  jm_acopyl rfl ⟨by show 36 ≤ 44 * (d + 1); omega, by show 1 ≤ d + 1; omega⟩ rfl hlink jm_acpw.1 jm_acpw.2.1 jm_acpw.2.2 hd hf.1 ⟨hf.2.1.1, hf.2.1.2.1, hf.2.1.2.2.1, hf.2.2.1⟩ ⟨hf.2.2.2.1.1, hf.2.2.2.1.2.1, hf.2.2.2.1.2.2.1, hf.2.2.2.2⟩ h
end JMF3
