/-! locals are stored -/
def jm_kl : Option jm_V → Option jm_V
  | some (.inr (.inl _)) => none
  | v => v
def jm_lg : jm_V → Bool
  | .inr (.inl _) => true
  | _ => false
def jm_hd (b : Bool) : List (Option jm_V) → List (Option jm_V)
  | [] => []
  | a :: t => (if b then none else a) :: t
def jm_sto : List (Option jm_V) → Nat → jm_V → List (Option jm_V)
  | [], _, _ => []
  | _ :: t, 0, v => some v :: jm_hd (jm_lg v) t
  | a :: t, 1, v => jm_kl a :: jm_sto t 0 v
  | a :: t, i + 2, v => a :: jm_sto t (i + 1) v
section JMO
variable {E : jm_E} {Y : jm_Y} {R : Room} {n' n cs sl pc : Nat} {L : List (Option jm_V)} {st : List jm_V} {μ : jm_M} {Q : Option jm_V → jm_M → Prop}
theorem jm_sto_at : ∀ (L : List (Option jm_V)) (i j : Nat) (v u : jm_V), (jm_sto L i v)[j]? = some (some u) → (j = i ∧ u = v) ∨ (j ≠ i ∧ L[j]? = some (some u) ∧ ¬ (j + 1 = i ∧ jm_lg u = true) ∧ ¬ (jm_lg v = true ∧ j = i + 1))
  | [], i, j, v, u, h => by simp [jm_sto] at h
  | a :: t, 0, 0, v, u, h => by
    have h1 : v = u := by simpa [jm_sto] using h
    exact Or.inl ⟨rfl, h1.symm⟩
  | a :: t, 0, j + 1, v, u, h => by
    have h1 : (jm_hd (jm_lg v) t)[j]? = some (some u) := by simpa [jm_sto] using h
    refine Or.inr ⟨by omega, ?_, fun q => by omega, fun q => ?_⟩
    · cases t with
      | nil => simp [jm_hd] at h1
      | cons b t =>
        cases j with
        | zero =>
          cases hb : jm_lg v with
          | true => simp [jm_hd, hb] at h1
          | false => simpa [jm_hd, hb] using h1
        | succ j => simpa [jm_hd] using h1
    · obtain ⟨q1, q2⟩ := q
      have hj : j = 0 := by omega
      subst hj
      cases t with
      | nil => simp [jm_hd] at h1
      | cons b t => simp [jm_hd, q1] at h1
  | a :: t, 1, 0, v, u, h => by
    have h1 : jm_kl a = some u := by simpa [jm_sto] using h
    refine Or.inr ⟨by omega, ?_, fun q => ?_, fun q => by omega⟩
    · cases a with
      | none => simp [jm_kl] at h1
      | some w =>
        rcases w with w | w | w <;> simp [jm_kl] at h1 <;> simp [h1]
    · cases a with
      | none => simp [jm_kl] at h1
      | some w =>
        rcases w with w | w | w <;> simp [jm_kl] at h1 <;> subst h1 <;> simp [jm_lg] at q
  | a :: t, 1, j + 1, v, u, h => by
    have h1 : (jm_sto t 0 v)[j]? = some (some u) := by simpa [jm_sto] using h
    rcases jm_sto_at t 0 j v u h1 with ⟨h2, h3⟩ | ⟨h2, h3, h4, h5⟩
    · exact Or.inl ⟨by omega, h3⟩
    · exact Or.inr ⟨by omega, by simpa using h3, fun q => by omega, fun q => h5 ⟨q.1, by omega⟩⟩
  | a :: t, i + 2, 0, v, u, h => by
    have h1 : a = some u := by simpa [jm_sto] using h
    exact Or.inr ⟨by omega, by simp [h1], fun q => by omega, fun q => by omega⟩
  | a :: t, i + 2, j + 1, v, u, h => by
    have h1 : (jm_sto t (i + 1) v)[j]? = some (some u) := by simpa [jm_sto] using h
    rcases jm_sto_at t (i + 1) j v u h1 with ⟨h2, h3⟩ | ⟨h2, h3, h4, h5⟩
    · exact Or.inl ⟨by omega, h3⟩
    · exact Or.inr ⟨by omega, by simpa using h3, fun q => h4 ⟨by omega, q.2⟩, fun q => h5 ⟨q.1, by omega⟩⟩
theorem jm_sto_ok {i : Nat} {v : jm_V} (hv : jm_ok v) (hL : ∀ (i : Nat) (v : jm_V), L[i]? = some (some v) → jm_ok v) : ∀ (j : Nat) (u : jm_V), (jm_sto L i v)[j]? = some (some u) → jm_ok u := by
  intro j u h
  rcases jm_sto_at L i j v u h with ⟨-, h2⟩ | ⟨-, h2, -⟩
  · rw [h2]; exact hv
  · exact hL j u h2
theorem jm_cat1 {v : jm_V} (h : jm_lg v = false) : (jm_cv E v).category = 1 := by
  rcases v with v | v | v
  · rfl
  · simp [jm_lg] at h
  · show (if v = -1 then Value.null else Value.ref (jm_ad E v)).category = 1
    split <;> rfl
theorem jm_cat2 {v : jm_V} (h : (jm_cv E v).category = 2) : jm_lg v = true := by
  rcases v with v | v | v
  · cases h
  · rfl
  · have h1 : (if v = -1 then Value.null else Value.ref (jm_ad E v)).category = 2 := h
    split at h1 <;> cases h1
theorem jm_lo_sto1 {i : Nat} {v : jm_V} : ∀ q ∈ jm_lo E 0 (jm_sto L i v), q ∈ (i, jm_cv E v) :: (jm_lo E 0 L).filter (fun q => !(q.1 == i) && !(q.1 + 1 == i && q.2.category == 2)) := by
  intro q hq
  obtain ⟨j, u, h1, h2⟩ := jm_lo_inv _ _ _ hq
  rw [Nat.zero_add] at h1
  subst h1
  rcases jm_sto_at L i j v u h2 with ⟨h3, h4⟩ | ⟨h3, h4, h5, -⟩
  · rw [h3, h4]; exact List.mem_cons_self
  · refine List.mem_cons_of_mem _ (List.mem_filter.mpr ⟨?_, ?_⟩)
    · have := jm_lo_mem (E := E) L 0 j u h4
      rwa [Nat.zero_add] at this
    · by_cases hc : j + 1 = i ∧ (jm_cv E u).category = 2
      · exact absurd ⟨hc.1, jm_cat2 hc.2⟩ h5
      · have : ¬ (j + 1 = i) ∨ ¬ ((jm_cv E u).category = 2) := by
          by_cases h : j + 1 = i
          · exact Or.inr fun z => hc ⟨h, z⟩
          · exact Or.inl h
        rcases this with h | h <;> simp [h3, h]
theorem jm_lo_sto2 {i : Nat} {x : Int} : ∀ q ∈ jm_lo E 0 (jm_sto L i (jm_L x)), q ∈ (i, jm_cv E (jm_L x)) :: (jm_lo E 0 L).filter (fun q => !(q.1 == i) && (!(q.1 == i + 1) && !(q.1 + 1 == i && q.2.category == 2))) := by
  intro q hq
  obtain ⟨j, u, h1, h2⟩ := jm_lo_inv _ _ _ hq
  rw [Nat.zero_add] at h1
  subst h1
  rcases jm_sto_at L i j (jm_L x) u h2 with ⟨h3, h4⟩ | ⟨h3, h4, h5, h6⟩
  · rw [h3, h4]; exact List.mem_cons_self
  · refine List.mem_cons_of_mem _ (List.mem_filter.mpr ⟨?_, ?_⟩)
    · have := jm_lo_mem (E := E) L 0 j u h4
      rwa [Nat.zero_add] at this
    · have h7 : ¬ j = i + 1 := fun z => h6 ⟨rfl, z⟩
      have : ¬ (j + 1 = i) ∨ ¬ ((jm_cv E u).category = 2) := by
        by_cases h : j + 1 = i
        · exact Or.inr fun z => h5 ⟨h, jm_cat2 z⟩
        · exact Or.inl h
      rcases this with h | h <;> simp [h3, h7, h]
theorem jm_aload {i : Nat} {x : Int} (hd : decode Y.2.1 pc = .ok (.aload i, 2)) (hv : L[i]? = some (some (jm_R x))) (h : jm_G E Y R n' n cs sl (pc + 2) L (jm_R x :: st) μ Q) : jm_G E Y R n' n cs sl pc L st μ Q :=
  jm_step h (fun q _ => jm_cons trivial q) (fun p e s m args below meth c Z H locs ls hx hb _ _ _ hl _ w => by
    have h1 := jm_lo_at hl hv
    by_cases hz : x = -1
    · have e1 : jm_cv E (jm_R x) = .null := by simp [jm_cv, hz]
      rw [List.map_cons, e1] at w
      rw [e1] at h1
      exact lv_aloadN hx hb hd h1 w
    · have e1 : jm_cv E (jm_R x) = .ref (jm_ad E x) := by simp [jm_cv, hz]
      rw [List.map_cons, e1] at w
      rw [e1] at h1
      exact lv_aload hx hb hd h1 w)
theorem jm_aloadn {k : Fin 4} {x : Int} (hd : decode Y.2.1 pc = .ok (.aload_n k, 1)) (hv : L[(k : Nat)]? = some (some (jm_R x))) (h : jm_G E Y R n' n cs sl (pc + 1) L (jm_R x :: st) μ Q) : jm_G E Y R n' n cs sl pc L st μ Q :=
  jm_step h (fun q _ => jm_cons trivial q) (fun p e s m args below meth c Z H locs ls hx hb _ _ _ hl _ w => by
    have h1 := jm_lo_at hl hv
    by_cases hz : x = -1
    · have e1 : jm_cv E (jm_R x) = .null := by simp [jm_cv, hz]
      rw [List.map_cons, e1] at w
      rw [e1] at h1
      exact lv_aload_nN hx hb hd rfl h1 w
    · have e1 : jm_cv E (jm_R x) = .ref (jm_ad E x) := by simp [jm_cv, hz]
      rw [List.map_cons, e1] at w
      rw [e1] at h1
      exact lv_aload_n hx hb hd rfl h1 w)
/-- a store of a local, by the kit's row for it -/
theorem jm_store {i pc' : Nat} {v : jm_V} {L' : List (Option jm_V)} (hL' : jm_sto L i v = L') (h : jm_G E Y R n' n cs sl pc' L' st μ Q)
    (hw : ∀ (p : Program) (e : Env) (s : State) (m : MethodId) (args : Array Value) (below : List Frame) (meth : Method) (c : Code) (Z : State → Prop) (H : Heap) (locs : List Loc) (ls : Array Slot), p.tables.exec = Jvm.exec → c.code = Y.2.1 → lv_has ls Y.2.2.1 (jm_lo E 0 L) →
      (∀ ls' : Array Slot, lv_has ls' Y.2.2.1 (jm_lo E 0 L') → W p (jm_l E) e R s m args below meth c H locs cs sl Z (F0 m pc' ls' (st.map (jm_cv E)))) → W p (jm_l E) e R s m args below meth c H locs cs sl Z (F0 m pc ls ((v :: st).map (jm_cv E)))) :
    jm_G E Y R n' n cs sl pc L (v :: st) μ Q := by
  intro p e s m args below meth c Z H locs ls C hZ hR hS hl hL hst
  refine hw p e s m args below meth c Z H locs ls C.1 C.2.1 hl fun ls' hl' => ?_
  subst hL'
  exact h p e s m args below meth c Z H locs ls' C hZ hR hS hl' (jm_sto_ok (hst _ List.mem_cons_self) hL) (jm_tail hst)
theorem jm_istore {i : Nat} {x : Int} {L' : List (Option jm_V)} (hd : decode Y.2.1 pc = .ok (.istore i, 2)) (hi : i < Y.2.2.1) (hL' : jm_sto L i (jm_I x) = L') (h : jm_G E Y R n' n cs sl (pc + 2) L' st μ Q) : jm_G E Y R n' n cs sl pc L (jm_I x :: st) μ Q :=
  jm_store hL' h (fun p e s m args below meth c Z H locs ls hx hb hl w => lv_istore hx hb hd hl hi rfl (fun ls' hl' => w ls' (by rw [← hL']; exact jm_lv_mono hl' jm_lo_sto1)))
theorem jm_istoren {k : Fin 4} {x : Int} {L' : List (Option jm_V)} (hd : decode Y.2.1 pc = .ok (.istore_n k, 1)) (hi : (k : Nat) < Y.2.2.1) (hL' : jm_sto L (k : Nat) (jm_I x) = L') (h : jm_G E Y R n' n cs sl (pc + 1) L' st μ Q) : jm_G E Y R n' n cs sl pc L (jm_I x :: st) μ Q :=
  jm_store hL' h (fun p e s m args below meth c Z H locs ls hx hb hl w => lv_istore_n hx hb hd rfl hl hi rfl (fun ls' hl' => w ls' (by rw [← hL']; exact jm_lv_mono hl' jm_lo_sto1)))
theorem jm_lstore {i : Nat} {x : Int} {L' : List (Option jm_V)} (hd : decode Y.2.1 pc = .ok (.lstore i, 2)) (hi : i + 1 < Y.2.2.1) (hL' : jm_sto L i (jm_L x) = L') (h : jm_G E Y R n' n cs sl (pc + 2) L' st μ Q) : jm_G E Y R n' n cs sl pc L (jm_L x :: st) μ Q :=
  jm_store hL' h (fun p e s m args below meth c Z H locs ls hx hb hl w => lv_lstore hx hb hd hl hi rfl (fun ls' hl' => w ls' (by rw [← hL']; exact jm_lv_mono hl' jm_lo_sto2)))
theorem jm_lstoren {k : Fin 4} {x : Int} {L' : List (Option jm_V)} (hd : decode Y.2.1 pc = .ok (.lstore_n k, 1)) (hi : (k : Nat) + 1 < Y.2.2.1) (hL' : jm_sto L (k : Nat) (jm_L x) = L') (h : jm_G E Y R n' n cs sl (pc + 1) L' st μ Q) : jm_G E Y R n' n cs sl pc L (jm_L x :: st) μ Q :=
  jm_store hL' h (fun p e s m args below meth c Z H locs ls hx hb hl w => lv_lstore_n hx hb hd rfl hl hi rfl (fun ls' hl' => w ls' (by rw [← hL']; exact jm_lv_mono hl' jm_lo_sto2)))
theorem jm_astore {i : Nat} {x : Int} {L' : List (Option jm_V)} (hd : decode Y.2.1 pc = .ok (.astore i, 2)) (hi : i < Y.2.2.1) (hL' : jm_sto L i (jm_R x) = L') (h : jm_G E Y R n' n cs sl (pc + 2) L' st μ Q) : jm_G E Y R n' n cs sl pc L (jm_R x :: st) μ Q :=
  jm_store hL' h (fun p e s m args below meth c Z H locs ls hx hb hl w => by
    have h1 : ∀ q ∈ jm_lo E 0 L', q ∈ (i, jm_cv E (jm_R x)) :: (jm_lo E 0 L).filter (fun q => !(q.1 == i) && !(q.1 + 1 == i && q.2.category == 2)) := by rw [← hL']; exact jm_lo_sto1
    by_cases hz : x = -1
    · have e1 : jm_cv E (jm_R x) = .null := by simp [jm_cv, hz]
      rw [e1] at h1
      rw [List.map_cons, e1]
      exact lv_astoreN hx hb hd hl hi rfl (fun ls' hl' => w ls' (jm_lv_mono hl' h1))
    · have e1 : jm_cv E (jm_R x) = .ref (jm_ad E x) := by simp [jm_cv, hz]
      rw [e1] at h1
      rw [List.map_cons, e1]
      exact lv_astore hx hb hd hl hi rfl (fun ls' hl' => w ls' (jm_lv_mono hl' h1)))
theorem jm_astoren {k : Fin 4} {x : Int} {L' : List (Option jm_V)} (hd : decode Y.2.1 pc = .ok (.astore_n k, 1)) (hi : (k : Nat) < Y.2.2.1) (hL' : jm_sto L (k : Nat) (jm_R x) = L') (h : jm_G E Y R n' n cs sl (pc + 1) L' st μ Q) : jm_G E Y R n' n cs sl pc L (jm_R x :: st) μ Q :=
  jm_store hL' h (fun p e s m args below meth c Z H locs ls hx hb hl w => by
    have h1 : ∀ q ∈ jm_lo E 0 L', q ∈ ((k : Nat), jm_cv E (jm_R x)) :: (jm_lo E 0 L).filter (fun q => !(q.1 == (k : Nat)) && !(q.1 + 1 == (k : Nat) && q.2.category == 2)) := by rw [← hL']; exact jm_lo_sto1
    by_cases hz : x = -1
    · have e1 : jm_cv E (jm_R x) = .null := by simp [jm_cv, hz]
      rw [e1] at h1
      rw [List.map_cons, e1]
      exact lv_astore_nN hx hb hd rfl hl hi rfl (fun ls' hl' => w ls' (jm_lv_mono hl' h1))
    · have e1 : jm_cv E (jm_R x) = .ref (jm_ad E x) := by simp [jm_cv, hz]
      rw [e1] at h1
      rw [List.map_cons, e1]
      exact lv_astore_n hx hb hd rfl hl hi rfl (fun ls' hl' => w ls' (jm_lv_mono hl' h1)))
end JMO
