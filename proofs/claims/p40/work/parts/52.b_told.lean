/-! the law tells its table: people, kinds, comb -/
theorem pAnd_in (x : Int) {m : Nat} (hm : m < 2 ^ 31) : 0 ≤ jm_and x (m : Int) ∧ jm_and x (m : Int) ≤ (m : Int) := by
  unfold jm_and
  rw [jm_of_nat]
  have e : (Int32.ofInt x &&& nI m).toBitVec.toNat ≤ m := by
    rw [Int32.toBitVec_and, BitVec.toNat_and, pk_tn (by omega)]
    exact Nat.and_le_right
  have e2 : (Int32.ofInt x &&& nI m).toInt = (Int32.ofInt x &&& nI m).toBitVec.toInt := rfl
  rw [e2, BitVec.toInt_eq_toNat_cond]
  split <;> omega
theorem pRem3 {x : Int} (h0 : 0 ≤ x) (h3 : x ≤ 3) : 0 ≤ jm_rem x 3 ∧ jm_rem x 3 ≤ 2 := by
  rw [jm_rem_n h0 (by omega) (by decide) (by decide)]
  omega
/-- what the law's first number tells -/
def pW0 (c : Int) : Int := jm_wr (2 + (jm_and c 1))
def pR0 (c i : Int) : Int := jm_wr (1 + (jm_rem (jm_and (jm_shr c (jm_wr (8 + (jm_wr (2 * i))))) 3) 3))
def pC0 (c i : Int) : Int := jm_wr (1 + (jm_rem (jm_and (jm_shr c (jm_wr (2 + (jm_wr (2 * i))))) 3) 3))
def pP0 (c : Int) : Int := jm_wr (1 + (jm_and (jm_shr c 14) 7))
def pO0 (c : Int) : Int := jm_rem (jm_and (jm_shr c 17) 3) 3
def pK0 (c : Int) : Int := jm_wr (1 + (jm_and (jm_shr c 1) 1))
theorem pW0_in (c : Int) : pW0 c = 2 ∨ pW0 c = 3 := by
  have h := pAnd_in c (m := 1) (by decide)
  have h : 0 ≤ jm_and c 1 ∧ jm_and c 1 ≤ 1 := h
  unfold pW0
  rw [jm_wr_id (by omega) (by omega)]
  omega
theorem pR0_in (c i : Int) : 1 ≤ pR0 c i ∧ pR0 c i ≤ 3 := by
  have h := pAnd_in (jm_shr c (jm_wr (8 + (jm_wr (2 * i))))) (m := 3) (by decide)
  have h2 := pRem3 h.1 h.2
  have h2 : 0 ≤ jm_rem (jm_and (jm_shr c (jm_wr (8 + (jm_wr (2 * i))))) 3) 3 ∧ jm_rem (jm_and (jm_shr c (jm_wr (8 + (jm_wr (2 * i))))) 3) 3 ≤ 2 := h2
  unfold pR0
  rw [jm_wr_id (by omega) (by omega)]
  omega
theorem pC0_in (c i : Int) : 1 ≤ pC0 c i ∧ pC0 c i ≤ 3 := by
  have h := pAnd_in (jm_shr c (jm_wr (2 + (jm_wr (2 * i))))) (m := 3) (by decide)
  have h2 := pRem3 h.1 h.2
  have h2 : 0 ≤ jm_rem (jm_and (jm_shr c (jm_wr (2 + (jm_wr (2 * i))))) 3) 3 ∧ jm_rem (jm_and (jm_shr c (jm_wr (2 + (jm_wr (2 * i))))) 3) 3 ≤ 2 := h2
  unfold pC0
  rw [jm_wr_id (by omega) (by omega)]
  omega
theorem pP0_in (c : Int) : 1 ≤ pP0 c ∧ pP0 c ≤ 8 := by
  have h := pAnd_in (jm_shr c 14) (m := 7) (by decide)
  have h : 0 ≤ jm_and (jm_shr c 14) 7 ∧ jm_and (jm_shr c 14) 7 ≤ 7 := h
  unfold pP0
  rw [jm_wr_id (by omega) (by omega)]
  omega
theorem pO0_in (c : Int) : pO0 c = 0 ∨ pO0 c = 1 ∨ pO0 c = 2 := by
  have h := pAnd_in (jm_shr c 17) (m := 3) (by decide)
  have h2 := pRem3 h.1 h.2
  have h2 : 0 ≤ jm_rem (jm_and (jm_shr c 17) 3) 3 ∧ jm_rem (jm_and (jm_shr c 17) 3) 3 ≤ 2 := h2
  unfold pO0
  omega
theorem pK0_in (c : Int) : pK0 c = 1 ∨ pK0 c = 2 := by
  have h := pAnd_in (jm_shr c 1) (m := 1) (by decide)
  have h : 0 ≤ jm_and (jm_shr c 1) 1 ∧ jm_and (jm_shr c 1) 1 ≤ 1 := h
  unfold pK0
  rw [jm_wr_id (by omega) (by omega)]
  omega
theorem pBit_in (x : Int) : jm_and x 1 = 0 ∨ jm_and x 1 = 1 := by
  have h := pAnd_in x (m := 1) (by decide)
  have h : 0 ≤ jm_and x 1 ∧ jm_and x 1 ≤ 1 := h
  omega
theorem pLws_len {r : Int → Int} : ∀ w : Nat, (pLws r w).length = 8 * w
  | 0 => rfl
  | w + 1 => by
    show (pLws r w ++ pLw (w : Int) (r (w : Int))).length = _
    rw [List.length_append, pLws_len w]
    rfl
theorem pLk_len {op sp k : Int} : (pLk op sp k).length ≤ 18 := by
  unfold pLk
  repeat' split
  all_goals exact Nat.le_of_ble_eq_true rfl
theorem pLks_len {op sp : Int} : ∀ k : Nat, (pLks op sp k).length ≤ 18 * k
  | 0 => Nat.le_refl _
  | k + 1 => by
    show (pLks op sp k ++ pLk op sp (k : Int)).length ≤ _
    rw [List.length_append]
    have h1 := pLks_len (op := op) (sp := sp) k
    have h2 := pLk_len (op := op) (sp := sp) (k := (k : Int))
    omega
/-- only the text and the law's second row have changed -/
def pF2 (μ ν : jm_M) : Prop := ∀ p, p ≠ 133 → p ≠ 134 → ν p = μ p
theorem pF2.tr {a b c : jm_M} (h1 : pF2 a b) (h2 : pF2 b c) : pF2 a c := fun p p1 p2 => (h2 p p1 p2).trans (h1 p p1 p2)
theorem pFr.f2 {a b : jm_M} (h : pFr a b) : pF2 a b := fun p p1 _ => h p p1
theorem pF2.up {a : jm_M} {i v : Int} : pF2 a (jm_up a 134 i v) := fun p _ p2 => jm_up_ne p2
theorem pT_up {a : jm_M} {i v : Int} {bs : List Int} (h : pT a bs) : pT (jm_up a 134 i v) bs := ⟨h.1, fun j hj => by rw [jm_up_ne (show (133 : Int) ≠ 134 by decide)]; exact h.2 j hj⟩
/-- people, how far a grant reaches, kinds told so far -/
def pV1 (ξ : jm_M) (c : Int) (w : Nat) : Prop := ξ 134 0 = pW0 c ∧ ∀ i, 0 ≤ i → i < (w : Int) → ξ 134 (8 + i) = pR0 c i
def pV2 (ξ : jm_M) (c : Int) (k : Nat) : Prop := pV1 ξ c (pW0 c).toNat ∧ ξ 134 11 = pP0 c ∧ ∀ j, 0 ≤ j → j < (k : Int) → ξ 134 (12 + j) = pOp (pO0 c) j ∧ ξ 134 (20 + j) = 0
theorem pV1.fr {a b : jm_M} {c : Int} {w : Nat} (h : b 134 = a 134) (g : pV1 a c w) : pV1 b c w := ⟨by rw [h]; exact g.1, fun i i0 i1 => by rw [h]; exact g.2 i i0 i1⟩
theorem pV2.fr {a b : jm_M} {c : Int} {k : Nat} (h : b 134 = a 134) (g : pV2 a c k) : pV2 b c k := ⟨g.1.fr h, by rw [h]; exact g.2.1, fun j j0 j1 => by rw [h]; exact g.2.2 j j0 j1⟩
abbrev pj1 (E : jm_E) (d pc : Nat) (c e v5 v6 : Int) (ξ : jm_M) (Q : Option jm_V → jm_M → Prop) : Prop := jg E m_L_told (d + 8) pc [some (jm_R 0), some (jm_R 133), some (jm_R 134), some (jm_I c), some (jm_I e), some (jm_I v5), some (jm_I v6), none, none, none, none, none] [] ξ Q
section TO
variable {E : jm_E} {d : Nat} {μ : jm_M} {Q : Option jm_V → jm_M → Prop} {c e : Int}
theorem told_who (k : ∀ ν, pF2 μ ν → pT ν (pLws (pR0 c) (pW0 c).toNat) → pV2 ν c 0 → pj1 E d 108 c e ((pLws (pR0 c) (pW0 c).toNat).length : Int) 0 ν Q) : ∀ (f w : Nat) (ξ : jm_M), w + f = (pW0 c).toNat → pF2 μ ξ → pT ξ (pLws (pR0 c) w) → pV1 ξ c w → pj1 E d 14 c e ((pLws (pR0 c) w).length : Int) (w : Int) ξ Q := by
  have hW := pW0_in c
  intro f
  induction f with
  | zero =>
    intro w ξ hw hF hT hV
    have e0 : w = (pW0 c).toNat := by omega
    refine r_L_told_14 (d := d + 8) ⟨fun _ m2 h2 => ?_, fun z => absurd (by rw [hV.1]; omega) z⟩
    rw [e0] at hT hV
    rw [e0]
    refine k m2 (by rw [h2]; exact hF.tr pF2.up) (by rw [h2]; exact pT_up hT) ⟨⟨?_, fun i i0 i1 => ?_⟩, ?_, fun j j0 j1 => absurd j1 (by omega)⟩
    · rw [h2, jm_up_i (by decide)]; exact hV.1
    · rw [h2, jm_up_i (by omega)]; exact hV.2 i i0 i1
    · rw [h2, jm_up_at]; rfl
  | succ f ih =>
    intro w ξ hw hF hT hV
    have hl := pLws_len (r := pR0 c) w
    have hr := pR0_in c (w : Int)
    have k1 : jm_wr (8 + (w : Int)) = 8 + (w : Int) := jm_wr_id (by omega) (by omega)
    have k2 : jm_wr (97 + (w : Int)) = 97 + (w : Int) := jm_wr_id (by omega) (by omega)
    have k3 : jm_wr ((w : Int) + 1) = (w : Int) + 1 := jm_wr_id (by omega) (by omega)
    refine r_L_told_14 (d := d + 8) ⟨fun z => absurd z (by rw [hV.1]; omega), fun _ => ?_⟩
    rw [k1, k2, k3]
    refine ⟨by omega, fun m4 h4 => ?_⟩
    have hT4 : pT m4 (pLws (pR0 c) w) := by rw [h4]; exact pT_up hT
    have e4 : m4 134 (8 + (w : Int)) = pR0 c (w : Int) := by rw [h4, jm_up_at]; rfl
    have hV4 : pV1 m4 c (w + 1) := by
      refine ⟨by rw [h4, jm_up_i (by omega)]; exact hV.1, fun i i0 i1 => ?_⟩
      by_cases q : i = (w : Int)
      · rw [q]; exact e4
      · rw [h4, jm_up_i (by omega)]; exact hV.2 i i0 (by omega)
    have hx : (pTx (-101)).length = 4 := by decide
    refine c_L_add (d := d + 3) (a := -101) ⟨by decide, by decide⟩ hT4 (by omega) rfl (fun n1 f1 t1 => jq_I ?_)
    refine c_L_put (d := d + 7) (c := 97 + (w : Int)) t1 (by rw [List.length_append]; omega) (by rw [List.length_append]; omega) (by omega) (by omega) (fun n2 f2 t2 => jq_I ?_)
    refine c_L_put (d := d + 7) (c := 32) t2 (by rw [List.length_append, List.length_append]; show _ + 1 < 240; omega) (by rw [List.length_append, List.length_append]; show _ = ((_ + 1 : Nat) : Int); omega) (by decide) (by decide) (fun n3 f3 t3 => jq_I ?_)
    have e7 : n3 134 (8 + (w : Int)) = pR0 c (w : Int) := by rw [f3 134 (by decide), f2 134 (by decide), f1 134 (by decide)]; exact e4
    rw [e7]
    refine c_L_number (d := d + 6) (by omega) (by omega) t3 (by simp only [List.length_append, List.length_cons, List.length_nil]; omega) (by simp only [List.length_append, List.length_cons, List.length_nil]; omega) (fun n4 f4 t4 => jq_I ?_)
    refine c_L_put (d := d + 7) (c := 59) t4 (by simp only [List.length_append, List.length_cons, List.length_nil]; omega) (by simp only [List.length_append, List.length_cons, List.length_nil]; omega) (by decide) (by decide) (fun n5 f5 t5 => jq_I ?_)
    have ht : pLws (pR0 c) w ++ pTx (-101) ++ [97 + (w : Int)] ++ [32] ++ [48 + pR0 c (w : Int)] ++ [59] = pLws (pR0 c) (w + 1) := by
      show _ = pLws (pR0 c) w ++ pLw (w : Int) (pR0 c (w : Int))
      rw [List.append_assoc, List.append_assoc, List.append_assoc, List.append_assoc]
      rfl
    rw [ht] at t5
    have hl2 := pLws_len (r := pR0 c) (w + 1)
    have ev : ((pLws (pR0 c) w).length : Int) + ((pTx (-101)).length : Int) + 1 + 1 + 1 + 1 = ((pLws (pR0 c) (w + 1)).length : Int) := by omega
    rw [ev]
    have hf : pF2 m4 n5 := ((((f1.f2).tr f2.f2).tr f3.f2).tr f4.f2).tr f5.f2
    have e5 : n5 134 = m4 134 := by rw [f5 134 (by decide), f4 134 (by decide), f3 134 (by decide), f2 134 (by decide), f1 134 (by decide)]
    exact ih (w + 1) n5 (by omega) ((hF.tr (by rw [h4]; exact pF2.up)).tr hf) t5 (hV4.fr e5)
/-- a kind's name and what it does -/
theorem c_L_kindOf {k : Int} (k0 : 0 ≤ k) (k7 : k < 7) (h : Q (some (jm_R (-102 - k))) μ) : jc E m_L_kindOf (d + 1) [jm_I k] μ Q := by
  refine e_L_kindOf (d := d) (fun _ => ⟨fun z => ?_, fun z0 => ⟨fun z => ?_, fun z1 => ⟨fun z => ?_, fun z2 => ⟨fun z => ?_, fun z3 => ⟨fun z => ?_, fun z4 => ⟨fun z => ?_, fun z5 => ?_⟩⟩⟩⟩⟩⟩)
  · rw [z] at h; exact h
  · rw [z] at h; exact h
  · rw [z] at h; exact h
  · rw [z] at h; exact h
  · rw [z] at h; exact h
  · rw [z] at h; exact h
  · rw [show k = 6 by omega] at h; exact h
theorem c_L_nameOf {k : Int} (k0 : 0 ≤ k) (k7 : k < 7) (h : Q (some (jm_I (96 + pKn k))) μ) : jc E m_L_nameOf (d + 1) [jm_I k] μ Q := by
  refine e_L_nameOf (d := d) (fun _ => ⟨fun z0 => ⟨fun z1 => ⟨fun z2 => ⟨fun z3 => ⟨fun z4 => ⟨fun z5 => ?_, fun z => ?_⟩, fun z => ?_⟩, fun z => ?_⟩, fun z => ?_⟩, fun z => ?_⟩, fun z => ?_⟩)
  · rw [show k = 6 by omega] at h; exact h
  · rw [show k = 5 by omega] at h; exact h
  · rw [show k = 4 by omega] at h; exact h
  · rw [show k = 3 by omega] at h; exact h
  · rw [show k = 2 by omega] at h; exact h
  · rw [show k = 1 by omega] at h; exact h
  · rw [show k = 0 by omega] at h; exact h
def pKt (sp k : Int) : List Int := pTx (-102 - k) ++ (if k = 1 then [48 + sp] else [])
def pKo (op k : Int) : List Int := if k = 6 then (if op = 0 then [] else if op = 1 then pTx (-109) else pTx (-110)) else []
theorem pLk_eq {op sp k : Int} (k0 : 0 ≤ k) (k7 : k < 7) (ho : op = 0 ∨ op = 1 ∨ op = 2) : pKt sp k ++ (pKo op k ++ [59]) = pLk op sp k := by
  rcases (show k = 0 ∨ k = 1 ∨ k = 2 ∨ k = 3 ∨ k = 4 ∨ k = 5 ∨ k = 6 by omega) with rfl | rfl | rfl | rfl | rfl | rfl | rfl
  · rfl
  · rfl
  · rfl
  · rfl
  · rfl
  · rfl
  · rcases ho with rfl | rfl | rfl <;> rfl
theorem pKt_len {sp k : Int} (k0 : 0 ≤ k) (k7 : k < 7) : (pKt sp k).length ≤ 17 := by
  rcases (show k = 0 ∨ k = 1 ∨ k = 2 ∨ k = 3 ∨ k = 4 ∨ k = 5 ∨ k = 6 by omega) with rfl | rfl | rfl | rfl | rfl | rfl | rfl
  all_goals exact Nat.le_of_ble_eq_true rfl
theorem pTx_len {a : Int} (ha : jm_ik a) : (pTx a).length ≤ 17 := by
  obtain ⟨i, hi, rfl, hi2⟩ := jm_ik_nat ha
  have h := (jm_kall i hi).1
  have h2 := pTx_all i hi
  unfold pTx
  rw [hi2]
  omega
/-- a kind's line ends -/
theorem told_189 {k : Nat} {bs : List Int} {n : Int} (hk : k < 7) (hn : n = (bs.length : Int)) (hl : bs.length ≤ 200) (hT : pT μ bs) (hV : pV2 μ c (k + 1)) (h : ∀ ν, pF2 μ ν → pT ν (bs ++ (pKo (pO0 c) (k : Int) ++ [59])) → pV2 ν c (k + 1) → pj1 E d 108 c e (n + ((pKo (pO0 c) (k : Int) ++ [59]).length : Int)) ((k : Int) + 1) ν Q) : pj1 E d 189 c e n (k : Int) μ Q := by
  have k3 : jm_wr ((k : Int) + 1) = (k : Int) + 1 := jm_wr_id (by omega) (by omega)
  have put : pKo (pO0 c) (k : Int) = [] → jc E m_L_put (d + 8) [jm_R 133, jm_I n, jm_I 59] μ (fun (o : Option jm_V) (m2 : jm_M) => ∀ r3 : Int, o = some (jm_I r3) → pj1 E d 108 c e r3 (jm_wr ((k : Int) + 1)) m2 Q) := by
    intro e0
    rw [e0] at h
    refine c_L_put (d := d + 7) hT (by omega) hn (by decide) (by decide) (fun n1 f1 t1 => jq_I ?_)
    rw [k3]
    exact h n1 f1.f2 t1 (hV.fr (f1 134 (by decide)))
  have add : ∀ a : Int, jm_ik a → pKo (pO0 c) (k : Int) = pTx a → jc E m_L_add (d + 8) [jm_R 133, jm_I n, jm_R a] μ (fun (o : Option jm_V) (m8 : jm_M) => ∀ r9 : Int, o = some (jm_I r9) → jc E m_L_put (d + 8) [jm_R 133, jm_I r9, jm_I 59] m8 (fun (o : Option jm_V) (m10 : jm_M) => ∀ r11 : Int, o = some (jm_I r11) → pj1 E d 108 c e r11 (jm_wr ((k : Int) + 1)) m10 Q)) := by
    intro a ha e0
    have hx := pTx_len ha
    rw [e0] at h
    refine c_L_add (d := d + 3) ha hT (by omega) hn (fun n1 f1 t1 => jq_I ?_)
    refine c_L_put (d := d + 7) (c := 59) t1 (by rw [List.length_append]; omega) (by rw [List.length_append]; omega) (by decide) (by decide) (fun n2 f2 t2 => jq_I ?_)
    rw [k3]
    have e1 : n + ((pTx a).length : Int) + 1 = n + ((pTx a ++ [59]).length : Int) := by rw [List.length_append]; show _ = n + (((pTx a).length + 1 : Nat) : Int); omega
    rw [e1]
    rw [List.append_assoc] at t2
    exact h n2 (f1.f2.tr f2.f2) t2 (hV.fr (by rw [f2 134 (by decide), f1 134 (by decide)]))
  refine r_L_told_189 (d := d + 8) ⟨fun z => put (by unfold pKo; rw [if_neg z]), fun z => ?_⟩
  have k6 : (k : Int) = 6 := by omega
  have ho := pO0_in c
  have e18 : μ 134 18 = pO0 c := by
    have q := (hV.2.2 6 (by decide) (by omega)).1
    exact q
  rw [e18]
  refine ⟨fun z1 => put ?_, fun z1 => ⟨fun z2 => add (-110) ⟨by decide, by decide⟩ ?_, fun z2 => add (-109) ⟨by decide, by decide⟩ ?_⟩⟩
  · unfold pKo; rw [if_pos k6, if_pos (by omega)]
  · unfold pKo; rw [if_pos k6, if_neg (by omega), if_neg z2]
  · unfold pKo; rw [if_pos k6, if_neg (by omega), if_pos (by omega)]
theorem told_kind {bs : List Int} (hb : bs.length ≤ 24) (k : ∀ ν, pF2 μ ν → pT ν (bs ++ pLks (pO0 c) (pP0 c) 7) → pV2 ν c 7 → pj1 E d 108 c e ((bs ++ pLks (pO0 c) (pP0 c) 7).length : Int) 7 ν Q) : ∀ (f j : Nat) (ξ : jm_M), j + f = 7 → pF2 μ ξ → pT ξ (bs ++ pLks (pO0 c) (pP0 c) j) → pV2 ξ c j → pj1 E d 108 c e ((bs ++ pLks (pO0 c) (pP0 c) j).length : Int) (j : Int) ξ Q := by
  intro f
  induction f with
  | zero =>
    intro j ξ hj hF hT hV
    obtain rfl : j = 7 := by omega
    exact k ξ hF hT hV
  | succ f ih =>
    intro j ξ hj hF hT hV
    have hl := pLks_len (op := pO0 c) (sp := pP0 c) j
    have hlb : (bs ++ pLks (pO0 c) (pP0 c) j).length ≤ 132 := by rw [List.length_append]; omega
    have hsp := pP0_in c
    have hop := pO0_in c
    have kt := pKt_len (sp := pP0 c) (k := (j : Int)) (by omega) (by omega)
    have k1 : jm_wr (12 + (j : Int)) = 12 + (j : Int) := jm_wr_id (by omega) (by omega)
    have k2 : jm_wr (20 + (j : Int)) = 20 + (j : Int) := jm_wr_id (by omega) (by omega)
    have tail : ∀ (x : Int) (m8 m10 : jm_M), x = pOp (pO0 c) (j : Int) → m8 = jm_up ξ 134 (12 + (j : Int)) x → m10 = jm_up m8 134 (20 + (j : Int)) 0 → jc E m_L_kindOf (d + 8) [jm_I (j : Int)] m10 (fun (o : Option jm_V) (m11 : jm_M) => ∀ r12 : Int, o = some (jm_R r12) → jc E m_L_add (d + 8) [jm_R 133, jm_I ((bs ++ pLks (pO0 c) (pP0 c) j).length : Int), jm_R r12] m11 (fun (o : Option jm_V) (m13 : jm_M) => ∀ r14 : Int, o = some (jm_I r14) →
        (((j : Int) ≠ 1 → pj1 E d 189 c e r14 (j : Int) m13 Q) ∧ (¬ ((j : Int) ≠ 1) → jc E m_L_number (d + 8) [jm_R 133, jm_I r14, jm_I (m13 134 11)] m13 (fun (o : Option jm_V) (m16 : jm_M) => ∀ r17 : Int, o = some (jm_I r17) → pj1 E d 189 c e r17 (j : Int) m16 Q))))) := by
      intro x m8 m10 hx h8 h10
      have hT10 : pT m10 (bs ++ pLks (pO0 c) (pP0 c) j) := by rw [h10, h8]; exact pT_up (pT_up hT)
      have hF10 : pF2 μ m10 := by rw [h10, h8]; exact (hF.tr pF2.up).tr pF2.up
      have hV10 : pV2 m10 c (j + 1) := by
        rw [h10, h8]
        refine ⟨⟨by rw [jm_up_i (by omega), jm_up_i (by omega)]; exact hV.1.1, fun i i0 i1 => by have := pW0_in c; rw [jm_up_i (by omega), jm_up_i (by omega)]; exact hV.1.2 i i0 i1⟩, by rw [jm_up_i (by omega), jm_up_i (by omega)]; exact hV.2.1, fun i i0 i1 => ?_⟩
        by_cases q : i = (j : Int)
        · subst q
          exact ⟨by rw [jm_up_i (by omega), jm_up_at]; exact hx, jm_up_at⟩
        · rw [jm_up_i (by omega), jm_up_i (by omega), jm_up_i (by omega), jm_up_i (by omega)]
          exact hV.2.2 i i0 (by omega)
      have hik : jm_ik (-102 - (j : Int)) := ⟨by omega, by omega⟩
      have hx17 := pTx_len hik
      have last : ∀ (ν : jm_M) (n : Int), pF2 m10 ν → ν 134 = m10 134 → pT ν (bs ++ pLks (pO0 c) (pP0 c) j ++ pKt (pP0 c) (j : Int)) → n = ((bs ++ pLks (pO0 c) (pP0 c) j ++ pKt (pP0 c) (j : Int)).length : Int) → pj1 E d 189 c e n (j : Int) ν Q := by
        intro ν n q1 q2 q3 q4
        refine told_189 (by omega) q4 (by rw [List.length_append]; omega) q3 (hV10.fr q2) (fun ν2 g1 g2 g3 => ?_)
        have ht : bs ++ pLks (pO0 c) (pP0 c) j ++ pKt (pP0 c) (j : Int) ++ (pKo (pO0 c) (j : Int) ++ [59]) = bs ++ pLks (pO0 c) (pP0 c) (j + 1) := by
          rw [List.append_assoc, pLk_eq (by omega) (by omega) hop, List.append_assoc]
          rfl
        rw [ht] at g2
        have hn2 : n + ((pKo (pO0 c) (j : Int) ++ [59]).length : Int) = ((bs ++ pLks (pO0 c) (pP0 c) (j + 1)).length : Int) := by
          rw [q4, ← ht, List.length_append (bs := pKo (pO0 c) (j : Int) ++ [59])]
          omega
        rw [hn2]
        exact ih (j + 1) ν2 (by omega) ((hF10.tr q1).tr g1) g2 g3
      refine c_L_kindOf (d := d + 7) (by omega) (by omega) (jq_R ?_)
      refine c_L_add (d := d + 3) hik hT10 (by omega) rfl (fun n1 f1 t1 => jq_I ⟨fun z => ?_, fun z => ?_⟩)
      · refine last n1 _ f1.f2 (f1 134 (by decide)) ?_ ?_
        · unfold pKt
          rw [if_neg z, List.append_nil]
          exact t1
        · unfold pKt
          rw [if_neg z, List.append_nil, List.length_append (as := bs ++ pLks (pO0 c) (pP0 c) j)]
          omega
      · have j1 : (j : Int) = 1 := by omega
        have e11 : n1 134 11 = pP0 c := by rw [f1 134 (by decide)]; exact hV10.2.1
        rw [e11]
        refine c_L_number (d := d + 6) (by omega) (by omega) t1 (by rw [List.length_append]; omega) (by rw [List.length_append (as := bs ++ pLks (pO0 c) (pP0 c) j)]; omega) (fun n2 f2 t2 => jq_I ?_)
        refine last n2 _ (f1.f2.tr f2.f2) (by rw [f2 134 (by decide), f1 134 (by decide)]) ?_ ?_
        · unfold pKt
          rw [if_pos j1, ← List.append_assoc]
          exact t2
        · unfold pKt
          rw [if_pos j1, ← List.append_assoc, List.length_append (bs := [48 + pP0 c]), List.length_append (as := bs ++ pLks (pO0 c) (pP0 c) j)]
          show _ = ((_ + 1 : Nat) : Int)
          omega
    refine r_L_told_108 (d := d + 8) ⟨fun z => absurd z (by omega), fun _ => ?_⟩
    rw [k1, k2]
    refine ⟨fun z0 => ⟨fun z6 => ⟨by omega, fun m8 h8 => ⟨by omega, fun m10 h10 => tail 0 m8 m10 (by unfold pOp; rw [if_neg z0, if_neg z6]) h8 h10⟩⟩, fun z6 => ⟨by omega, fun m8 h8 => ⟨by omega, fun m10 h10 => tail _ m8 m10 (by unfold pOp; rw [if_neg z0, if_pos (by omega)]; rfl) h8 h10⟩⟩⟩, fun z0 => ⟨by omega, fun m8 h8 => ⟨by omega, fun m10 h10 => tail 1 m8 m10 (by unfold pOp; rw [if_pos (by omega)]) h8 h10⟩⟩⟩
end TO
