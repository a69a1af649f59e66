/-! the law's table is told -/
theorem sVd_00 {T : zTs} (h : zTi T) : sVd (zD0 T) := by
  have e1 : sVM T.1 0 (fun _ => 0) := ⟨by decide, fun t t0 t1 => absurd (show t < 0 from t1) (by omega), by decide⟩
  have e2 : sWp (fun _ => 0, fun _ => 0, fun _ => 0, 0) := ⟨by decide, fun i hi => absurd hi (Nat.not_lt_zero _), fun i hi => by
    have e : i = 0 := Nat.le_zero.mp hi
    subst e
    exact Nat.zero_le _⟩
  exact ⟨h.1, Nat.zero_le _, fun t ht => absurd ht (Nat.not_lt_zero _), e1, e2, fun z => absurd rfl z⟩
/-- rules as the law's second row has them -/
def pVf (ν : jm_M) (ρ : sR) : Prop := (ρ 0 = 2 ∨ ρ 0 = 3) ∧ ρ 1 = 7 ∧ (ρ 3 = 1 ∨ ρ 3 = 2) ∧ ν 134 0 = ρ 0 ∧ ν 134 1 = ρ 3 ∧ (∀ i, 0 ≤ i → i < ρ 3 → ν 134 (2 + i) = ρ (6 + i)) ∧ ν 134 6 = ρ 4 ∧ ν 134 7 = ρ 5 ∧ (∀ i, 0 ≤ i → i < ρ 0 → ν 134 (8 + i) = ρ (12 + i)) ∧ ν 134 11 = sDu ρ 1 ∧ (1 ≤ sDu ρ 1 ∧ sDu ρ 1 ≤ 8) ∧ ∀ k, 0 ≤ k → k < 7 → ν 134 (12 + k) = sOp ρ k ∧ ν 134 (20 + k) = sMa ρ k ∧ sDo ρ k = pDo k ∧ sDu ρ k = pDu (sDu ρ 1) k
/-- the first text -/
def pB1 (c : Int) : List Int := pLws (pR0 c) (pW0 c).toNat ++ pLks (pO0 c) (pP0 c) 7 ++ [99, 111, 109, 98] ++ (pCb (pC0 c) (pK0 c).toNat ++ [59]) ++ pLr (pRk c) ++ pLt (pTw c)
theorem pB1_len (c : Int) : 16 ≤ (pB1 c).length ∧ (pB1 c).length ≤ 177 := by
  have hw := pW0_in c
  have hk := pK0_in c
  have l1 := pLws_len (r := pR0 c) (pW0 c).toNat
  have l2 := pLks_len (op := pO0 c) (sp := pP0 c) 7
  have l3 := pCb_len (cb := pC0 c) (pK0 c).toNat
  have l4 : (pLr (pRk c)).length ≤ 6 := by
    unfold pLr
    split <;> exact Nat.le_of_ble_eq_true rfl
  have l5 : (pLt (pTw c)).length ≤ 6 := by
    unfold pLt
    split <;> exact Nat.le_of_ble_eq_true rfl
  unfold pB1
  simp only [List.length_append, List.length_cons, List.length_nil]
  omega
section TF
variable {E : jm_E} {d : Nat} {μ : jm_M} {Q : Option jm_V → jm_M → Prop} {c e : Int}
theorem told_fin {τ : Int → Int} {ξ : jm_M} {l : List (Int × Int)} {had ln : Int} (hV : pV4 μ c) (hG : pG μ ξ l 49) (hh : had = ((pB1 c).length : Int)) (hln : ln = pW0 c + 8 + pRk c + pTw c) (ht : tTx μ τ had) (hτ : ∀ i : Nat, i < (pB1 c).length → τ (i : Int) = (pB1 c).getD i 0) (hb : ∀ i, 0 ≤ i → i < had → 0 ≤ τ i ∧ τ i ≤ 255)
    (h : ∀ ν ρ, pVf ν ρ → sWR ρ → tTl ν ρ (fun _ => 0) 0 → (∀ q, 135 ≤ q → ν q = μ q) → Q (some (jm_I 1)) ν) : pj5 E d 432 e (8 * (l.length : Int)) had ln (l.length : Int) 7 ξ Q := by
  obtain ⟨g1, g2, g3, g4, g5, g6, g7⟩ := hG
  have hN := pN_le 49 (by decide)
  have hfl := pFlat_len l
  have hbl := pB1_len c
  have hw := pW0_in c
  have hk := pK0_in c
  have hsp := pP0_in c
  have hop := pO0_in c
  have hrk : pRk c = 0 ∨ pRk c = 1 := pBit_in _
  have htw : pTw c = 0 ∨ pTw c = 1 := pBit_in _
  refine r_L_told_432 (d := d + 8) ⟨fun _ => ?_, fun z => absurd (by decide) z⟩
  refine c_L_more (d := d + 4) (τ := τ) g3 (by omega) ⟨by rw [g1 1 (by decide) (by decide)]; exact ht.1, fun i i0 i1 => by rw [g1 2 (by decide) (by decide)]; exact ht.2 i i0 i1⟩ (by omega) (by omega) hb (fun ν τ' f1 f2 f3 f4 f5 => jq_I ⟨fun z => absurd z (by omega), fun _ => ?_⟩)
  have hAt : pAt τ' (had + 8 * (l.length : Int)) 0 (pLws (pR0 c) (pW0 c).toNat ++ (pLks (pO0 c) (pP0 c) 7 ++ (pLc (pK0 c) (pC0 c) ++ (pLr (pRk c) ++ (pLt (pTw c) ++ l.flatMap pLm))))) := by
    have e0 : pLws (pR0 c) (pW0 c).toNat ++ (pLks (pO0 c) (pP0 c) 7 ++ (pLc (pK0 c) (pC0 c) ++ (pLr (pRk c) ++ (pLt (pTw c) ++ l.flatMap pLm)))) = pB1 c ++ l.flatMap pLm := by
      unfold pB1
      rw [← pLc_eq hk]
      simp only [List.append_assoc]
    rw [e0]
    refine ⟨Int.le_refl _, by rw [List.length_append]; omega, fun i hi => ?_⟩
    rw [List.length_append] at hi
    rw [Int.zero_add]
    by_cases q : i < (pB1 c).length
    · rw [f3 i (by omega) (by omega), hτ i q, List.getD_eq_getElem?_getD, List.getD_eq_getElem?_getD, List.getElem?_append_left q]
    · have := f4 (i - (pB1 c).length) (by omega)
      rw [show had + ((i - (pB1 c).length : Nat) : Int) = (i : Int) by omega] at this
      rw [this, List.getD_eq_getElem?_getD, List.getD_eq_getElem?_getD, List.getElem?_append_right (by omega)]
  obtain ⟨T, hz, hR, h2, hM⟩ := pParse (W := (pW0 c).toNat) (K := pK0 c) (rk := pRk c) (tw := pTw c) (op := pO0 c) (sp := pP0 c) (r := pR0 c) (cb := pC0 c) (l := l) (by omega) (by omega) (fun i _ _ => by have := pR0_in c i; omega) hop hsp.1 (by omega) hk (fun i _ _ => by have := pC0_in c i; omega) hrk htw (fun x hx => (g5 x hx).1) g6 (by omega) hAt
  rw [pW_nat] at hz hR
  refine c_C_table (d := d) (τ := τ') (n := had + 8 * (l.length : Int)) ⟨by omega, by omega, f5⟩ f2 (fun er he => by rw [hz] at he; cases he) (fun x hx ξ2 c1 c3 c2 s1 s9 sT sD => jq_I ?_)
  have ex : x = (T, pW0 c + 8 + pRk c + pTw c + (l.length : Int)) := by rw [hz] at hx; cases hx; rfl
  subst ex
  have sT : zTi T := sT
  have sD : cDk ξ2 (zD0 T) := sD
  have sV := sVd_00 sT
  have e134 : ∀ q, 134 ≤ q → ξ2 q = ξ q := fun q hq => (c1 q (by omega) (Or.inr (by omega)) (by omega) (by omega)).trans (f1.1 q (by omega) (by omega))
  have w1 : jm_wr (ln + (l.length : Int)) = ln + (l.length : Int) := jm_wr_id (by omega) (by omega)
  rw [w1]
  obtain ⟨⟨⟨⟨v0, v8⟩, v11, v12⟩, v1, v2⟩, v6, v7⟩ := hV
  obtain ⟨r0, r1, r3, r4, r5, r12, r6, r20⟩ := hR
  have row : ∀ i, i < 20 → ξ2 134 i = μ 134 i := fun i hi => by rw [e134 134 (by decide)]; exact g2 i hi
  have o0 : sCo T.1 0 0 0 0 = ξ2 134 0 := by rw [row 0 (by decide), v0, ← r0]; rfl
  have o1 : sCo T.1 0 0 0 1 = 7 := by rw [← r1]; rfl
  have o2 : sCo T.1 0 0 0 2 = (l.length : Int) := by rw [← h2]; rfl
  have o3 : sCo T.1 0 0 0 3 = ξ2 134 1 := by
    rw [row 1 (by decide), v1]
    show (if T.1 3 = 0 then 1 else T.1 3) = _
    rw [r3, if_neg (by omega)]
  have o4 : sCo T.1 0 0 0 4 = ξ2 134 6 := by rw [row 6 (by decide), v6, ← r4]; rfl
  have o5 : sCo T.1 0 0 0 5 = ξ2 134 7 := by rw [row 7 (by decide), v7, ← r5]; rfl
  refine ⟨fun z => absurd (by omega) z, fun _ => ?_⟩
  refine c_C_fault (d := d + 7) (jq_I ⟨fun z => absurd s9 z, fun _ => ?_⟩)
  refine c_C_count (d := d + 7) sD sV s1 (jq_I ⟨fun z => absurd o0 z, fun _ => ?_⟩)
  refine c_C_count (d := d + 7) sD sV s1 (jq_I ⟨fun z => absurd o1 z, fun _ => ?_⟩)
  refine c_C_count (d := d + 7) sD sV s1 (jq_I ⟨fun z => absurd o2 z, fun _ => ?_⟩)
  refine c_C_count (d := d + 7) sD sV s1 (jq_I ⟨fun z => absurd o3 z, fun _ => ?_⟩)
  refine c_C_count (d := d + 7) sD sV s1 (jq_I ⟨fun z => absurd o4 z, fun _ => ?_⟩)
  refine c_C_count (d := d + 7) sD sV s1 (jq_I ⟨fun z => absurd o5 z, fun _ => ?_⟩)
  refine c_C_count (d := d + 7) sD sV s1 (jq_I ⟨fun z => absurd rfl z, fun _ => ?_⟩)
  have du1 : sDu T.1 1 = pP0 c := (r20 1 (by decide) (by decide)).2.2
  refine h ξ2 T.1 ⟨by rw [r0]; exact hw, r1, by rw [r3]; exact hk, ?_, ?_, fun i i0 i1 => ?_, ?_, ?_, fun i i0 i1 => ?_, ?_, by rw [du1]; exact hsp, fun k k0 k1 => ⟨?_, ?_, (r20 k k0 k1).2.1, ?_⟩⟩ sT.1 sD.2.1 (fun q hq => (e134 q (by omega)).trans (g1 q (by omega) (by omega)))
  · rw [row 0 (by decide), v0, r0]
  · rw [row 1 (by decide), v1, r3]
  · rw [r3] at i1
    rw [row (2 + i) (by omega), v2 i i0 (by omega), r6 i i0 i1]
  · rw [row 6 (by decide), v6, r4]
  · rw [row 7 (by decide), v7, r5]
  · rw [r0] at i1
    rw [row (8 + i) (by omega), v8 i i0 (by omega), r12 i i0 i1]
  · rw [row 11 (by decide), v11, du1]
  · rw [row (12 + k) (by omega), (v12 k k0 (by omega)).1]
    exact (r20 k k0 k1).1.symm
  · rw [e134 134 (by decide), (g4 k k0 k1).1]
    exact (hM k k0 k1).symm
  · rw [du1]
    exact (r20 k k0 k1).2.2
theorem c_L_told {τ0 : Int → Int} {n0 : Int} (ht : tTx μ τ0 n0) (hn0 : 0 ≤ n0) (h : ∀ ν ρ, pVf ν ρ → sWR ρ → tTl ν ρ (fun _ => 0) 0 → (∀ q, 135 ≤ q → ν q = μ q) → Q (some (jm_I 1)) ν) : jc E m_L_told (d + 9) [jm_R 0, jm_R 133, jm_R 134, jm_I c, jm_I e] μ Q := by
  have hw := pW0_in c
  have hk := pK0_in c
  have hrk : pRk c = 0 ∨ pRk c = 1 := pBit_in _
  have htw : pTw c = 0 ∨ pTw c = 1 := pBit_in _
  have hbl := pB1_len c
  refine e_L_told (d := d + 8) (fun _ m1 h1 => ?_)
  have l1 := pLws_len (r := pR0 c) (pW0 c).toNat
  have hT1 : pT m1 [] := pT_0
  refine told_who (μ := μ) (fun ν2 F2 T2 V2 => ?_) (pW0 c).toNat 0 m1 (by omega) (by rw [h1]; exact pF2.up) hT1 ⟨by rw [h1, jm_up_at]; rfl, fun i i0 i1 => absurd i1 (by omega)⟩
  have b2 := told_kind (E := E) (d := d) (μ := μ) (Q := Q) (c := c) (e := e) (bs := pLws (pR0 c) (pW0 c).toNat) (by omega) (fun ν3 F3 T3 V3 => ?_) 7 0 ν2 (by decide) F2 (by rw [show pLks (pO0 c) (pP0 c) 0 = [] from rfl, List.append_nil]; exact T2) V2
  · rw [show pLks (pO0 c) (pP0 c) 0 = [] from rfl, List.append_nil] at b2
    exact b2
  · have l2 := pLks_len (op := pO0 c) (sp := pP0 c) 7
    have l3 : (pLws (pR0 c) (pW0 c).toNat ++ pLks (pO0 c) (pP0 c) 7).length ≤ 150 := by rw [List.length_append]; omega
    refine r_L_told_108 (d := d + 8) ⟨fun _ m2 h2 => ?_, fun z => absurd (by decide) z⟩
    have hx4 : (pTx (-111)).length = 4 := by decide
    have T4 : pT m2 (pLws (pR0 c) (pW0 c).toNat ++ pLks (pO0 c) (pP0 c) 7) := by rw [h2]; exact pT_up T3
    refine c_L_add (d := d + 3) (a := -111) ⟨by decide, by decide⟩ T4 (by omega) rfl (fun n5 f5 t5 => jq_I ?_)
    have e5 := f5 134 (by decide)
    have V5 : pV3 n5 c 0 := by
      obtain ⟨⟨a0, a1⟩, a2, a3⟩ := V3
      refine pV3.fr e5 ?_
      rw [h2]
      exact ⟨⟨⟨by rw [jm_up_i (by omega)]; exact a0, fun j j0 j1 => by rw [jm_up_i (by omega)]; exact a1 j j0 j1⟩, by rw [jm_up_i (by omega)]; exact a2, fun j j0 j1 => by rw [jm_up_i (by omega), jm_up_i (by omega)]; exact a3 j j0 j1⟩, by rw [jm_up_at]; rfl, fun j j0 j1 => absurd j1 (by omega)⟩
    have F5 : pF2 μ n5 := (F3.tr (by rw [h2]; exact pF2.up)).tr f5.f2
    have l5 : (pLws (pR0 c) (pW0 c).toNat ++ pLks (pO0 c) (pP0 c) 7 ++ [99, 111, 109, 98]).length ≤ 154 := by rw [List.length_append]; show _ + 4 ≤ 154; omega
    have b5 := told_comb (E := E) (d := d) (μ := μ) (Q := Q) (c := c) (e := e) (bs := pLws (pR0 c) (pW0 c).toNat ++ pLks (pO0 c) (pP0 c) 7 ++ [99, 111, 109, 98]) (by omega) (fun ν6 F6 T6 V6 e6 => ?_) (pK0 c).toNat 0 n5 (by omega) F5 (by rw [show pCb (pC0 c) 0 = [] from rfl, List.append_nil]; exact t5) V5
    · rw [show pCb (pC0 c) 0 = [] from rfl, List.append_nil, List.length_append (bs := [99, 111, 109, 98])] at b5
      exact b5
    · have l6 : (pLws (pR0 c) (pW0 c).toNat ++ pLks (pO0 c) (pP0 c) 7 ++ [99, 111, 109, 98] ++ (pCb (pC0 c) (pK0 c).toNat ++ [59]) ++ pLr (pRk c)).length ≤ 180 := by
        unfold pB1 at hbl
        rw [List.length_append (bs := pLt (pTw c))] at hbl
        omega
      refine told_357 l6 T6 V6 e6 (fun ν7 F7 T7 V7 => ?_)
      have T7 : pT ν7 (pB1 c) := T7
      show pj3 E d 385 e ((pB1 c).length : Int) ν7 Q
      have F7' := F6.tr F7
      refine r_L_told_385 (d := d + 8) ?_
      refine c_L_lies (d := d + 3) (m := n0) (τ := τ0) T7 rfl ⟨by rw [F7' 1 (by decide) (by decide)]; exact ht.1, fun i i0 i1 => by rw [F7' 2 (by decide) (by decide)]; exact ht.2 i i0 i1⟩ hn0 (fun ν8 τ8 f8 t8 a8 y8 => jq_Z ⟨fun z => absurd z (by decide), fun _ x6 hx6 => ?_⟩)
      have e8 : ν8 134 = ν7 134 := f8.1 134 (by decide) (by decide)
      have V8 : pV4 ν8 c := V7.fr e8
      have hx : x6 = pW0 c + 8 + pRk c + pTw c := by
        rw [hx6, V8.1.1.1.1, V8.2.1, V8.2.2, jm_wr_id (a := pW0 c + 8) (by omega) (by omega), jm_wr_id (a := pW0 c + 8 + pRk c) (by omega) (by omega), jm_wr_id (by omega) (by omega)]
      refine r_L_told_432 (d := d + 8) ⟨fun z => absurd z (by decide), fun _ => ?_⟩
      have G0 : pG ν8 ν8 [] (7 * 0 + 0) := ⟨fun _ _ _ => rfl, fun _ _ => rfl, pT_0, fun j j0 j1 => ⟨?_, Int.le_refl _, show (0 : Int) < 128 by decide⟩, fun x hx => absurd hx List.not_mem_nil, List.nodup_nil, Nat.le_refl _⟩
      · exact told_442 (E := E) (d := d) (μ := ν8) (Q := Q) (e := e) (had := ((pB1 c).length : Int)) (ln := x6) (fun ν9 l9 G9 => told_fin (μ := ν8) V8 G9 rfl hx t8 a8 y8 (fun ν ρ q1 q2 q3 q4 => h ν ρ q1 q2 q3 (fun q hq => (q4 q hq).trans ((f8.1 q (by omega) (by omega)).trans (F7' q (by omega) (by omega)))))) 56 0 0 ν8 [] (by decide) (by decide) (by decide) G0
      · exact (V8.1.1.2.2 j j0 (by omega)).2
end TF
