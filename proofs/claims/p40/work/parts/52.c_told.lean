/-! the law tells its table: comb, flags, who may answer whom; and what the class makes of it -/
theorem pW_nat {c : Int} : (((pW0 c).toNat : Nat) : Int) = pW0 c := by have := pW0_in c; omega
def pCb (cb : Int → Int) : Nat → List Int
  | 0 => []
  | i + 1 => pCb cb i ++ [32, 48 + cb (i : Int)]
theorem pCb_len {cb : Int → Int} : ∀ i : Nat, (pCb cb i).length = 2 * i
  | 0 => rfl
  | i + 1 => by
    show (pCb cb i ++ [32, 48 + cb (i : Int)]).length = _
    rw [List.length_append, pCb_len i]
    rfl
theorem pLc_eq {K : Int} {cb : Int → Int} (hK : K = 1 ∨ K = 2) : [99, 111, 109, 98] ++ (pCb cb K.toNat ++ [59]) = pLc K cb := by
  rcases hK with rfl | rfl <;> rfl
def pV3 (ξ : jm_M) (c : Int) (i : Nat) : Prop := pV2 ξ c 7 ∧ ξ 134 1 = pK0 c ∧ ∀ j, 0 ≤ j → j < (i : Int) → ξ 134 (2 + j) = pC0 c j
theorem pV3.fr {a b : jm_M} {c : Int} {i : Nat} (h : b 134 = a 134) (g : pV3 a c i) : pV3 b c i := ⟨g.1.fr h, by rw [h]; exact g.2.1, fun j j0 j1 => by rw [h]; exact g.2.2 j j0 j1⟩
/-- the law's second row is told whole, but for who may answer whom -/
def pRk (c : Int) : Int := jm_and (jm_shr c 19) 1
def pTw (c : Int) : Int := jm_and (jm_shr c 20) 1
def pV4 (ξ : jm_M) (c : Int) : Prop := pV3 ξ c (pK0 c).toNat ∧ ξ 134 6 = pRk c ∧ ξ 134 7 = pTw c
theorem pV4.fr {a b : jm_M} {c : Int} (h : b 134 = a 134) (g : pV4 a c) : pV4 b c := ⟨g.1.fr h, by rw [h]; exact g.2.1, by rw [h]; exact g.2.2⟩
abbrev pj2 (E : jm_E) (d pc : Nat) (c e v5 : Int) (ξ : jm_M) (Q : Option jm_V → jm_M → Prop) : Prop := jg E m_L_told (d + 8) pc [some (jm_R 0), some (jm_R 133), some (jm_R 134), some (jm_I c), some (jm_I e), some (jm_I v5), none, none, none, none, none, none] [] ξ Q
abbrev pj3 (E : jm_E) (d pc : Nat) (e v5 : Int) (ξ : jm_M) (Q : Option jm_V → jm_M → Prop) : Prop := jg E m_L_told (d + 8) pc [some (jm_R 0), some (jm_R 133), some (jm_R 134), none, some (jm_I e), some (jm_I v5), none, none, none, none, none, none] [] ξ Q
section TC2
variable {E : jm_E} {d : Nat} {μ : jm_M} {Q : Option jm_V → jm_M → Prop} {c e : Int}
theorem pV3_up {ξ : jm_M} {i v : Int} {n : Nat} (h : pV3 ξ c n) (hi : i = 6 ∨ i = 7) (hn : n ≤ 2) : pV3 (jm_up ξ 134 i v) c n := by
  have hw := pW0_in c
  obtain ⟨⟨⟨a0, a1⟩, a2, a3⟩, b1, b2⟩ := h
  refine ⟨⟨⟨by rw [jm_up_i (by omega)]; exact a0, fun j j0 j1 => by rw [jm_up_i (by omega)]; exact a1 j j0 j1⟩, by rw [jm_up_i (by omega)]; exact a2, fun j j0 j1 => by rw [jm_up_i (by omega), jm_up_i (by omega)]; exact a3 j j0 j1⟩, by rw [jm_up_i (by omega)]; exact b1, fun j j0 j1 => by rw [jm_up_i (by omega)]; exact b2 j j0 j1⟩
theorem told_comb {bs : List Int} (hb : bs.length ≤ 160) (k : ∀ ν, pF2 μ ν → pT ν (bs ++ (pCb (pC0 c) (pK0 c).toNat ++ [59]) ++ pLr (pRk c)) → pV3 ν c (pK0 c).toNat → ν 134 6 = pRk c → pj2 E d 357 c e ((bs ++ (pCb (pC0 c) (pK0 c).toNat ++ [59]) ++ pLr (pRk c)).length : Int) ν Q) : ∀ (f i : Nat) (ξ : jm_M), i + f = (pK0 c).toNat → pF2 μ ξ → pT ξ (bs ++ pCb (pC0 c) i) → pV3 ξ c i → pj1 E d 265 c e ((bs ++ pCb (pC0 c) i).length : Int) (i : Int) ξ Q := by
  have hK := pK0_in c
  have hk := pBit_in (jm_shr c 19)
  intro f
  induction f with
  | zero =>
    intro i ξ hi hF hT hV
    have e0 : i = (pK0 c).toNat := by omega
    have hlb := pCb_len (cb := pC0 c) i
    have hl : (bs ++ pCb (pC0 c) i).length ≤ 164 := by rw [List.length_append]; omega
    refine r_L_told_265 (d := d + 8) ⟨fun _ => ?_, fun z => absurd (by rw [hV.2.1]; omega) z⟩
    refine c_L_put (d := d + 7) hT (by omega) rfl (by decide) (by decide) (fun n1 f1 t1 => jq_I (fun m4 h4 => ?_))
    have e6 : m4 134 6 = pRk c := by rw [h4, jm_up_at]; rfl
    have hT4 : pT m4 (bs ++ (pCb (pC0 c) i ++ [59])) := by rw [h4, ← List.append_assoc]; exact pT_up t1
    have hF4 : pF2 μ m4 := by rw [h4]; exact (hF.tr f1.f2).tr pF2.up
    have hV4 : pV3 m4 c i := by rw [h4]; exact pV3_up (hV.fr (f1 134 (by decide))) (Or.inl rfl) (by omega)
    have hn : ((bs ++ pCb (pC0 c) i).length : Int) + 1 = ((bs ++ (pCb (pC0 c) i ++ [59])).length : Int) := by
      rw [← List.append_assoc, List.length_append (bs := [59])]
      rfl
    have hl4 : (bs ++ (pCb (pC0 c) i ++ [59])).length ≤ 165 := by omega
    rw [e6, hn]
    subst e0
    refine ⟨fun z => ?_, fun z => ?_⟩
    · have er : pLr (pRk c) = [] := by unfold pLr; rw [if_neg z]
      have := k m4 hF4 (by rw [er, List.append_nil]; exact hT4) hV4 e6
      rw [er, List.append_nil] at this
      exact this
    · have er : pLr (pRk c) = pTx (-112) := by unfold pLr; rw [if_pos (by omega)]; rfl
      have hx6 : (pTx (-112)).length = 6 := by decide
      refine c_L_add (d := d + 3) (a := -112) ⟨by decide, by decide⟩ hT4 (by omega) rfl (fun n2 f2 t2 => jq_I ?_)
      have e134 := f2 134 (by decide)
      have := k n2 (hF4.tr f2.f2) (by rw [er]; exact t2) (hV4.fr e134) (by rw [e134]; exact e6)
      rw [er, List.length_append (bs := pTx (-112))] at this
      exact this
  | succ f ih =>
    intro i ξ hi hF hT hV
    have hlb := pCb_len (cb := pC0 c) i
    have hl : (bs ++ pCb (pC0 c) i).length ≤ 164 := by rw [List.length_append]; omega
    have hr := pC0_in c (i : Int)
    have k1 : jm_wr (2 + (i : Int)) = 2 + (i : Int) := jm_wr_id (by omega) (by omega)
    have k3 : jm_wr ((i : Int) + 1) = (i : Int) + 1 := jm_wr_id (by omega) (by omega)
    refine r_L_told_265 (d := d + 8) ⟨fun z => absurd z (by rw [hV.2.1]; omega), fun _ => ?_⟩
    rw [k1, k3]
    refine ⟨by omega, fun m9 h9 => ?_⟩
    have hT9 : pT m9 (bs ++ pCb (pC0 c) i) := by rw [h9]; exact pT_up hT
    have e9 : m9 134 (2 + (i : Int)) = pC0 c (i : Int) := by rw [h9, jm_up_at]; rfl
    have hV9 : pV3 m9 c (i + 1) := by
      have hw := pW0_in c
      obtain ⟨⟨⟨a0, a1⟩, a2, a3⟩, b1, b2⟩ := hV
      rw [h9]
      refine ⟨⟨⟨by rw [jm_up_i (by omega)]; exact a0, fun j j0 j1 => by rw [jm_up_i (by omega)]; exact a1 j j0 j1⟩, by rw [jm_up_i (by omega)]; exact a2, fun j j0 j1 => by rw [jm_up_i (by omega), jm_up_i (by omega)]; exact a3 j j0 j1⟩, by rw [jm_up_i (by omega)]; exact b1, fun j j0 j1 => ?_⟩
      by_cases q : j = (i : Int)
      · rw [q, jm_up_at]; rfl
      · rw [jm_up_i (by omega)]; exact b2 j j0 (by omega)
    refine c_L_put (d := d + 7) (c := 32) hT9 (by omega) rfl (by decide) (by decide) (fun n1 f1 t1 => jq_I ?_)
    have e10 : n1 134 (2 + (i : Int)) = pC0 c (i : Int) := by rw [f1 134 (by decide)]; exact e9
    rw [e10]
    refine c_L_number (d := d + 6) (by omega) (by omega) t1 (by rw [List.length_append]; show _ + 1 < 240; omega) (by rw [List.length_append (bs := [32])]; rfl) (fun n2 f2 t2 => jq_I ?_)
    have ht : bs ++ pCb (pC0 c) i ++ [32] ++ [48 + pC0 c (i : Int)] = bs ++ pCb (pC0 c) (i + 1) := by
      rw [List.append_assoc, List.append_assoc]
      rfl
    have hn : ((bs ++ pCb (pC0 c) i).length : Int) + 1 + 1 = ((bs ++ pCb (pC0 c) (i + 1)).length : Int) := by
      rw [← ht, List.length_append (bs := [48 + pC0 c (i : Int)]), List.length_append (bs := [32])]
      show _ = ((_ + 1 + 1 : Nat) : Int)
      omega
    rw [ht] at t2
    rw [hn]
    exact ih (i + 1) n2 (by omega) ((hF.tr (by rw [h9]; exact pF2.up)).tr (f1.f2.tr f2.f2)) t2 (hV9.fr (by rw [f2 134 (by decide), f1 134 (by decide)]))
theorem told_357 {bs : List Int} (hl : bs.length ≤ 180) (hT : pT μ bs) (hV : pV3 μ c (pK0 c).toNat) (h6 : μ 134 6 = pRk c) (k : ∀ ν, pF2 μ ν → pT ν (bs ++ pLt (pTw c)) → pV4 ν c → pj3 E d 385 e ((bs ++ pLt (pTw c)).length : Int) ν Q) : pj2 E d 357 c e (bs.length : Int) μ Q := by
  have hK := pK0_in c
  have hk := pBit_in (jm_shr c 20)
  refine r_L_told_357 (d := d + 8) (fun m1 h1 => ?_)
  have e7 : m1 134 7 = pTw c := by rw [h1, jm_up_at]; rfl
  have hT1 : pT m1 bs := by rw [h1]; exact pT_up hT
  have hF1 : pF2 μ m1 := by rw [h1]; exact pF2.up
  have hV1 : pV4 m1 c := ⟨by rw [h1]; exact pV3_up hV (Or.inr rfl) (by omega), by rw [h1, jm_up_i (by decide)]; exact h6, e7⟩
  rw [e7]
  refine ⟨fun z => ?_, fun z => ?_⟩
  · have er : pLt (pTw c) = [] := by unfold pLt; rw [if_neg z]
    have := k m1 hF1 (by rw [er, List.append_nil]; exact hT1) hV1
    rw [er, List.append_nil] at this
    exact this
  · have er : pLt (pTw c) = pTx (-113) := by unfold pLt; rw [if_pos (by omega)]; rfl
    have hx6 : (pTx (-113)).length = 6 := by decide
    refine c_L_add (d := d + 3) (a := -113) ⟨by decide, by decide⟩ hT1 (by omega) rfl (fun n2 f2 t2 => jq_I ?_)
    have e134 := f2 134 (by decide)
    have := k n2 (hF1.tr f2.f2) (by rw [er]; exact t2) (hV1.fr e134)
    rw [er, List.length_append (bs := pTx (-113))] at this
    exact this
end TC2
/-! who may answer whom -/
def pEl (p : Nat) : Bool := ((p / 7 == 1 || p / 7 == 2) && p % 7 == 0) || ((p / 7 == 3 || p / 7 == 4 || p / 7 == 5) && p % 7 == 1) || p % 3 == 0 || p / 7 == 6
def pN : Nat → Nat
  | 0 => 0
  | p + 1 => pN p + (if pEl p = true then 1 else 0)
theorem pN_le : ∀ p : Nat, p < 50 → pN p ≤ 26 := by decide +kernel
theorem pMk_app {l : List (Int × Int)} {x : Int × Int} {k : Int} : pMk (l ++ [x]) k = pMs k (pMk l k) x := by
  unfold pMk
  rw [List.foldl_append]
  rfl
theorem pFlat_len : ∀ l : List (Int × Int), (l.flatMap pLm).length = 8 * l.length
  | [] => rfl
  | x :: l => by
    rw [List.flatMap_cons, List.length_append, pFlat_len l, List.length_cons]
    show 8 + _ = _
    omega
/-- so far told: ξ0 as it was when the first text was fed -/
def pG (ξ0 ξ : jm_M) (l : List (Int × Int)) (p : Nat) : Prop := pF2 ξ0 ξ ∧ (∀ i, i < 20 → ξ 134 i = ξ0 134 i) ∧ pT ξ (l.flatMap pLm) ∧ (∀ j, 0 ≤ j → j < 7 → ξ 134 (20 + j) = pMk l j ∧ 0 ≤ pMk l j ∧ pMk l j < 128) ∧ (∀ x ∈ l, ((0 ≤ x.1 ∧ x.1 < 7) ∧ 0 ≤ x.2 ∧ x.2 < 7) ∧ 7 * x.1 + x.2 < (p : Int)) ∧ l.Nodup ∧ l.length ≤ pN p
theorem pG.mono {ξ0 ξ : jm_M} {l : List (Int × Int)} {p : Nat} (h : pG ξ0 ξ l p) : pG ξ0 ξ l (p + 1) := by
  obtain ⟨h1, h2, h3, h4, h5, h6, h7⟩ := h
  refine ⟨h1, h2, h3, h4, fun x hx => ⟨(h5 x hx).1, by have := (h5 x hx).2; omega⟩, h6, ?_⟩
  show l.length ≤ pN p + _
  omega
abbrev pj4 (E : jm_E) (d pc : Nat) (e v5 v6 v7 v8 v9 v10 : Int) (ξ : jm_M) (Q : Option jm_V → jm_M → Prop) : Prop := jg E m_L_told (d + 8) pc [some (jm_R 0), some (jm_R 133), some (jm_R 134), none, some (jm_I e), some (jm_I v5), some (jm_I v6), some (jm_I v7), some (jm_I v8), some (jm_I v9), some (jm_I v10), none] [] ξ Q
abbrev pj5 (E : jm_E) (d pc : Nat) (e v5 v6 v7 v8 v9 : Int) (ξ : jm_M) (Q : Option jm_V → jm_M → Prop) : Prop := jg E m_L_told (d + 8) pc [some (jm_R 0), some (jm_R 133), some (jm_R 134), none, some (jm_I e), some (jm_I v5), some (jm_I v6), some (jm_I v7), some (jm_I v8), some (jm_I v9), none, none] [] ξ Q
section TM
variable {E : jm_E} {d : Nat} {μ : jm_M} {Q : Option jm_V → jm_M → Prop} {e had ln : Int}
theorem told_552 {k e2 : Nat} {l : List (Int × Int)} {ξ : jm_M} (hk : k < 7) (he : e2 < 7) (hp : pEl (7 * k + e2) = true) (hG : pG μ ξ l (7 * k + e2)) (kk : ∀ ν l', pG μ ν l' (7 * k + (e2 + 1)) → pj4 E d 442 e (8 * (l'.length : Int)) had ln (l'.length : Int) (k : Int) ((e2 : Int) + 1) ν Q) : pj4 E d 552 e (8 * (l.length : Int)) had ln (l.length : Int) (k : Int) (e2 : Int) ξ Q := by
  obtain ⟨h1, h2, h3, h4, h5, h6, h7⟩ := hG
  have hN := pN_le (7 * k + e2) (by omega)
  have hfl := pFlat_len l
  have w1 : jm_wr (20 + (k : Int)) = 20 + (k : Int) := jm_wr_id (by omega) (by omega)
  have w2 : jm_wr ((l.length : Int) + 1) = (l.length : Int) + 1 := jm_wr_id (by omega) (by omega)
  have w3 : jm_wr ((e2 : Int) + 1) = (e2 : Int) + 1 := jm_wr_id (by omega) (by omega)
  obtain ⟨q1, q2, q3⟩ := h4 (k : Int) (by omega) (by omega)
  refine r_L_told_552 (d := d + 8) (fun x1 hx1 => ?_)
  rw [w1] at hx1
  subst hx1
  rw [w2, w3]
  refine ⟨by omega, fun m3 hm3 => ?_⟩
  rw [q1, jm_or_bit q2 (by omega) (by omega) (by omega)] at hm3
  have hT3 : pT m3 (l.flatMap pLm) := by rw [hm3]; exact pT_up h3
  have hF3 : pF2 μ m3 := by rw [hm3]; exact h1.tr pF2.up
  have hx : (pTx (-114)).length = 4 := by decide
  have ka := pKn_in (k := (k : Int)) (by omega) (by omega)
  have kb := pKn_in (k := (e2 : Int)) (by omega) (by omega)
  refine c_L_add (d := d + 3) (a := -114) ⟨by decide, by decide⟩ hT3 (by omega) (by omega) (fun n1 f1 t1 => jq_I ?_)
  refine c_L_nameOf (d := d + 7) (by omega) (by omega) (jq_I ?_)
  refine c_L_put (d := d + 7) t1 (by rw [List.length_append]; omega) (by rw [List.length_append]; omega) (by omega) (by omega) (fun n2 f2 t2 => jq_I ?_)
  refine c_L_put (d := d + 7) (c := 32) t2 (by simp only [List.length_append, List.length_cons, List.length_nil]; omega) (by simp only [List.length_append, List.length_cons, List.length_nil]; omega) (by decide) (by decide) (fun n3 f3 t3 => jq_I ?_)
  refine c_L_nameOf (d := d + 7) (by omega) (by omega) (jq_I ?_)
  refine c_L_put (d := d + 7) t3 (by simp only [List.length_append, List.length_cons, List.length_nil]; omega) (by simp only [List.length_append, List.length_cons, List.length_nil]; omega) (by omega) (by omega) (fun n4 f4 t4 => jq_I ?_)
  refine c_L_put (d := d + 7) (c := 59) t4 (by simp only [List.length_append, List.length_cons, List.length_nil]; omega) (by simp only [List.length_append, List.length_cons, List.length_nil]; omega) (by decide) (by decide) (fun n5 f5 t5 => jq_I ?_)
  have ht : l.flatMap pLm ++ pTx (-114) ++ [96 + pKn (k : Int)] ++ [32] ++ [96 + pKn (e2 : Int)] ++ [59] = (l ++ [((k : Int), (e2 : Int))]).flatMap pLm := by
    rw [List.flatMap_append, List.append_assoc, List.append_assoc, List.append_assoc, List.append_assoc]
    rfl
  rw [ht] at t5
  have e5 : n5 134 = m3 134 := by rw [f5 134 (by decide), f4 134 (by decide), f3 134 (by decide), f2 134 (by decide), f1 134 (by decide)]
  have hl' : ((l ++ [((k : Int), (e2 : Int))]).length : Int) = (l.length : Int) + 1 := by rw [List.length_append]; rfl
  have := kk n5 (l ++ [((k : Int), (e2 : Int))]) ⟨hF3.tr (((((f1.f2).tr f2.f2).tr f3.f2).tr f4.f2).tr f5.f2), fun i i0 => by rw [e5, hm3, jm_up_i (by omega)]; exact h2 i i0, t5, fun j j0 j1 => ?_, fun x hx => ?_, ?_, ?_⟩
  · rw [hl'] at this
    rw [show 8 * (l.length : Int) + ((pTx (-114)).length : Int) + 1 + 1 + 1 + 1 = 8 * ((l.length : Int) + 1) by omega]
    exact this
  · rw [e5, hm3, pMk_app]
    unfold pMs
    by_cases q : (k : Int) = j
    · subst q
      rw [if_pos rfl, jm_up_at]
      exact ⟨rfl, sor_lt (n := 7) q2 (by omega) (by omega) (by omega)⟩
    · rw [if_neg q, jm_up_i (by omega)]
      exact h4 j j0 j1
  · rcases List.mem_append.mp hx with hx | hx
    · exact ⟨(h5 x hx).1, by have := (h5 x hx).2; omega⟩
    · have ex : x = ((k : Int), (e2 : Int)) := by simpa using hx
      subst ex
      refine ⟨⟨⟨by show (0 : Int) ≤ (k : Int); omega, by show (k : Int) < 7; omega⟩, by show (0 : Int) ≤ (e2 : Int); omega, by show (e2 : Int) < 7; omega⟩, ?_⟩
      show 7 * (k : Int) + (e2 : Int) < _
      omega
  · refine List.nodup_append.mpr ⟨h6, List.nodup_cons.mpr ⟨List.not_mem_nil, List.nodup_nil⟩, fun a ha b hb hab => ?_⟩
    have eb : b = ((k : Int), (e2 : Int)) := by simpa using hb
    have := (h5 a ha).2
    rw [hab, eb] at this
    have : 7 * (k : Int) + (e2 : Int) < ((7 * k + e2 : Nat) : Int) := this
    omega
  · rw [List.length_append]
    show l.length + 1 ≤ pN (7 * k + e2) + (if pEl (7 * k + e2) = true then 1 else 0)
    rw [if_pos hp]
    omega
theorem told_442 (fin : ∀ ν l, pG μ ν l 49 → pj5 E d 432 e (8 * (l.length : Int)) had ln (l.length : Int) 7 ν Q) : ∀ (f k e2 : Nat) (ξ : jm_M) (l : List (Int × Int)), k ≤ 6 → e2 ≤ 7 → 8 * k + e2 + f = 56 → pG μ ξ l (7 * k + e2) → pj4 E d 442 e (8 * (l.length : Int)) had ln (l.length : Int) (k : Int) (e2 : Int) ξ Q := by
  intro f
  induction f with
  | zero => intro k e2 ξ l hk he hf; omega
  | succ f ih =>
    intro k e2 ξ l hk he hf hG
    have w9 : jm_wr ((k : Int) + 1) = (k : Int) + 1 := jm_wr_id (by omega) (by omega)
    have w10 : jm_wr ((e2 : Int) + 1) = (e2 : Int) + 1 := jm_wr_id (by omega) (by omega)
    by_cases h7 : e2 = 7
    · subst h7
      refine r_L_told_442 (d := d + 8) ⟨fun _ => ?_, fun z => absurd (by decide) z⟩
      rw [w9]
      by_cases h6 : k = 6
      · subst h6
        exact fin ξ l hG
      · refine r_L_told_432 (d := d + 8) ⟨fun z => absurd z (by omega), fun _ => ?_⟩
        have := ih (k + 1) 0 ξ l (by omega) (by omega) (by omega) (by rw [show 7 * (k + 1) + 0 = 7 * k + 7 by omega]; exact hG)
        exact this
    · have he7 : e2 < 7 := by omega
      have skip : pj4 E d 442 e (8 * (l.length : Int)) had ln (l.length : Int) (k : Int) ((e2 : Int) + 1) ξ Q := ih k (e2 + 1) ξ l hk (by omega) (by omega) (by rw [show 7 * k + (e2 + 1) = 7 * k + e2 + 1 by omega]; exact hG.mono)
      have inc : pEl (7 * k + e2) = true → pj4 E d 552 e (8 * (l.length : Int)) had ln (l.length : Int) (k : Int) (e2 : Int) ξ Q := fun hp => told_552 (by omega) he7 hp hG (fun ν l' g => ih k (e2 + 1) ν l' hk (by omega) (by omega) g)
      have d1 : (7 * k + e2) / 7 = k := by omega
      have d2 : (7 * k + e2) % 7 = e2 := by omega
      have t529 : pj4 E d 529 e (8 * (l.length : Int)) had ln (l.length : Int) (k : Int) (e2 : Int) ξ Q := by
        refine r_L_told_529 (d := d + 8) ⟨fun _ => by rw [w10]; exact skip, fun z => ⟨fun _ => inc ?_, fun _ => by rw [w10]; exact skip⟩⟩
        have : k = 6 := by omega
        unfold pEl
        rw [d1, d2, this]
        simp
      have t489 : pj4 E d 489 e (8 * (l.length : Int)) had ln (l.length : Int) (k : Int) (e2 : Int) ξ Q := by
        have u1 : jm_wr (7 * (k : Int)) = 7 * (k : Int) := jm_wr_id (by omega) (by omega)
        have u2 : jm_wr (7 * (k : Int) + (e2 : Int)) = 7 * (k : Int) + (e2 : Int) := jm_wr_id (by omega) (by omega)
        have u3 : jm_rem (7 * (k : Int) + (e2 : Int)) 3 = (7 * (k : Int) + (e2 : Int)) % 3 := jm_rem_n (by omega) (by omega) (by decide) (by decide)
        refine r_L_told_489 (d := d + 8) ?_
        rw [u1, u2, u3]
        refine ⟨fun _ => t529, fun z => ⟨fun _ => inc ?_, fun _ => t529⟩⟩
        have q : (7 * k + e2) % 3 = 0 := by omega
        unfold pEl
        rw [d1, d2, q]
        simp
      have t485 : ((k = 1 ∨ k = 2) ∧ e2 = 0) ∨ ((k = 3 ∨ k = 4 ∨ k = 5) ∧ e2 = 1) → pj4 E d 485 e (8 * (l.length : Int)) had ln (l.length : Int) (k : Int) (e2 : Int) ξ Q := by
        intro q
        refine r_L_told_485 (d := d + 8) (inc ?_)
        unfold pEl
        rw [d1, d2]
        rcases q with ⟨q | q, q2⟩ | ⟨q | q | q, q2⟩ <;> subst q <;> subst q2 <;> rfl
      refine r_L_told_442 (d := d + 8) ⟨fun z => absurd z (by omega), fun _ => ⟨fun z1 => ⟨fun z2 => t485 (by omega), fun z2 => ⟨fun _ => t489, fun z3 => ⟨fun _ => t489, fun z4 => ⟨fun _ => t489, fun z5 => t485 (by omega)⟩⟩⟩⟩, fun z1 => ⟨fun z2 => ⟨fun _ => t489, fun z3 => ⟨fun _ => t489, fun z4 => ⟨fun _ => t489, fun z5 => t485 (by omega)⟩⟩⟩, fun z2 => ⟨fun z3 => t485 (by omega), fun z3 => ⟨fun _ => t489, fun z4 => ⟨fun _ => t489, fun z5 => ⟨fun _ => t489, fun z6 => t485 (by omega)⟩⟩⟩⟩⟩⟩⟩
end TM
