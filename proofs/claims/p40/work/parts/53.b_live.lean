/-! the law's own talk: the walk, stage by stage -/
abbrev pl0 (E : jm_E) (d pc : Nat) (N t : Int) (ξ : jm_M) (Q : Option jm_V → jm_M → Prop) : Prop := jg E m_L_live d pc [some (jm_R 134), some (jm_R 135), some (jm_I N), some (jm_R 136), some (jm_I t), none, none, none, none, none, none, none] [] ξ Q
abbrev pl1 (E : jm_E) (d pc : Nat) (N t who k a y pr : Int) (ξ : jm_M) (Q : Option jm_V → jm_M → Prop) : Prop := jg E m_L_live d pc [some (jm_R 134), some (jm_R 135), some (jm_I N), some (jm_R 136), some (jm_I t), some (jm_I who), some (jm_I k), none, some (jm_I a), some (jm_I y), some (jm_I pr), none] [] ξ Q
abbrev pl2 (E : jm_E) (d pc : Nat) (N t who k a y : Int) (ξ : jm_M) (Q : Option jm_V → jm_M → Prop) : Prop := jg E m_L_live d pc [some (jm_R 134), some (jm_R 135), some (jm_I N), some (jm_R 136), some (jm_I t), some (jm_I who), some (jm_I k), none, some (jm_I a), some (jm_I y), none, none] [] ξ Q
abbrev pl3 (E : jm_E) (d pc : Nat) (N t who k : Int) (ξ : jm_M) (Q : Option jm_V → jm_M → Prop) : Prop := jg E m_L_live d pc [some (jm_R 134), some (jm_R 135), some (jm_I N), some (jm_R 136), some (jm_I t), some (jm_I who), some (jm_I k), none, none, none, none, none] [] ξ Q
abbrev pl4 (E : jm_E) (d pc : Nat) (N t k a y : Int) (ξ : jm_M) (Q : Option jm_V → jm_M → Prop) : Prop := jg E m_L_live d pc [some (jm_R 134), some (jm_R 135), some (jm_I N), some (jm_R 136), some (jm_I t), none, some (jm_I k), none, some (jm_I a), some (jm_I y), none, none] [] ξ Q
abbrev pl5 (E : jm_E) (d pc : Nat) (N t k a : Int) (ξ : jm_M) (Q : Option jm_V → jm_M → Prop) : Prop := jg E m_L_live d pc [some (jm_R 134), some (jm_R 135), some (jm_I N), some (jm_R 136), some (jm_I t), none, some (jm_I k), none, some (jm_I a), none, none, none] [] ξ Q
section LV
variable {E : jm_E} {d : Nat} {μ ξ : jm_M} {Q : Option jm_V → jm_M → Prop} {N t who k a y pr : Int}
theorem live_148 {wa z wz : Int} (k0 : 0 ≤ k) (k7 : k < 7) (hpr : pr = -1 ∨ pr = a) (ha : a = -1 ∨ 0 ≤ a ∧ a < 12) (h1 : 0 ≤ pr → jm_shr (ξ 135 a) 4 = wa ∧ 0 ≤ wa ∧ ξ 136 a = z ∧ (0 ≤ z ∧ z < 12) ∧ jm_shr (ξ 135 z) 4 = wz ∧ 0 ≤ wz) (h : pl2 E d 245 N t who k a (lv1 k a pr (if k = 5 then wz else wa) who) ξ Q) : pl1 E d 148 N t who k a 0 pr ξ Q := by
  have fin : ∀ y, lv1 k a pr (if k = 5 then wz else wa) who = y → pl2 E d 245 N t who k a y ξ Q := fun y e => by rw [← e]; exact h
  have f216 : 2 < k → k < 6 → 0 ≤ a → ∀ y, (0 ≤ pr → lv1 k a pr (if k = 5 then wz else wa) who = y) → pl1 E d 216 N t who k a y pr ξ Q := by
    intro q1 q2 q3 y e
    have n5 : ¬ 0 ≤ pr → lv1 k a pr (if k = 5 then wz else wa) who = 5 := fun z => by unfold lv1; rw [if_pos ⟨q1, q2⟩, if_pos (Or.inr (by omega))]
    exact r_L_live_216 (d := d) ⟨fun p0 => ⟨fun _ => fin _ (e p0), fun _ => ⟨fun _ => fin _ (e p0), fun _ => ⟨fun _ => fin _ (e p0), fun q => absurd q3 q⟩⟩⟩, fun p0 => ⟨fun _ => fin _ (n5 p0), fun _ => ⟨fun _ => fin _ (n5 p0), fun _ => ⟨fun _ => fin _ (n5 p0), fun _ => fin _ (n5 p0)⟩⟩⟩⟩
  refine r_L_live_148 (d := d) ⟨fun q => fin 0 (by unfold lv1; rw [if_neg (by omega)]), fun q => ⟨fun q2 => fin 0 (by unfold lv1; rw [if_neg (by omega)]), fun q2 => ⟨fun a0 => ⟨fun a1 => absurd a1 (by omega), fun _ => fin 5 (by unfold lv1; rw [if_pos ⟨by omega, by omega⟩, if_pos (Or.inl a0)])⟩, fun a0 => ⟨fun p0 => ⟨fun k5 => ?_, fun k5 => ?_⟩, fun p0 => f216 (by omega) (by omega) (by omega) 0 (fun z => absurd z p0)⟩⟩⟩⟩
  · have ep : pr = a := by omega
    obtain ⟨g1, g2, g3, g4, g5, g6⟩ := h1 p0
    refine ⟨by omega, fun x13 hx => ?_⟩
    rw [ep, g1] at hx
    subst hx
    refine ⟨fun z => absurd z (by omega), fun _ => ⟨fun e => f216 (by omega) (by omega) (by omega) 0 (fun _ => ?_), fun e => f216 (by omega) (by omega) (by omega) 6 (fun _ => ?_)⟩⟩
    · unfold lv1; rw [if_pos ⟨by omega, by omega⟩, if_neg (by omega), if_neg k5, if_pos e]
    · unfold lv1; rw [if_pos ⟨by omega, by omega⟩, if_neg (by omega), if_neg k5, if_neg e]
  · have ep : pr = a := by omega
    have k5 : k = 5 := by omega
    obtain ⟨g1, g2, g3, g4, g5, g6⟩ := h1 p0
    refine ⟨by omega, by rw [ep, g3]; omega, fun x18 hx => ?_⟩
    rw [ep, g3, g5] at hx
    subst hx
    refine ⟨fun z => absurd z (by omega), fun _ => ⟨fun e => f216 (by omega) (by omega) (by omega) 0 (fun _ => ?_), fun e => f216 (by omega) (by omega) (by omega) 6 (fun _ => ?_)⟩⟩
    · unfold lv1; rw [if_pos ⟨by omega, by omega⟩, if_neg (by omega), if_pos k5, if_pos e]
    · unfold lv1; rw [if_pos ⟨by omega, by omega⟩, if_neg (by omega), if_pos k5, if_neg e]
theorem live_245 {st : Int} (ha : a = -1 ∨ 0 ≤ a ∧ a < 12) (h1 : 0 ≤ a → ξ 136 (36 + a) = st) (h : pl2 E d 276 N t who k a (lv2 k a st y) ξ Q) : pl2 E d 245 N t who k a y ξ Q := by
  have fin : ∀ y', lv2 k a st y = y' → pl2 E d 276 N t who k a y' ξ Q := fun y' e => by rw [← e]; exact h
  have part : (k = 1 ∨ k = 2) → ((a < 0 → pl2 E d 276 N t who k a 5 ξ Q) ∧ (¬ a < 0 → (0 ≤ jm_wr (36 + a) ∧ jm_wr (36 + a) < 56) ∧ ((ξ 136 (jm_wr (36 + a)) = 1 → pl2 E d 276 N t who k a y ξ Q) ∧ (¬ (ξ 136 (jm_wr (36 + a)) = 1) → pl2 E d 276 N t who k a 5 ξ Q)))) := by
    intro hk
    refine ⟨fun a0 => fin 5 (by unfold lv2; rw [if_pos ⟨hk, Or.inl a0⟩]), fun a0 => ?_⟩
    have w : jm_wr (36 + a) = 36 + a := jm_wr_id (by omega) (by omega)
    rw [w, h1 (by omega)]
    refine ⟨by omega, fun s1 => fin y ?_, fun s1 => fin 5 ?_⟩
    · unfold lv2; rw [if_neg (fun z => z.2.elim (fun q => a0 q) (fun q => q s1))]
    · unfold lv2; rw [if_pos ⟨hk, Or.inr s1⟩]
  exact r_L_live_245 (d := d) ⟨fun k1 => part (Or.inl k1), fun k1 => ⟨fun k2 => fin y (by unfold lv2; rw [if_neg (fun z => z.1.elim (fun q => k1 q) (fun q => k2 q))]), fun k2 => part (Or.inr (by omega))⟩⟩
theorem live_276 {wa : Int} (ha : a = -1 ∨ 0 ≤ a ∧ a < 12) (h1 : 0 ≤ a → jm_shr (ξ 135 a) 4 = wa) (h : pl2 E d 307 N t who k a (lv3 k a wa who y) ξ Q) : pl2 E d 276 N t who k a y ξ Q := by
  have fin : ∀ y', lv3 k a wa who y = y' → pl2 E d 307 N t who k a y' ξ Q := fun y' e => by rw [← e]; exact h
  refine r_L_live_276 (d := d) ⟨fun a0 => fin y (by unfold lv3; rw [if_neg (fun z => absurd z.1 (by omega))]), fun a0 => ⟨by omega, ?_⟩⟩
  rw [h1 (by omega)]
  refine ⟨fun e => fin y (by unfold lv3; rw [if_neg (fun z => e z.2.1)]), fun e => ⟨fun k3 => fin y (by unfold lv3; rw [if_neg (fun z => z.2.2.1 k3)]), fun k3 => ⟨fun k4 => fin y (by unfold lv3; rw [if_neg (fun z => z.2.2.2 k4)]), fun k4 => fin 4 (by unfold lv3; rw [if_pos ⟨by omega, by omega, k3, k4⟩])⟩⟩⟩
theorem live_307 {op ma ka : Int} (k0 : 0 ≤ k) (k7 : k < 7) (ha : a = -1 ∨ 0 ≤ a ∧ a < 12) (ho : ξ 134 (12 + k) = op) (hm : ξ 134 (20 + k) = ma) (m0 : 0 ≤ ma) (m1 : ma < 2147483648) (h1 : 0 ≤ a → jm_and (ξ 135 a) 15 = ka ∧ 0 ≤ ka ∧ ka < 7) (h : pl2 E d 353 N t who k a (lv4 a op y (sbt ma ka)) ξ Q) : pl2 E d 307 N t who k a y ξ Q := by
  have fin : ∀ y', lv4 a op y (sbt ma ka) = y' → pl2 E d 353 N t who k a y' ξ Q := fun y' e => by rw [← e]; exact h
  have w1 : jm_wr (12 + k) = 12 + k := jm_wr_id (by omega) (by omega)
  have w2 : jm_wr (20 + k) = 20 + k := jm_wr_id (by omega) (by omega)
  refine r_L_live_307 (d := d) ?_
  rw [w1, w2, ho, hm]
  refine ⟨fun a0 => ⟨fun z => absurd z (by omega), fun _ => ⟨by omega, fun o1 => fin y (by unfold lv4; rw [if_pos a0, if_neg o1]), fun o1 => fin 2 (by unfold lv4; rw [if_pos a0, if_pos (by omega)])⟩⟩, fun a0 => ⟨by omega, by omega, ?_⟩⟩
  obtain ⟨g1, g2, g3⟩ := h1 (by omega)
  rw [g1, jm_bit m0 m1 g2 (by omega)]
  cases hb : sbt ma ka with
  | true =>
    rw [if_pos rfl]
    refine ⟨fun _ => ⟨fun _ => fin y (by unfold lv4; rw [if_neg a0, if_pos hb]), fun z => absurd z (by omega)⟩, fun z => absurd (by decide) z⟩
  | false =>
    rw [if_neg (by decide)]
    refine ⟨fun z => absurd rfl z, fun _ => ⟨fun _ => fin 3 (by unfold lv4; rw [if_neg a0, if_neg (by rw [hb]; decide)]), fun z => absurd z (by omega)⟩⟩
theorem live_353 {tw wl : Int} (t0 : 0 ≤ t) (t1 : t < 12) (h7 : ξ 134 7 = tw) (h1 : 0 < t → jm_shr (ξ 135 (t - 1)) 4 = wl) (h : pl4 E d 381 N t k a (if tw = 0 ∧ 0 < t ∧ wl = who then 1 else y) ξ Q) : pl2 E d 353 N t who k a y ξ Q := by
  have fin : ∀ y', (if tw = 0 ∧ 0 < t ∧ wl = who then 1 else y) = y' → pl4 E d 381 N t k a y' ξ Q := fun y' e => by rw [← e]; exact h
  have w : jm_wr (t - 1) = t - 1 := jm_wr_id (by omega) (by omega)
  refine r_L_live_353 (d := d) ?_
  rw [h7, w]
  refine ⟨fun z => fin y (by rw [if_neg (fun q => z q.1)]), fun z => ⟨fun z2 => fin y (by rw [if_neg (fun q => absurd q.2.1 (by omega))]), fun z2 => ⟨by omega, ?_⟩⟩⟩
  rw [h1 (by omega)]
  exact ⟨fun e => fin y (by rw [if_neg (fun q => e q.2.2)]), fun e => fin 1 (by rw [if_pos ⟨by omega, by omega, by omega⟩])⟩
/-- states -/
theorem live_465 (t0 : 0 ≤ t) (t1 : t < 12) (k0 : 0 ≤ k) (k7 : k < 7) (ha : 1 ≤ k → k ≤ 5 → 0 ≤ a ∧ a < t)
    (h : ∀ M : jm_M, pF6 ξ M → (∀ i, i ≠ 36 + t → (i ≠ 36 + a ∨ k = 0 ∨ k = 6) → M 136 i = ξ 136 i) → M 136 (36 + t) = sS0 (pDo k) → (1 ≤ k → k ≤ 5 → M 136 (36 + a) = sS1 (pDo k)) → pl0 E d 8 N (t + 1) M Q) : pl5 E d 465 N t k a ξ Q := by
  have w1 : jm_wr (36 + t) = 36 + t := jm_wr_id (by omega) (by omega)
  have w3 : jm_wr (t + 1) = t + 1 := jm_wr_id (by omega) (by omega)
  have low : ∀ M : jm_M, k ≤ 2 → pl0 E d 8 N (t + 1) M Q → pl5 E d 522 N t k a M Q := fun M q g => r_L_live_522 (d := d) ⟨fun _ => by rw [w3]; exact g, fun z => absurd q z⟩
  refine r_L_live_465 (d := d) ?_
  rw [w1]
  rcases (show k = 0 ∨ k = 1 ∨ k = 2 ∨ (3 ≤ k ∧ k ≤ 5) ∨ k = 6 by omega) with rfl | rfl | rfl | ⟨k3, k5⟩ | rfl
  · refine ⟨fun z => absurd rfl z, fun _ => ⟨by omega, fun m24 hm => ⟨fun z => absurd z (by decide), fun _ => ⟨fun _ => low m24 (by decide) ?_, fun z => absurd (by decide) z⟩⟩⟩⟩
    subst hm
    exact h _ pF6.up (fun i i0 _ => jm_up_i i0) jm_up_at (fun z => absurd z (by decide))
  · obtain ⟨a0, a1⟩ := ha (by decide) (by decide)
    have w2 : jm_wr (36 + a) = 36 + a := jm_wr_id (by omega) (by omega)
    rw [w2]
    refine ⟨fun _ => ⟨fun z => absurd rfl z, fun _ => ⟨by omega, fun m14 hm => ⟨fun _ => ⟨by omega, fun m18 hm2 => low m18 (by decide) ?_⟩, fun z => absurd rfl z⟩⟩⟩, fun z => absurd (by decide) z⟩
    subst hm
    subst hm2
    exact h _ (pF6.up.tr pF6.up) (fun i i0 i1 => by rw [jm_up_i (by omega), jm_up_i i0]) (by rw [jm_up_i (by omega), jm_up_at]; rfl) (fun _ _ => by rw [jm_up_at]; rfl)
  · obtain ⟨a0, a1⟩ := ha (by decide) (by decide)
    have w2 : jm_wr (36 + a) = 36 + a := jm_wr_id (by omega) (by omega)
    rw [w2]
    refine ⟨fun _ => ⟨fun _ => ⟨by omega, fun m4 hm => ⟨fun z => absurd z (by decide), fun _ => ⟨fun z => absurd rfl z, fun _ => ⟨by omega, fun m12 hm2 => low m12 (by decide) ?_⟩⟩⟩⟩, fun z => absurd (by decide) z⟩, fun z => absurd (by decide) z⟩
    subst hm
    subst hm2
    exact h _ (pF6.up.tr pF6.up) (fun i i0 i1 => by rw [jm_up_i (by omega), jm_up_i i0]) (by rw [jm_up_i (by omega), jm_up_at]; rfl) (fun _ _ => by rw [jm_up_at]; rfl)
  · obtain ⟨a0, a1⟩ := ha (by omega) (by omega)
    have w2 : jm_wr (36 + a) = 36 + a := jm_wr_id (by omega) (by omega)
    have w4 : jm_wr (k + 2) = k + 2 := jm_wr_id (by omega) (by omega)
    refine ⟨fun _ => ⟨fun _ => ⟨by omega, fun m4 hm => ⟨fun z => absurd z (by omega), fun _ => ⟨fun _ => ?_, fun z => absurd (by omega) z⟩⟩⟩, fun z => absurd (by omega) z⟩, fun z => absurd (by omega) z⟩
    refine r_L_live_522 (d := d) ⟨fun z => absurd z (by omega), fun _ => ⟨fun z => absurd z (by omega), fun _ => ?_⟩⟩
    rw [w2, w3, w4]
    refine ⟨by omega, fun m5 hm2 => ?_⟩
    subst hm
    subst hm2
    have ep : pDo k = k + 1 := by
      unfold pDo
      rw [if_pos (by omega)]
    have e0 : sS0 (pDo k) = 0 := by
      rw [ep]
      unfold sS0
      rw [if_neg (by omega), if_neg (by omega)]
    have e1 : sS1 (pDo k) = k + 2 := by
      rw [ep]
      unfold sS1
      rw [if_neg (by omega)]
      omega
    exact h _ (pF6.up.tr pF6.up) (fun i i0 i1 => by rw [jm_up_i (by omega), jm_up_i i0]) (by rw [jm_up_i (by omega), jm_up_at, e0]) (fun _ _ => by rw [jm_up_at, e1])
  · refine ⟨fun _ => ⟨fun _ => ⟨by omega, fun m4 hm => ⟨fun z => absurd z (by decide), fun _ => ⟨fun _ => ?_, fun z => absurd (by decide) z⟩⟩⟩, fun z => absurd (by decide) z⟩, fun z => absurd (by decide) z⟩
    refine r_L_live_522 (d := d) ⟨fun z => absurd z (by decide), fun _ => ⟨fun _ => ?_, fun z => absurd (by decide) z⟩⟩
    rw [w3]
    subst hm
    exact h _ pF6.up (fun i i0 _ => jm_up_i i0) jm_up_at (fun _ z => absurd z (by decide))
end LV
