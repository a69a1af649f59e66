/-! a sentence, in the class: steps, names, measures -/
theorem jm_up_s {m : jm_M} {p i v j : Int} : jm_up m p i v p j = sUp (m p) i v j := by
  unfold jm_up sUp
  rw [if_pos (Eq.refl p)]
section KS
variable {E : jm_E} {d : Nat} {μ : jm_M} {Q : Option jm_V → jm_M → Prop} {τ : Int → Int} {n lim p : Int} {T : zTs} {S : zSs}
abbrev kU : Int → Prop := fun x => 79 ≤ x ∧ x ≤ 82
def kSs (ν : jm_M) (S : zSs) : Prop := ν 79 0 = S.2 ∧ tSn ν 79 S.1
theorem kSs.of {ν ξ : jm_M} (h : kSs ν S) (hf : ∀ x, 79 ≤ x → x ≤ 82 → ξ x = ν x) : kSs ξ S := ⟨by rw [hf 79 (by decide) (by decide)]; exact h.1, tSn_of (fun x x0 x1 => hf x x0 (by omega)) h.2⟩
theorem kFo_U {ν ξ : jm_M} (h : ∀ x, x < 79 ∨ 82 < x → ξ x = ν x) : kFo kU ν ξ := ⟨fun x _ hw => h x (by have : ¬ (79 ≤ x ∧ x ≤ 82) := hw; omega), fun j _ => by rw [h 1 (by decide)]⟩
theorem c_K_sput0 {ν : jm_M} {a b c : Int} (h0 : 0 ≤ ν 79 1) (h : ∀ ξ, (∀ x, x < 79 ∨ 82 < x → ξ x = ν x) → 0 ≤ ξ 79 1 → Q none ξ) : jc E m_X4_put (d + 1) [jm_R 79, jm_I a, jm_I b, jm_I c] ν Q := by
  refine e_X4_put (fun _ => ⟨is_79, fun z => h ν (fun _ _ => rfl) h0, fun z => ⟨by omega, fun m4 h4 => ?_⟩⟩)
  have e4 : m4 79 1 = ν 79 1 := by rw [h4, jm_up_lj (by decide)]
  rw [e4]
  refine ⟨by omega, fun m6 h6 => ?_⟩
  have e6 : m6 79 1 = ν 79 1 := by rw [h6, jm_up_lj (by decide)]; exact e4
  rw [e6]
  refine ⟨by omega, fun m8 h8 => ?_⟩
  have e8 : m8 79 1 = ν 79 1 := by rw [h8, jm_up_lj (by decide)]; exact e6
  rw [e8, jm_wr_id (by omega) (by omega)]
  exact h _ (fun x hx => by rw [jm_up_ne (by omega), h8, jm_up_ne (by omega), h6, jm_up_ne (by omega), h4, jm_up_ne (by omega)]) (by rw [jm_up_at]; omega)
theorem c_K_sput {ν : jm_M} {a b c : Int} (hS : kSs ν S) (hn : S.1.2.2.2 ≤ 40) (h : ∀ ξ, (∀ x, x < 79 ∨ 82 < x → ξ x = ν x) → kSs ξ (zPu S a b c) → Q none ξ) : jc E m_X4_put (d + 1) [jm_R 79, jm_I a, jm_I b, jm_I c] ν Q := by
  have e1 := hS.2.1
  refine e_X4_put (fun _ => ⟨is_79, ?_⟩)
  rw [e1]
  refine ⟨fun z => absurd z (by omega), fun _ => ⟨by omega, fun m4 h4 => ?_⟩⟩
  have e4 : m4 79 1 = S.1.2.2.2 := by rw [h4, jm_up_lj (by decide)]; exact e1
  rw [e4]
  refine ⟨by omega, fun m6 h6 => ?_⟩
  have e6 : m6 79 1 = S.1.2.2.2 := by rw [h6, jm_up_lj (by decide)]; exact e4
  rw [e6]
  refine ⟨by omega, fun m8 h8 => ?_⟩
  have e8 : m8 79 1 = S.1.2.2.2 := by rw [h8, jm_up_lj (by decide)]; exact e6
  rw [e8, jm_wr_id (by omega) (by omega)]
  have g1 : ∀ j, jm_up m8 79 1 ((S.1.2.2.2 : Int) + 1) (79 + 1) j = sUp (ν (79 + 1)) S.1.2.2.2 a j := fun j => by rw [jm_up_lj (by decide), h8, jm_up_lj (by decide), h6, jm_up_lj (by decide), h4, jm_up_s]
  have g2 : ∀ j, jm_up m8 79 1 ((S.1.2.2.2 : Int) + 1) (79 + 2) j = sUp (ν (79 + 2)) S.1.2.2.2 b j := fun j => by rw [jm_up_lj (by decide), h8, jm_up_lj (by decide), h6, jm_up_s, h4, jm_up_ne (show (79 : Int) + 2 ≠ 79 + 1 by decide)]
  have g3 : ∀ j, jm_up m8 79 1 ((S.1.2.2.2 : Int) + 1) (79 + 3) j = sUp (ν (79 + 3)) S.1.2.2.2 c j := fun j => by rw [jm_up_lj (by decide), h8, jm_up_s, h6, jm_up_ne (show (79 : Int) + 3 ≠ 79 + 2 by decide), h4, jm_up_ne (show (79 : Int) + 3 ≠ 79 + 1 by decide)]
  refine h _ (fun x hx => by rw [jm_up_ne (by omega), h8, jm_up_ne (by omega), h6, jm_up_ne (by omega), h4, jm_up_ne (by omega)]) ⟨?_, ?_, fun i i0 i1 => ?_⟩
  · rw [jm_up_i (by decide), h8, jm_up_lj (by decide), h6, jm_up_lj (by decide), h4, jm_up_lj (by decide)]; exact hS.1
  · rw [jm_up_at]; rfl
  · have i1' : i < (S.1.2.2.2 : Int) + 1 := i1
    rw [g1, g2, g3]
    unfold zPu
    dsimp only
    by_cases q : i = S.1.2.2.2
    · rw [q, sUp_at, sUp_at, sUp_at, sUp_at, sUp_at, sUp_at]; exact ⟨rfl, fun _ => rfl, fun _ => rfl⟩
    · rw [sUp_ne q, sUp_ne q, sUp_ne q, sUp_ne q, sUp_ne q, sUp_ne q]; exact hS.2.2 i i0 (by omega)
theorem c_K_stepHere (h0 : kAt μ τ n lim p) (h : Q (some (jm_I (zSt (sTok τ n lim) p))) μ) : jc E m_X4_stepHere (d + 2) [jm_R 1] μ Q := by
  have ti := sTm_in (v := (sTok τ n lim p).2.2.2)
  have e : ∀ t v : Int, (sTok τ n lim p).1 = 2 → sTm (sTok τ n lim p).2.2.2 = t → 18 ≤ t → (if t = 18 then 0 else t - 16) = v → Q (some (jm_I v)) μ := fun t v s ht h18 hv => by
    have : zSt (sTok τ n lim) p = v := by unfold zSt; rw [if_pos ⟨s, by omega⟩, ht]; exact hv
    rw [this] at h; exact h
  refine e_X4_stepHere (d := d + 1) (fun _ => c_K_isTerm (t := 18) h0 (by decide) (by decide) (fun s t => jq_Z (jb_f (by decide) (e 18 0 s t (by decide) (by decide)))) (fun z18 => jq_Z (jb_t rfl ?_)) (by decide))
  refine c_K_isTerm (t := 19) h0 (by decide) (by decide) (fun s t => jq_Z (jb_f (by decide) (e 19 3 s t (by decide) (by decide)))) (fun z19 => jq_Z (jb_t rfl ?_)) (by decide)
  refine c_K_isTerm (t := 20) h0 (by decide) (by decide) (fun s t => jq_Z (jb_f (by decide) (e 20 4 s t (by decide) (by decide)))) (fun z20 => jq_Z (jb_t rfl ?_)) (by decide)
  refine c_K_isTerm (t := 21) h0 (by decide) (by decide) (fun s t => jq_Z (jb_f (by decide) (e 21 5 s t (by decide) (by decide)))) (fun z21 => jq_Z (jb_t rfl ?_)) (by decide)
  refine c_K_isTerm (t := 22) h0 (by decide) (by decide) (fun s t => jq_Z (jb_f (by decide) (e 22 6 s t (by decide) (by decide)))) (fun z22 => jq_Z (jb_t rfl ?_)) (by decide)
  refine c_K_isTerm (t := 23) h0 (by decide) (by decide) (fun s t => jq_Z (jb_f (by decide) (e 23 7 s t (by decide) (by decide)))) (fun z23 => jq_Z (jb_t rfl ?_)) (by decide)
  refine c_K_isTerm (t := 24) h0 (by decide) (by decide) (fun s t => jq_Z (jb_f (by decide) (e 24 8 s t (by decide) (by decide)))) (fun z24 => jq_Z (jb_t rfl ?_)) (by decide)
  refine c_K_isTerm (t := 25) h0 (by decide) (by decide) (fun s t => jq_Z (jb_f (by decide) (e 25 9 s t (by decide) (by decide)))) (fun z25 => jq_Z (jb_t rfl ?_)) (by decide)
  have : zSt (sTok τ n lim) p = -1 := by unfold zSt; rw [if_neg (fun q => by omega)]
  rw [this] at h; exact h
theorem kFe_U {ν ξ : jm_M} {f pl : Int} (er : kEr ν ξ f pl) : kFe kU ν ξ (f, pl) := kFo.rfl.er er
theorem c_K_sNamed {ν : jm_M} {st : Int} (s3 : 3 ≤ st) (s5 : st ≤ 5) (h0 : kAt ν τ n lim p) (hW : sWR T.1) (hT : tTb ν 3 T.1 T.2.1 T.2.2) (hS : kSs ν S) (hn : S.1.2.2.2 ≤ 40) (h1 : ∀ e, zAt (sTok τ n lim) T S p st = .error e → ∀ ξ, kFe kU ν ξ e → 0 ≤ ξ 79 1 → Q (some (jm_I 0)) ξ) (h2 : ∀ x, zAt (sTok τ n lim) T S p st = .ok x → ∀ ξ, kFo kU ν ξ → kAt ξ τ n lim x.2 → kSs ξ x.1 → Q (some (jm_I 1)) ξ) : jc E m_X4_readNamed (d + 4) [jm_R 79, jm_R 1, jm_R 3, jm_I st] ν Q := by
  have l1 : 0 ≤ ν 79 1 := by rw [hS.2.1]; omega
  unfold zAt at h1 h2
  rw [if_pos s5] at h1 h2
  have go : ∀ a : Int, (sTok τ n lim p).1 = 2 → (∀ ξ, kFo kU ν ξ → kAt ξ τ n lim (sNx1 τ n lim p) → kSs ξ (zPu S st 0 a) → Q (some (jm_I 1)) ξ) → jc E m_X4_put (d + 3) [jm_R 79, jm_I st, jm_I 0, jm_I a] ν (fun o m => o = none → jc E m_X7_advance (d + 3) [jm_R 1] m (fun o m2 => o = none → Q (some (jm_I 1)) m2)) := by
    intro a s hh
    refine c_K_sput hS hn (fun ξ f k _ => ?_)
    refine c_K_adv (h0.kf (f 1 (by decide)) (f 2 (by decide))) (by omega) (fun m7 b1 b2 _ => hh m7 ((kFo_U f).trans (kFo.of b1)) b2 (k.of (fun x x0 x1 => b1.1 x (by omega))))
  refine e_X4_readNamed (d := d + 3) (fun _ => ⟨fun z => ?_, fun z => ?_⟩)
  · rw [if_neg z] at h1 h2
    refine c_K_whoHere h0 is_3 hW hT.1.1 hT.2.1 (fun e he ξ er => jq_I (jb_f (by decide) (h1 e (zBi_e he) ξ (kFo.rfl.er er) (by rw [er.1 79 (by decide)]; exact l1)))) (fun a ha => jq_I ?_)
    obtain ⟨a0, a1, s⟩ := zNH_in hW.1 ha
    exact jb_t (by omega) ⟨is_79, go a s (fun ξ f k1 k2 => h2 _ (zBi_o ha) ξ f k1 k2)⟩
  · rw [if_pos (Decidable.not_not.mp z)] at h1 h2
    refine c_K_kindHere h0 is_3 hW hT.1.2.1 hT.2.2.1 (fun e he ξ er => jq_I (jb_f (by decide) (h1 e (zBi_e he) ξ (kFo.rfl.er er) (by rw [er.1 79 (by decide)]; exact l1)))) (fun a ha => jq_I ?_)
    obtain ⟨a0, a1, s⟩ := zNH_in hW.2.2.1 ha
    exact jb_t (by omega) ⟨is_79, go a s (fun ξ f k1 k2 => h2 _ (zBi_o ha) ξ f k1 k2)⟩
theorem c_K_sMeasured {ν : jm_M} {st : Int} (s5 : ¬ st ≤ 5) (h0 : kAt ν τ n lim p) (hS : kSs ν S) (hn : S.1.2.2.2 ≤ 40) (h1 : ∀ e, zAt (sTok τ n lim) T S p st = .error e → ∀ ξ, kFe kU ν ξ e → 0 ≤ ξ 79 1 → Q (some (jm_I 0)) ξ) (h2 : ∀ x, zAt (sTok τ n lim) T S p st = .ok x → ∀ ξ, kFo kU ν ξ → kAt ξ τ n lim x.2 → kSs ξ x.1 → Q (some (jm_I 1)) ξ) : jc E m_X4_readMeasured (d + 5) [jm_R 79, jm_R 1, jm_I st] ν Q := by
  have l1 : 0 ≤ ν 79 1 := by rw [hS.2.1]; omega
  unfold zAt at h1 h2
  rw [if_neg s5] at h1 h2
  have go : (zSg (sTok τ n lim) p 60 ∨ zSg (sTok τ n lim) p 61 ∨ zSg (sTok τ n lim) p 62) → jg E m_X4_readMeasured (d + 4) 37 [some (jm_R 79), some (jm_R 1), some (jm_I st), none] [] ν Q := by
    intro hq
    rw [if_neg (Decidable.not_not.mpr hq)] at h1 h2
    have s4 : (sTok τ n lim p).1 = 4 := by rcases hq with q | q | q <;> exact q.1
    have e8 : ν 1 8 = (sTok τ n lim p).2.2.2 := (h0.2.2.2.2.2.2.2.2.2.2.2.1 s4).2
    refine r_X4_readMeasured_37 (d := d + 4) (c_K_adv h0 (by omega) (fun m1 b1 b2 _ => ?_))
    have s := b2.s1
    have S1 : kSs m1 S := hS.of (fun x x0 x1 => b1.1 x (by omega))
    have l3 : 0 ≤ m1 79 1 := by rw [S1.2.1]; omega
    rw [e8]
    refine ⟨fun z => ⟨is_79, ?_⟩, fun z => ?_⟩
    · have s3 := s.2.1.mp z
      rw [b2.val.2.2 s3]
      rw [if_neg (Decidable.not_not.mpr s3)] at h2
      refine c_K_sput S1 hn (fun ξ f k _ => ?_)
      refine c_K_adv (b2.kf (f 1 (by decide)) (f 2 (by decide))) (by omega) (fun m5 c1 c2 _ => h2 _ rfl m5 (((kFo.of b1).trans (kFo_U f)).trans (kFo.of c1)) c2 (k.of (fun x x0 x1 => c1.1 x (by omega))))
    · rw [if_pos (fun q => z (s.2.1.mpr q))] at h1
      rw [b2.val.1]
      exact c_K_fails (fun ξ er => jq_Z (h1 (1, _) rfl ξ ((kFo.of b1).er er) (by rw [er.1 79 (by decide)]; exact l3)))
  refine e_X4_readMeasured (d := d + 4) (fun _ => c_K_isSign h0 (fun a b => jq_Z (jb_t (by decide) (go (Or.inl ⟨a, b⟩)))) (fun z1 => jq_Z (jb_f (by decide) ?_)))
  refine c_K_isSign h0 (fun a b => jq_Z (jb_t (by decide) (go (Or.inr (Or.inl ⟨a, b⟩))))) (fun z2 => jq_Z (jb_f (by decide) ?_))
  refine c_K_isSign h0 (fun a b => jq_Z (jb_t (by decide) (go (Or.inr (Or.inr ⟨a, b⟩))))) (fun z3 => jq_Z (jb_f (by decide) ?_))
  rw [if_pos (fun q => q.elim z1 (fun q => q.elim z2 z3))] at h1
  rw [h0.val.1]
  exact c_K_fails (fun ξ er => jq_Z (h1 (1, _) rfl ξ (kFo.rfl.er er) (by rw [er.1 79 (by decide)]; exact l1)))
end KS
