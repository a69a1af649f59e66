/-! a sentence, in the class: ONES of every depth; the call -/
section KX2
variable {E : jm_E} {d : Nat} {μ : jm_M} {Q : Option jm_V → jm_M → Prop} {τ : Int → Int} {n lim p : Int} {T : zTs} {S : zSs}
theorem c_K_one (hW : sWR T.1) : ∀ (r : Nat) (d : Nat), r ≤ 8 → kOn E (d + 2 * r + 6) τ n lim T r
  | 0, d, _ => by
    intro k S p ν Q h0 hT hS hi h1 h2
    have l1 : 0 ≤ ν 79 1 := by rw [hS.2.1]; omega
    have e5 := h0.val.1
    rw [zOn] at h1
    refine e_X4_readOne (d := d + 2 * 0 + 5) (fun _ => c_K_isSign h0 (fun a b => jq_Z (jb_f (by decide) ?_)) (fun z => jq_Z (jb_t rfl ?_)))
    · rw [if_pos (Or.inl ⟨a, b⟩)] at h1
      rw [e5]
      exact ⟨is_79, fun _ => c_K_fails (fun ξ er => jq_Z (h1 (4, _) rfl ξ (kFo.rfl.er er) (by rw [er.1 79 (by decide)]; exact l1))), fun _ => ⟨fun z => absurd z (by omega), fun _ => c_K_fails (fun ξ er => jq_Z (h1 (4, _) rfl ξ (kFo.rfl.er er) (by rw [er.1 79 (by decide)]; exact l1)))⟩⟩
    · refine c_K_stepHere h0 (jq_I ⟨fun q => ?_, fun q => ?_⟩)
      · rw [if_pos (Or.inr q)] at h1
        rw [e5]
        exact ⟨is_79, fun _ => c_K_fails (fun ξ er => jq_Z (h1 (4, _) rfl ξ (kFo.rfl.er er) (by rw [er.1 79 (by decide)]; exact l1))), fun _ => ⟨fun z => absurd z (by omega), fun _ => c_K_fails (fun ξ er => jq_Z (h1 (4, _) rfl ξ (kFo.rfl.er er) (by rw [er.1 79 (by decide)]; exact l1)))⟩⟩
      · rw [if_neg (fun y => y.elim z q)] at h1
        rw [e5]
        exact c_K_fails (fun ξ er => jq_Z (h1 (1, _) rfl ξ (kFo.rfl.er er) (by rw [er.1 79 (by decide)]; exact l1)))
  | r + 1, d, hr => by
    intro k S p ν Q h0 hT hS hi h1 h2
    have ih : kOn E (d + 2 * r + 6) τ n lim T r := c_K_one hW r d (by omega)
    have ih1 : kOn E (d + 2 * r + 7) τ n lim T r := by
      have := c_K_one hW r (d + 1) (by omega)
      rwa [show d + 1 + 2 * r + 6 = d + 2 * r + 7 by omega] at this
    have l1 : 0 ≤ ν 79 1 := by rw [hS.2.1]; omega
    have e5 := h0.val.1
    have e0 := hS.1
    have b20 := hi.2.1
    have bb := hi.b
    have k0 := hi.1
    have e9 : jm_wr ((9 - ((r + 1 : Nat) : Int)) + 1) = 9 - r := by rw [jm_wr_id (by omega) (by omega)]; omega
    rw [zOn] at h1 h2
    -- behind the ONE's first word
    have go : S.2 ≠ 20 → ∀ F : jm_M → Prop, (∀ m, kFo kU ν m → kAt m τ n lim (sNx1 τ n lim p) → tTb m 3 T.1 T.2.1 T.2.2 → kSs m (S.1, S.2 + 1) → F m) → 2 ≤ (sTok τ n lim p).1 → jc E m_X7_advance (d + 2 * r + 7) [jm_R 1] (jm_up ν 79 0 (jm_wr (ν 79 0 + 1))) (fun o m => o = none → F m) := by
      intro n20 F hF hs
      rw [e0, jm_wr_id (by omega) (by omega)]
      have S1 : kSs (jm_up ν 79 0 (S.2 + 1)) (S.1, S.2 + 1) := ⟨jm_up_at, by rw [jm_up_i (by decide)]; exact hS.2.1, fun i i0 i1 => by rw [jm_up_lj (by decide), jm_up_lj (by decide), jm_up_lj (by decide)]; exact hS.2.2 i i0 i1⟩
      have a1 : kAt (jm_up ν 79 0 (S.2 + 1)) τ n lim p := h0.kf (jm_up_ne (by decide)) (jm_up_ne (by decide))
      have f1 : kFo kU ν (jm_up ν 79 0 (S.2 + 1)) := kFo.up (by decide) (by decide)
      refine c_K_adv a1 hs (fun m b1 b2 _ => hF m (f1.trans (kFo.of b1)) b2 (tTb_U (f1.trans (kFo.of b1)) hT) (S1.of (fun x x0 x1 => b1.1 x (by omega))))
    show jc E m_X4_readOne (d + 2 * r + 7 + 1) [jm_R 79, jm_R 1, jm_R 3, jm_I (9 - ((r + 1 : Nat) : Int))] ν Q
    refine e_X4_readOne (d := d + 2 * r + 7) (fun _ => c_K_isSign h0 (fun a b => jq_Z (jb_f (by decide) ?_)) (fun z => jq_Z (jb_t rfl ?_)))
    · have nn : ¬ ¬ (zSg (sTok τ n lim) p 40 ∨ zSt (sTok τ n lim) p ≠ -1) := Decidable.not_not.mpr (Or.inl ⟨a, b⟩)
      rw [if_neg nn] at h1 h2
      rw [e5]
      refine ⟨is_79, fun q => ?_, fun q => ⟨fun _ => ?_, fun q2 => absurd (by omega) q2⟩⟩
      · rw [if_pos (show S.2 = 20 by omega)] at h1
        exact c_K_fails (fun ξ er => jq_Z (h1 (4, _) rfl ξ (kFo.rfl.er er) (by rw [er.1 79 (by decide)]; exact l1)))
      · have n20 : ¬ S.2 = 20 := by omega
        rw [if_neg n20, if_pos (show zSg (sTok τ n lim) p 40 from ⟨a, b⟩)] at h1 h2
        refine go n20 _ (fun m f1 a1 t1 s1 => ?_) (by omega)
        rw [e9]
        refine c_K_cond ih hW a1 t1 s1 (hi.up n20) (fun e he ξ fe l => jq_Z (jb_t rfl (h1 e (zBi_e he) ξ (f1.fe fe) l))) (fun x hx ξ fo xa xs => jq_Z (jb_f (by decide) ?_))
        rw [zBi_o hx] at h1 h2
        have l3 : 0 ≤ ξ 79 1 := by rw [xs.2.1]; omega
        refine c_K_takes xa (fun s4 v4 ζ c1 c2 => jq_Z (jb_f (by decide) ?_)) (fun y ζ er => jq_Z (jb_t rfl ?_))
        · rw [if_pos (show zSg (sTok τ n lim) x.2 41 from ⟨s4, v4⟩)] at h2
          exact h2 _ rfl ζ ((f1.trans fo).trans (kFo.of c1)) c2 (xs.of (fun x x0 x1 => c1.1 x (by omega)))
        · rw [if_neg y] at h1
          exact h1 (1, _) rfl ζ ((f1.trans fo).er er) (by rw [er.1 79 (by decide)]; exact l3)
    · refine c_K_stepHere h0 (jq_I ⟨fun q => ?_, fun q => ?_⟩)
      · have nn : ¬ ¬ (zSg (sTok τ n lim) p 40 ∨ zSt (sTok τ n lim) p ≠ -1) := Decidable.not_not.mpr (Or.inr q)
        have s2 : (sTok τ n lim p).1 = 2 := by
          unfold zSt at q
          by_cases y : (sTok τ n lim p).1 = 2 ∧ 18 ≤ sTm (sTok τ n lim p).2.2.2
          · exact y.1
          · rw [if_neg y] at q; exact absurd rfl q
        rw [if_neg nn] at h1 h2
        rw [e5]
        refine ⟨is_79, fun q => ?_, fun q => ⟨fun _ => ?_, fun q2 => absurd (by omega) q2⟩⟩
        · rw [if_pos (show S.2 = 20 by omega)] at h1
          exact c_K_fails (fun ξ er => jq_Z (h1 (4, _) rfl ξ (kFo.rfl.er er) (by rw [er.1 79 (by decide)]; exact l1)))
        · have n20 : ¬ S.2 = 20 := by omega
          rw [if_neg n20, if_neg z] at h1 h2
          refine go n20 _ (fun m f1 a1 t1 s1 => ?_) (by omega)
          have si := zSt_in (κ := sTok τ n lim) (p := p)
          refine ⟨fun y0 => ?_, fun y0 => ?_⟩
          · rw [if_neg y0] at h1 h2
            refine ⟨fun y5 => ?_, fun y5 => ?_⟩
            · exact c_K_sMeasured (by omega) a1 s1 bb.2 (fun e he ξ fe l => jq_Z (h1 e he ξ (f1.fe fe) l)) (fun x hx ξ fo xa xs => jq_Z (h2 x hx ξ (f1.trans fo) xa xs))
            · exact c_K_sNamed (by omega) (by omega) a1 hW t1 s1 bb.2 (fun e he ξ fe l => jq_Z (h1 e he ξ (f1.fe fe) l)) (fun x hx ξ fo xa xs => jq_Z (h2 x hx ξ (f1.trans fo) xa xs))
          · rw [if_pos (Decidable.not_not.mp y0)] at h1 h2
            rw [e9]
            refine ih1 (k + 1) (S.1, S.2 + 1) (sNx1 τ n lim p) m _ a1 t1 s1 (hi.up n20) (fun e he ξ fe l => jq_Z ?_) (fun x hx ξ fo xa xs => jq_Z ?_)
            · exact c_K_sput0 l (fun ζ f l2 _ => h1 e (zBi_e he) ζ ((f1.fe fe).U f) l2)
            · rw [zBi_o hx] at h2
              have xg := zOn_go hW r (k + 1) _ _ x (hi.up n20) hx
              exact c_K_sput xs xg.1.b.2 (fun ζ f kk _ => h2 _ rfl ζ ((f1.trans fo).trans (kFo_U f)) (xa.kf (f 1 (by decide)) (f 2 (by decide))) kk)
      · have nn : ¬ (zSg (sTok τ n lim) p 40 ∨ zSt (sTok τ n lim) p ≠ -1) := fun y => y.elim z q
        rw [if_pos nn] at h1
        rw [e5]
        exact c_K_fails (fun ξ er => jq_Z (h1 (1, _) rfl ξ (kFo.rfl.er er) (by rw [er.1 79 (by decide)]; exact l1)))
theorem c_C_sentence (hX : sTx τ n) (ht : tTx μ τ n) (hW : sWR T.1) (hT : tTb μ 3 T.1 T.2.1 T.2.2)
    (h1 : ∀ e, zSn (sTok τ n 200) T = .error e → ∀ ν, (∀ x, x ≠ 1 → x < 79 ∨ 82 < x → ν x = μ x) → (∀ j, j = 0 ∨ 10 < j → ν 1 j = μ 1 j) → ν 1 1 = 0 → ν 1 9 = e.1 → Q (some (jm_I (jm_wr (-1 - e.2)))) ν)
    (h2 : ∀ x, zSn (sTok τ n 200) T = .ok x → zSi 0 x → 0 < x.1.2.2.2 → sRt x.1.1 x.1.2.2.2 = [x.1.2.2.2 - 1] → ∀ ν, (∀ y, y ≠ 1 → y < 75 ∨ 82 < y → ν y = μ y) → (∀ j, j = 0 ∨ 10 < j → ν 1 j = μ 1 j) → ν 1 1 = 0 → ν 1 9 = 0 → tSn ν 75 x.1 → Q (some (jm_I x.2)) ν) : jc E m_X10_sentence (d + 25) [jm_R 0] μ Q := by
  refine e_X10_sentence (d := d + 24) (fun _ => e_X4_read (d := d + 23) (fun _ => ⟨is_79, e_X4_clear (d := d + 22) (fun _ => ⟨is_79, fun _ => ?_⟩)⟩))
  have g0 : ∀ x, x ≠ 79 → jm_up (jm_up μ 79 0 0) 79 1 0 x = μ x := fun x hx => by rw [jm_up_ne hx, jm_up_ne hx]
  have k0 : jm_up (jm_up μ 79 0 0) 79 1 0 79 0 = 0 := by rw [jm_up_i (by decide), jm_up_at]
  have k1 : jm_up (jm_up μ 79 0 0) 79 1 0 79 1 = 0 := jm_up_at
  generalize jm_up (jm_up μ 79 0 0) 79 1 0 = m0 at g0 k0 k1 ⊢
  have t0 : tTx m0 τ n := ⟨by rw [g0 1 (by decide)]; exact ht.1, fun i i0 i1 => by rw [g0 2 (by decide)]; exact ht.2 i i0 i1⟩
  refine c_K_open (d := d + 19) hX t0 (fun m1 a1 a2 a9 a10 aA _ => ?_)
  have nU : ∀ q : Int, q < 79 ∨ 82 < q → ¬ kU q := fun q hq y => by have : 79 ≤ q ∧ q ≤ 82 := y; omega
  have fr : ∀ x, x ≠ 1 → x ≠ 79 → m1 x = μ x := fun x x1 x2 => by rw [a1 x x1, g0 x x2]
  have sl : ∀ j, j = 0 ∨ 10 < j → m1 1 j = μ 1 j := fun j hj => by rw [a2 j (by omega), g0 1 (by decide)]
  have S1 : kSs m1 zS0 := ⟨by rw [a1 79 (by decide)]; exact k0, by rw [a1 79 (by decide)]; exact k1, fun i i0 i1 => absurd (show i < 0 from i1) (by omega)⟩
  have T1 : tTb m1 3 T.1 T.2.1 T.2.2 := tTb_of (fun q q0 q1 => fr q (by omega) (by omega)) hT
  have hone : kOn E (d + 16 + 6) τ n 200 T 8 := c_K_one hW 8 d (by decide)
  unfold zSn at h1 h2
  refine c_K_cond (d := d + 16) hone hW aA T1 S1 zSi_0 (fun e he ξ fe l => jq_Z (jb_t rfl (jq_Z (jb_t rfl ?_)))) (fun x hx ξ fo xa xs => jq_Z (jb_f (by decide) ?_))
  · refine c_C_after (fun _ => jq_I ?_) (fun z => absurd rfl z)
    rw [fe.2.2.2]
    exact h1 e (zBi_e he) _ (fun x x1 x2 => by rw [jm_up_ne x1, fe.1 x x1 (nU x x2), fr x x1 (by omega)]) (fun j hj => by rw [jm_up_i (by omega), fe.2.1 j (by omega), sl j hj]) jm_up_at (by rw [jm_up_i (by decide)]; exact fe.2.2.1)
  · rw [zBi_o hx] at h1 h2
    have xg := zCn_go (zOn_go (κ := sTok τ n 200) hW 8) 0 _ _ x zSi_0 hx
    refine c_K_closes xa (fun e => jq_Z (jb_f (by decide) (jq_Z (jb_f (by decide) ?_)))) (fun e ζ er => jq_Z (jb_t rfl (jq_Z (jb_t rfl ?_))))
    · rw [if_pos e] at h2
      refine c_T_scopy (p := 79) (q := 75) is_79 is_75 (by decide) xg.1.b.2 xs.2 (fun m7 b1 b0 b2 _ => ?_)
      refine c_C_after (fun z => absurd z (by decide)) (fun _ => jq_I ?_)
      rw [b0, xs.1]
      refine h2 _ rfl xg.1 xg.2.1 xg.2.2.2 _ (fun y y1 y2 => by rw [jm_up_ne y1, b2 y (by omega), fo.1 y y1 (nU y (by omega)), fr y y1 (by omega)]) (fun j hj => by rw [jm_up_i (by omega), b2 1 (by decide), fo.2 j (by omega), sl j hj]) jm_up_at (by rw [jm_up_i (by decide), b2 1 (by decide), fo.2 9 (by decide), a9]) (tSn_of (fun x x0 x1 => jm_up_ne (by omega)) b1)
    · rw [if_neg e] at h1
      refine c_C_after (fun _ => jq_I ?_) (fun z => absurd rfl z)
      rw [er.2.2.2]
      exact h1 (1, _) rfl _ (fun y y1 y2 => by rw [jm_up_ne y1, er.1 y y1, fo.1 y y1 (nU y y2), fr y y1 (by omega)]) (fun j hj => by rw [jm_up_i (by omega), er.2.1 j (by omega) (by omega), fo.2 j (by omega), sl j hj]) jm_up_at (by rw [jm_up_i (by decide)]; exact er.2.2.1)
end KX2
