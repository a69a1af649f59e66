/-! a sentence, in the reference: ONES of every depth; the call -/
section MS
variable {E : jm_E} {d : Nat} {μ : jm_M} {Q : Option jm_V → jm_M → Prop} {τ : Int → Int} {n lim p w : Int} {T : zTs} {S : zSs}
theorem c_M_one (hW : sWR T.1) : ∀ (r : Nat) (d : Nat), r ≤ 8 → mRc E m_X11_readOne (d + 4 * r + 5) τ n lim T (8 - r) (zOn (sTok τ n lim) T r)
  | 0, d, _ => by
    intro k S p ν Q h0 hT hS hw hi h1 h2
    have e55 := hS.2.1
    rw [zOn] at h1
    have hw8 : ν 133 56 = 8 := hw
    have g46 : ∀ v1 v2 : Int, (zSg (sTok τ n lim) p 40 ∨ zSt (sTok τ n lim) p ≠ -1) → (sTok τ n lim p).1 ≠ 1 → jg E m_X11_readOne (d + 4 * 0 + 4) 46 [some (jm_R 133), some (jm_I v1), some (jm_I v2), none] [] ν Q := by
      intro v1 v2 q s1
      rw [if_pos q] at h1
      refine r_X11_readOne_46 (d := d + 4 * 0 + 4) ⟨fun _ => c_M_bad2 h0 s1 (fun ξ er => jq_Z (h1 (4, _) rfl ξ (eFo.rfl.er er))), fun _ => ⟨fun z => absurd hw8 z, fun _ => c_M_bad2 h0 s1 (fun ξ er => jq_Z (h1 (4, _) rfl ξ (eFo.rfl.er er)))⟩⟩
    refine e_X11_readOne (d := d + 4 * 0 + 4) (fun _ => c_M_isSign h0 (fun a b => jq_Z ?_) (fun z => jq_Z ?_))
    · exact g_M_10 (d := d + 4 * 0 + 1) h0 (fun v2 _ => g46 1 v2 (Or.inl ⟨a, b⟩) (by omega)) (fun z => absurd z (by decide))
    · refine g_M_10 (d := d + 4 * 0 + 1) h0 (fun v2 hv => g46 0 v2 (Or.inr (hv rfl).1) (fun s1 => ?_)) (fun _ q ξ er => h1 (1, _) (by rw [if_neg (fun y => y.elim z (fun y => y q))]; rfl) ξ (eFo.rfl.er er))
      have q := (hv rfl).1
      unfold zSt at q
      rw [if_neg (fun y => by omega)] at q
      exact q rfl
  | r + 1, d, hr => by
    intro k S p ν Q h0 hT hS hw hi h1 h2
    have ih : mRc E m_X11_readOne (d + 4 * r + 2 + 3) τ n lim T (8 - r) (zOn (sTok τ n lim) T r) := c_M_one hW r d (by omega)
    have ih2 : mRc E m_X11_readOne (d + 4 * r + 4 + 3) τ n lim T (8 - r) (zOn (sTok τ n lim) T r) := by
      have := c_M_one hW r (d + 2) (by omega)
      rwa [show d + 2 + 4 * r + 5 = d + 4 * r + 4 + 3 by omega] at this
    have hg : zGo (zOn (sTok τ n lim) T r) := zOn_go hW r
    have e55 := hS.2.1
    have b20 := hi.2.1
    have bb := hi.b
    have k0 := hi.1
    have hw8 : ν 133 56 = 7 - r := by rw [hw]; omega
    rw [zOn] at h1 h2
    -- behind the ONE's first word
    have go : S.2 ≠ 20 → ∀ F : jm_M → Prop, (∀ m, eFo ν m → mAt m τ n lim (sNx1 τ n lim p) → mTt m T → mNd m (S.1, S.2 + 1) → m 133 56 = 8 - r → F m) → 2 ≤ (sTok τ n lim p).1 → jc E m_X11_go (d + 4 * r + 8) [jm_R 133] (jm_up (jm_up ν 133 55 (jm_wr (ν 133 55 + 1))) 133 56 (jm_wr (ν 133 56 + 1))) (fun o m => o = none → F m) := by
      intro n20 F hF hs
      rw [e55, hw8, jm_wr_id (by omega) (by omega), jm_wr_id (by omega) (by omega)]
      have f1 : eFo ν (jm_up (jm_up ν 133 55 (S.2 + 1)) 133 56 (7 - r + 1)) := (eFo.up (by decide)).trans (eFo.up (by decide))
      have a1 : mAt (jm_up (jm_up ν 133 55 (S.2 + 1)) 133 56 (7 - r + 1)) τ n lim p := (h0.ef (j := 55) rfl (by decide)).ef rfl (by decide)
      have S1 : mNd (jm_up (jm_up ν 133 55 (S.2 + 1)) 133 56 (7 - r + 1)) (S.1, S.2 + 1) := by
        refine ⟨?_, ?_, fun i hi => ?_⟩
        · rw [jm_up_i (by decide), jm_up_i (by decide)]; exact hS.1
        · rw [jm_up_i (by decide), jm_up_at]
        · have := hS.2.2 i hi
          unfold mN1 at this ⊢
          rw [jm_up_ne (show (163 : Int) ≠ 133 by decide), jm_up_ne (show (163 : Int) ≠ 133 by decide)]
          exact this
      refine c_M_adv a1 hs (fun m b1 b2 _ => hF m (f1.trans (eFo.of b1)) b2 (hT.e (f1.trans (eFo.of b1))) (S1.kf b1) ?_)
      rw [b1.2 56 (by decide) (by decide), jm_up_at]
      omega
    -- behind what is read
    have ok : ∀ x : zSs × Int, ∀ m ξ, eFo ν m → mPo m ξ τ n lim x (8 - r) → mPo ν (jm_up ξ 133 56 (jm_wr (ξ 133 56 - 1))) τ n lim x (8 - ((r + 1 : Nat) : Int)) := by
      intro x m ξ f1 po
      obtain ⟨fo, xa, xs, xw, xt⟩ := po
      refine ⟨(f1.trans fo).trans (eFo.up (by decide)), xa.ef rfl (by decide), xs.of (jm_up_ne (by decide)) (jm_up_i (by decide)) (jm_up_i (by decide)), ?_, by rw [jm_up_i (by decide)]; exact xt⟩
      rw [jm_up_at, xw, jm_wr_id (by omega) (by omega)]
      omega
    have g46 : ∀ v1 v2 : Int, (zSg (sTok τ n lim) p 40 ∧ v1 = 1 ∨ ¬ zSg (sTok τ n lim) p 40 ∧ v1 = 0 ∧ zSt (sTok τ n lim) p ≠ -1 ∧ 17 ≤ v2 ∧ v2 ≤ 24 ∧ (zSt (sTok τ n lim) p = 0 ↔ v2 = 17) ∧ (zSt (sTok τ n lim) p ≠ 0 → v2 = zSt (sTok τ n lim) p + 15)) → jg E m_X11_readOne (d + 4 * r + 8) 46 [some (jm_R 133), some (jm_I v1), some (jm_I v2), none] [] ν Q := by
      intro v1 v2 hc
      have hs : 2 ≤ (sTok τ n lim p).1 := by
        rcases hc with ⟨q, _⟩ | ⟨_, _, q, _⟩
        · have := q.1; omega
        · unfold zSt at q
          by_cases y : (sTok τ n lim p).1 = 2 ∧ 18 ≤ sTm (sTok τ n lim p).2.2.2
          · omega
          · rw [if_neg y] at q; exact absurd rfl q
      have nn : ¬ ¬ (zSg (sTok τ n lim) p 40 ∨ zSt (sTok τ n lim) p ≠ -1) := Decidable.not_not.mpr (by rcases hc with ⟨q, _⟩ | ⟨_, _, q, _⟩; exact Or.inl q; exact Or.inr q)
      rw [if_neg nn] at h1 h2
      refine r_X11_readOne_46 (d := d + 4 * r + 8) ⟨fun q => ?_, fun q => ⟨fun _ => ?_, fun z => absurd (by omega) z⟩⟩
      · rw [if_pos (show S.2 = 20 by omega)] at h1
        exact c_M_bad2 h0 (by omega) (fun ξ er => jq_Z (h1 (4, _) rfl ξ (eFo.rfl.er er)))
      · have n20 : ¬ S.2 = 20 := by omega
        rw [if_neg n20] at h1 h2
        refine go n20 _ (fun m f1 a1 t1 s1 w1 => ?_) hs
        have up := hi.up n20
        rcases hc with ⟨q, hv⟩ | ⟨q, hv, qs, v17, v24, hz, hnz⟩
        · rw [if_pos q] at h1 h2
          refine ⟨fun z => by omega, fun _ => ?_⟩
          exact c_M_readBracket hg ih (k + 1) (S.1, S.2 + 1) (sNx1 τ n lim p) m _ a1 t1 s1 w1 up (fun e he ξ fe => jq_Z (h1 e he _ ((f1.fe fe).up (by decide)))) (fun x hx ξ po => jq_Z (h2 x hx _ (ok x m ξ f1 po)))
        · rw [if_neg q] at h1 h2
          have si := zSt_in (κ := sTok τ n lim) (p := p)
          refine ⟨fun _ => ⟨fun y => ⟨fun y2 => ?_, fun y2 => ?_⟩, fun y => ?_⟩, fun z => absurd hv z⟩
          · have nz : ¬ zSt (sTok τ n lim) p = 0 := fun z => y (hz.mp z)
            have ev := hnz nz
            rw [if_neg nz] at h1 h2
            exact c_M_sCompare (st := zSt (sTok τ n lim) p) (by omega) (by omega) a1 s1 bb.2 w1 (fun e he ξ fe => jq_Z (h1 e he _ ((f1.fe fe).up (by decide)))) (fun x hx ξ po => jq_Z (h2 x hx _ (ok x m ξ f1 po))) ev
          · have nz : ¬ zSt (sTok τ n lim) p = 0 := fun z => y (hz.mp z)
            have ev := hnz nz
            rw [if_neg nz] at h1 h2
            exact c_M_sNamed (st := zSt (sTok τ n lim) p) (by omega) (by omega) a1 t1 s1 bb.2 w1 (fun e he ξ fe => jq_Z (h1 e he _ ((f1.fe fe).up (by decide)))) (fun x hx ξ po => jq_Z (h2 x hx _ (ok x m ξ f1 po))) ev
          · have ez : zSt (sTok τ n lim) p = 0 := hz.mpr (Decidable.not_not.mp y)
            rw [if_pos ez] at h1 h2
            exact c_M_readNot hg ih2 a1 t1 s1 w1 up (fun e he ξ fe => jq_Z (h1 e (zBi_e he) _ ((f1.fe fe).up (by decide)))) (fun x hx ξ po => jq_Z (h2 _ (zBi_o hx) _ (ok _ m ξ f1 po)))
    show jc E m_X11_readOne (d + 4 * r + 8 + 1) [jm_R 133] ν Q
    refine e_X11_readOne (d := d + 4 * r + 8) (fun _ => c_M_isSign h0 (fun a b => jq_Z ?_) (fun z => jq_Z ?_))
    · exact g_M_10 (d := d + 4 * r + 5) h0 (fun v2 _ => g46 1 v2 (Or.inl ⟨⟨a, b⟩, rfl⟩)) (fun z => absurd z (by decide))
    · exact g_M_10 (d := d + 4 * r + 5) h0 (fun v2 hv => g46 0 v2 (Or.inr ⟨z, rfl, hv rfl⟩)) (fun _ q ξ er => h1 (1, _) (by rw [if_pos (fun y => y.elim z (fun y => y q))]; rfl) ξ (eFo.rfl.er er))
theorem g_M_s79 {ξ : jm_M} {v : Int} (h55 : ξ 133 55 = v) (h : ∀ ν, (∀ y, y ≠ 135 → ν y = ξ y) → (∀ j, j < 912 → ν 135 j = ξ 135 j) → (∀ j, 0 ≤ j → j < 240 → ν 135 (912 + j) = ξ 163 j) → Q (some (jm_I v)) ν) : jg E m_X11_sentence (d + 5) 79 [some (jm_R 133), some (jm_I 0)] [] ξ Q := by
  have key : ∀ (f : Nat) (i : Int) (ν : jm_M), i + f = 240 → 0 ≤ i → (∀ y, y ≠ 135 → ν y = ξ y) → (∀ j, j < 912 → ν 135 j = ξ 135 j) → (∀ j, 0 ≤ j → j < i → ν 135 (912 + j) = ξ 163 j) → jg E m_X11_sentence (d + 5) 79 [some (jm_R 133), some (jm_I i)] [] ν Q := by
    intro f
    induction f with
    | zero =>
      intro i ν g1 g2 g3 g4 g5
      refine r_X11_sentence_79 (d := d + 5) ⟨fun _ => ?_, fun z => absurd (by omega) z⟩
      rw [g3 133 (by decide), h55]
      exact h ν g3 g4 (fun j j0 j1 => g5 j j0 (by omega))
    | succ f ih =>
      intro i ν g1 g2 g3 g4 g5
      refine r_X11_sentence_79 (d := d + 5) ⟨fun z => absurd z (by omega), fun _ => ⟨⟨g2, by omega⟩, ?_⟩⟩
      rw [jm_wr_id (a := 912 + i) (by omega) (by omega), jm_wr_id (a := i + 1) (by omega) (by omega), g3 163 (by decide)]
      refine ⟨⟨by omega, by omega⟩, fun m4 h4 => ih (i + 1) m4 (by omega) (by omega) (fun y hy => by rw [h4, jm_up_ne hy, g3 y hy]) (fun j hj => by rw [h4, jm_up_i (by omega)]; exact g4 j hj) (fun j j0 j1 => ?_)⟩
      rw [h4]
      by_cases q : j = i
      · rw [q, jm_up_at]
      · rw [jm_up_i (by omega)]; exact g5 j j0 (by omega)
  exact key 240 0 ξ (by decide) (by decide) (fun _ _ => rfl) (fun _ _ => rfl) (fun j j0 j1 => by omega)
theorem c_M_sentence (hX : sTx τ n) (ht : mTp μ τ n) (hT : mTt μ T) (h1 : ∀ e, zSn (sTok τ n 200) T = .error e → ∀ ν, (∀ x, x ≠ 133 → x ≠ 163 → ν x = μ x) → (∀ j, j = 1 ∨ 13 < j → j < 54 ∨ 57 < j → ν 133 j = μ 133 j) → ν 133 0 = 0 → ν 133 2 = 0 → ν 133 10 = e.1 → Q (some (jm_I (jm_wr (-1 - e.2)))) ν)
    (h2 : ∀ x, zSn (sTok τ n 200) T = .ok x → ∀ ν : jm_M, (∀ y, y ≠ 133 → y ≠ 135 → y ≠ 163 → ν y = μ y) → (∀ j, j < 910 → ν 135 j = μ 135 j) → ν 135 910 = 1 → ν 135 911 = (x.1.2.2.2 : Int) - 1 → mSn ν x.1 → (∀ j, j = 1 ∨ 13 < j → j < 54 ∨ 57 < j → ν 133 j = μ 133 j) → ν 133 0 = 0 → ν 133 2 = 0 → ν 133 10 = 0 → Q (some (jm_I x.2)) ν) : jc E m_X11_sentence (d + 40) [jm_R 133] μ Q := by
  have hW := hT.2.2.2
  refine e_X11_sentence (d := d + 39) (fun _ => c_M_begin (d := d + 36) hX ht (fun m1 a1 a2 a0 b2 b10 aA _ => ?_))
  have g : ∀ x, x ≠ 133 → jm_up (jm_up (jm_up m1 133 54 0) 133 55 0) 133 56 0 x = μ x := fun x hx => by rw [jm_up_ne hx, jm_up_ne hx, jm_up_ne hx, a1 x hx]
  have s : ∀ j, j < 54 ∨ 57 < j → jm_up (jm_up (jm_up m1 133 54 0) 133 55 0) 133 56 0 133 j = m1 133 j := fun j hj => by rw [jm_up_i (by omega), jm_up_i (by omega), jm_up_i (by omega)]
  have k4 : jm_up (jm_up (jm_up m1 133 54 0) 133 55 0) 133 56 0 133 54 = 0 := by rw [jm_up_i (by decide), jm_up_i (by decide), jm_up_at]
  have k5 : jm_up (jm_up (jm_up m1 133 54 0) 133 55 0) 133 56 0 133 55 = 0 := by rw [jm_up_i (by decide), jm_up_at]
  have k6 : jm_up (jm_up (jm_up m1 133 54 0) 133 55 0) 133 56 0 133 56 = 0 := jm_up_at
  generalize jm_up (jm_up (jm_up m1 133 54 0) 133 55 0) 133 56 0 = m at g s k4 k5 k6 ⊢
  have aM : mAt m τ n 200 0 := aA.of (fun j hj => s j (by omega)) (by rw [g 134 (by decide), a1 134 (by decide)])
  have Tm : mTt m T := hT.of (g 135 (by decide)) (g 139 (by decide))
  have S0 : mNd m zS0 := ⟨k4, k5, fun i hi => absurd hi (Nat.not_lt_zero i)⟩
  have hone : mRc E m_X11_readOne (d + 34 + 3) τ n 200 T 0 (zOn (sTok τ n 200) T 8) := c_M_one hW 8 d (by decide)
  unfold zSn at h1 h2
  refine c_M_readOr (d := d + 34) (zOn_go hW 8) hone 0 zS0 0 m _ aM Tm S0 k6 zSi_0 (fun e he ξ fe => jq_Z (jb_f (by decide) ?_)) (fun x hx ξ po => jq_Z (jb_t (by decide) ?_))
  · rw [fe.2.2.2]
    exact h1 e (zBi_e he) ξ (fun x x1 x2 => by rw [fe.1 x x1 x2, g x x1]) (fun j hj q => by rw [fe.2.1 j (by omega) q, s j q, a2 j (by omega)]) (by rw [fe.2.1 0 (by decide) (by decide), s 0 (by decide), a0]) (by rw [fe.2.1 2 (by decide) (by decide), s 2 (by decide), b2]) fe.2.2.1
  · rw [zBi_o hx] at h1 h2
    obtain ⟨fo, xa, xs, xw, xt⟩ := po
    obtain ⟨y1, y2, y3, y4⟩ := zCn_go (zOn_go (κ := sTok τ n 200) hW 8) 0 _ _ x zSi_0 hx
    have P7 : ∀ j, j = 1 ∨ 13 < j → j < 54 ∨ 57 < j → ξ 133 j = μ 133 j := fun j hj q => by rw [fo.2 j (by omega) (by omega) (by omega) q, s j q, a2 j (by omega)]
    have P0 : ξ 133 0 = 0 := by rw [fo.2 0 (by decide) (by decide) (by decide) (by decide), s 0 (by decide), a0]
    have P2 : ξ 133 2 = 0 := by rw [fo.2 2 (by decide) (by decide) (by decide) (by decide), s 2 (by decide), b2]
    have P10 : ξ 133 10 = 0 := by rw [fo.2 10 (by decide) (by decide) (by decide) (by decide), s 10 (by decide), b10]
    rw [xa.val.1]
    refine ⟨fun e m7 h7 m8 h8 => ?_, fun e => ?_⟩
    · rw [if_pos e] at h2
      rw [show m7 133 57 = x.1.1.2.2.2 - 1 by rw [h7, jm_up_lj (by decide)]; exact xt] at h8
      have f8 : ∀ y, y ≠ 135 → m8 y = ξ y := fun y hy => by rw [h8, jm_up_ne hy, h7, jm_up_ne hy]
      refine g_M_s79 (d := d + 34) (v := x.1.2) (by rw [f8 133 (by decide)]; exact xs.2.1) (fun ν f1 f2 f3 => ?_)
      have fv : ∀ y, y ≠ 135 → ν y = ξ y := fun y hy => by rw [f1 y hy, f8 y hy]
      refine h2 _ rfl ν (fun y y1 y2 y3 => by rw [fv y y2, fo.1 y y1 y3, g y y1]) (fun j hj => by rw [f2 j (by omega), h8, jm_up_i (by omega), h7, jm_up_i (by omega), fo.1 135 (by decide) (by decide), g 135 (by decide)]) ?_ ?_ (fun i hi => ?_) (fun j hj q => by rw [fv 133 (by decide)]; exact P7 j hj q) (by rw [fv 133 (by decide)]; exact P0) (by rw [fv 133 (by decide)]; exact P2) (by rw [fv 133 (by decide)]; exact P10)
      · rw [f2 910 (by decide), h8, jm_up_i (by decide), h7, jm_up_at]
      · rw [f2 911 (by decide), h8, jm_up_at]
      · have b40 := y1.b.2
        have nd := xs.2.2 i hi
        unfold mN1 at nd
        have q0 : ν 135 (912 + 4 * (i : Int)) = ξ 163 (4 * i) := by rw [f3 _ (by omega) (by omega), f8 163 (by decide)]
        have q1 : ν 135 (913 + 4 * (i : Int)) = ξ 163 (4 * i + 1) := by rw [show 913 + 4 * (i : Int) = 912 + (4 * (i : Int) + 1) by omega, f3 _ (by omega) (by omega), f8 163 (by decide)]
        have q2 : ν 135 (914 + 4 * (i : Int)) = ξ 163 (4 * i + 2) := by rw [show 914 + 4 * (i : Int) = 912 + (4 * (i : Int) + 2) by omega, f3 _ (by omega) (by omega), f8 163 (by decide)]
        have q3 : ν 135 (915 + 4 * (i : Int)) = ξ 163 (4 * i + 3) := by rw [show 915 + 4 * (i : Int) = 912 + (4 * (i : Int) + 3) by omega, f3 _ (by omega) (by omega), f8 163 (by decide)]
        rw [q0, q1, q2, q3]
        exact nd
    · rw [if_neg e] at h1
      refine c_M_bad1 xa (fun ζ er => jq_Z ?_)
      rw [er.2.2.2]
      exact h1 (1, _) rfl ζ (fun y y1 y2 => by rw [er.1 y y1, fo.1 y y1 y2, g y y1]) (fun j hj q => by rw [er.2.1 j (by omega) (by omega)]; exact P7 j hj q) (by rw [er.2.1 0 (by decide) (by decide)]; exact P0) (by rw [er.2.1 2 (by decide) (by decide)]; exact P2) er.2.2.1
end MS
