/-! a sentence, in the reference: ONES and what joins them -/
/-- a reading of the reference does what rd tells -/
def mRc (E : jm_E) (Y : jm_Y) (D : Nat) (τ : Int → Int) (n lim : Int) (T : zTs) (w : Int) (rd : zRd) : Prop := ∀ (k : Int) (S : zSs) (p : Int) (ν : jm_M) (Q : Option jm_V → jm_M → Prop), mAt ν τ n lim p → mTt ν T → mNd ν S → ν 133 56 = w → zSi k S → (∀ e, rd S p = .error e → ∀ ξ, eFe ν ξ e → Q (some (jm_I 0)) ξ) → (∀ x, rd S p = .ok x → ∀ ξ, mPo ν ξ τ n lim x w → Q (some (jm_I 1)) ξ) → jc E Y D [jm_R 133] ν Q
def zBr (κ : zKp) (one : zRd) : zRd := fun S p => zBi (zCn κ one S p) fun x => if zSg κ x.2 41 then .ok (x.1, zNx κ x.2) else zE κ x.2 1
theorem mPo.pre {ν ζ ξ : jm_M} {τ : Int → Int} {n lim w : Int} {x : zSs × Int} (f : eFo ν ζ) (h : mPo ζ ξ τ n lim x w) : mPo ν ξ τ n lim x w := ⟨f.trans h.1, h.2⟩
section MO
variable {E : jm_E} {d : Nat} {μ : jm_M} {Q : Option jm_V → jm_M → Prop} {τ : Int → Int} {n lim p w : Int} {T : zTs} {S : zSs} {one : zRd}
/-- two roots are joined -/
theorem c_M_join {ν ζ : jm_M} {a o : Int} {x : zSs × Int} {k : Int} {m : Nat} {RR : List Nat} (ho : o = 1 ∨ o = 2) (ha : a = o + 1) (po : mPo ν ζ τ n lim x w) (hi : zSi k x.1) (hm : 0 < m) (hx : 0 < x.1.1.2.2.2) (hr : sRt x.1.1.1 x.1.1.2.2.2 = (x.1.1.2.2.2 - 1) :: (m - 1) :: RR)
    (h : ∀ ξ, eFo ν ξ → mAt ξ τ n lim x.2 → mNd ξ (zPu x.1 o 0 0) → ξ 133 56 = w → Q (some (jm_I (((zPu x.1 o 0 0).1.2.2.2 : Int) - 1))) ξ) : jc E m_X11_lays (d + 1) [jm_R 133, jm_I a, jm_I ((m : Int) - 1), jm_I (ζ 133 57), jm_I 0] ζ Q := by
  obtain ⟨fo, xa, xs, xw, xt⟩ := po
  rw [xt]
  refine c_M_lays (o := o) (sg := 0) (v := 0) xs hi.b.2 (by rw [if_pos (by omega)]; exact ha) (fun z => by omega) (fun _ => ⟨?_, ?_⟩) (fun z => by omega) (fun z => by omega) (fun ξ g1 g2 kk => ?_)
  · rw [hr]
    show (m : Int) - 1 = ((m - 1 : Nat) : Int)
    omega
  · rw [hr]
    show (x.1.1.2.2.2 : Int) - 1 = ((x.1.1.2.2.2 - 1 : Nat) : Int)
    omega
  · have e : (x.1.1.2.2.2 : Int) = ((zPu x.1 o 0 0).1.2.2.2 : Int) - 1 := by
      show (x.1.1.2.2.2 : Int) = ((x.1.1.2.2.2 + 1 : Nat) : Int) - 1
      omega
    rw [e]
    exact h ξ (fo.trans (eFo_l g1 g2)) (xa.l g1 g2) kk (by rw [g2 56 (by decide)]; exact xw)
theorem g_M_and (hg : zGo one) (ho : mRc E m_X11_readOne (d + 3) τ n lim T w one) : ∀ (f : Nat) (k : Int) (S : zSs) (p : Int) (ν : jm_M) (RR : List Nat), 21 ≤ (f : Int) + S.2 → mAt ν τ n lim p → mTt ν T → mNd ν S → ν 133 56 = w → zSi k S → 0 < S.1.2.2.2 → sRt S.1.1 S.1.2.2.2 = (S.1.2.2.2 - 1) :: RR → (∀ e, zAn (sTok τ n lim) one f S p = .error e → ∀ ξ, eFe ν ξ e → Q (some (jm_I 0)) ξ) → (∀ x, zAn (sTok τ n lim) one f S p = .ok x → ∀ ξ, mPo ν ξ τ n lim x w → Q (some (jm_I 1)) ξ) → jg E m_X11_readAnd (d + 3) 14 [some (jm_R 133), some (jm_I ((S.1.2.2.2 : Int) - 1))] [] ν Q
  | 0, k, S, p, ν, RR, g1, h0, hT, hS, hw, hi, hn, hr, h1, h2 => by
    have := hi.2.1
    omega
  | f + 1, k, S, p, ν, RR, g1, h0, hT, hS, hw, hi, hn, hr, h1, h2 => by
    rw [zAn] at h1 h2
    refine r_X11_readAnd_14 (d := d + 3) (c_M_isW 17 h0 (by decide) (by decide) rfl (fun s t => jq_Z (jb_f (by decide) ?_)) (fun z => jq_Z (jb_t rfl ?_)))
    · rw [if_pos (show zIs (sTok τ n lim) p 17 from ⟨s, t⟩)] at h1 h2
      refine c_M_adv h0 (by omega) (fun m5 b1 b2 _ => ho k S _ m5 _ b2 (hT.e (eFo.of b1)) (hS.kf b1) (by rw [b1.2 56 (by decide) (by decide)]; exact hw) hi (fun e he ξ fe => jq_Z (jb_f (by decide) (h1 e (zBi_e he) ξ ((eFo.of b1).fe fe)))) (fun x hx ξ po => jq_Z (jb_t (by decide) ?_)))
      rw [zBi_o hx] at h1 h2
      obtain ⟨y1, y2, y3, y4⟩ := hg k S _ x hi hx
      rw [hr] at y4
      have b := zPu_b2 (a := 1) y1 (Or.inl rfl) y4
      have e2 : (zPu x.1 1 0 0).2 = x.1.2 := rfl
      refine c_M_join (o := 1) (Or.inl rfl) rfl (po.pre (eFo.of b1)) y1 hn y2 y4 (fun ζ fo a1 s1 w1 => jq_I ?_)
      exact g_M_and hg ho f k _ x.2 ζ RR (by omega) a1 (hT.e fo) s1 w1 b.1 b.2.1 b.2.2 (fun e he ξ fe => h1 e he ξ (fo.fe fe)) (fun y hy ξ po => h2 y hy ξ (po.pre fo))
    · rw [if_neg z] at h2
      exact h2 _ rfl _ ⟨eFo.up (by decide), h0.ef rfl (by decide), hS.of (jm_up_ne (by decide)) (jm_up_i (by decide)) (jm_up_i (by decide)), by rw [jm_up_i (by decide)]; exact hw, jm_up_at⟩
theorem c_M_readAnd (hg : zGo one) (ho : mRc E m_X11_readOne (d + 3) τ n lim T w one) : mRc E m_X11_readAnd (d + 4) τ n lim T w (zAl (sTok τ n lim) one) := by
  intro k S p ν Q h0 hT hS hw hi h1 h2
  unfold zAl at h1 h2
  refine e_X11_readAnd (d := d + 3) (fun _ => ho k S p ν _ h0 hT hS hw hi (fun e he ξ fe => jq_Z (jb_f (by decide) (h1 e (zBi_e he) ξ fe))) (fun x hx ξ po => jq_Z (jb_t (by decide) ?_)))
  rw [zBi_o hx] at h1 h2
  obtain ⟨y1, y2, y3, y4⟩ := hg k S p x hi hx
  have bb := hi.b.1
  have k0 := hi.1
  rw [po.2.2.2.2]
  exact g_M_and hg ho 20 k x.1 x.2 ξ _ (by omega) po.2.1 (hT.e po.1) po.2.2.1 po.2.2.2.1 y1 y2 y4 (fun e he ζ fe => h1 e he ζ (po.1.fe fe)) (fun y hy ζ p2 => h2 y hy ζ (p2.pre po.1))
theorem g_M_or (hg : zGo one) (ho : mRc E m_X11_readAnd (d + 4) τ n lim T w (zAl (sTok τ n lim) one)) : ∀ (f : Nat) (k : Int) (S : zSs) (p : Int) (ν : jm_M) (RR : List Nat), 21 ≤ (f : Int) + S.2 → mAt ν τ n lim p → mTt ν T → mNd ν S → ν 133 56 = w → zSi k S → 0 < S.1.2.2.2 → sRt S.1.1 S.1.2.2.2 = (S.1.2.2.2 - 1) :: RR → (∀ e, zOr (sTok τ n lim) one f S p = .error e → ∀ ξ, eFe ν ξ e → Q (some (jm_I 0)) ξ) → (∀ x, zOr (sTok τ n lim) one f S p = .ok x → ∀ ξ, mPo ν ξ τ n lim x w → Q (some (jm_I 1)) ξ) → jg E m_X11_readOr (d + 4) 14 [some (jm_R 133), some (jm_I ((S.1.2.2.2 : Int) - 1))] [] ν Q
  | 0, k, S, p, ν, RR, g1, h0, hT, hS, hw, hi, hn, hr, h1, h2 => by
    have := hi.2.1
    omega
  | f + 1, k, S, p, ν, RR, g1, h0, hT, hS, hw, hi, hn, hr, h1, h2 => by
    rw [zOr] at h1 h2
    refine r_X11_readOr_14 (d := d + 4) (c_M_isW 16 h0 (by decide) (by decide) rfl (fun s t => jq_Z (jb_f (by decide) ?_)) (fun z => jq_Z (jb_t rfl ?_)))
    · rw [if_pos (show zIs (sTok τ n lim) p 16 from ⟨s, t⟩)] at h1 h2
      refine c_M_adv h0 (by omega) (fun m5 b1 b2 _ => ho k S _ m5 _ b2 (hT.e (eFo.of b1)) (hS.kf b1) (by rw [b1.2 56 (by decide) (by decide)]; exact hw) hi (fun e he ξ fe => jq_Z (jb_f (by decide) (h1 e (zBi_e he) ξ ((eFo.of b1).fe fe)))) (fun x hx ξ po => jq_Z (jb_t (by decide) ?_)))
      rw [zBi_o hx] at h1 h2
      obtain ⟨y1, y2, y3, y4⟩ := zAl_go hg k S _ x hi hx
      rw [hr] at y4
      have b := zPu_b2 (a := 2) y1 (Or.inr rfl) y4
      have e2 : (zPu x.1 2 0 0).2 = x.1.2 := rfl
      refine c_M_join (o := 2) (Or.inr rfl) rfl (po.pre (eFo.of b1)) y1 hn y2 y4 (fun ζ fo a1 s1 w1 => jq_I ?_)
      exact g_M_or hg ho f k _ x.2 ζ RR (by omega) a1 (hT.e fo) s1 w1 b.1 b.2.1 b.2.2 (fun e he ξ fe => h1 e he ξ (fo.fe fe)) (fun y hy ξ po => h2 y hy ξ (po.pre fo))
    · rw [if_neg z] at h2
      exact h2 _ rfl _ ⟨eFo.up (by decide), h0.ef rfl (by decide), hS.of (jm_up_ne (by decide)) (jm_up_i (by decide)) (jm_up_i (by decide)), by rw [jm_up_i (by decide)]; exact hw, jm_up_at⟩
theorem c_M_readOr (hg : zGo one) (ho : mRc E m_X11_readOne (d + 3) τ n lim T w one) : mRc E m_X11_readOr (d + 5) τ n lim T w (zCn (sTok τ n lim) one) := by
  intro k S p ν Q h0 hT hS hw hi h1 h2
  have ha := c_M_readAnd hg ho
  unfold zCn at h1 h2
  refine e_X11_readOr (d := d + 4) (fun _ => ha k S p ν _ h0 hT hS hw hi (fun e he ξ fe => jq_Z (jb_f (by decide) (h1 e (zBi_e he) ξ fe))) (fun x hx ξ po => jq_Z (jb_t (by decide) ?_)))
  rw [zBi_o hx] at h1 h2
  obtain ⟨y1, y2, y3, y4⟩ := zAl_go hg k S p x hi hx
  have bb := hi.b.1
  have k0 := hi.1
  rw [po.2.2.2.2]
  exact g_M_or hg ha 20 k x.1 x.2 ξ _ (by omega) po.2.1 (hT.e po.1) po.2.2.1 po.2.2.2.1 y1 y2 y4 (fun e he ζ fe => h1 e he ζ (po.1.fe fe)) (fun y hy ζ p2 => h2 y hy ζ (p2.pre po.1))
theorem c_M_readBracket (hg : zGo one) (ho : mRc E m_X11_readOne (d + 3) τ n lim T w one) : mRc E m_X11_readBracket (d + 6) τ n lim T w (zBr (sTok τ n lim) one) := by
  intro k S p ν Q h0 hT hS hw hi h1 h2
  unfold zBr at h1 h2
  refine e_X11_readBracket (d := d + 5) (fun _ => c_M_readOr hg ho k S p ν _ h0 hT hS hw hi (fun e he ξ fe => jq_Z (jb_f (by decide) (h1 e (zBi_e he) ξ fe))) (fun x hx ξ po => jq_Z (jb_t (by decide) ?_)))
  rw [zBi_o hx] at h1 h2
  obtain ⟨fo, xa, xs, xw, xt⟩ := po
  refine c_M_isSign xa (fun s4 v4 => jq_Z (jb_t (by decide) ?_)) (fun y => jq_Z (jb_f (by decide) ?_))
  · rw [if_pos (show zSg (sTok τ n lim) x.2 41 from ⟨s4, v4⟩)] at h2
    refine c_M_adv xa (by omega) (fun m9 b1 b2 _ => h2 _ rfl m9 ⟨fo.trans (eFo.of b1), b2, xs.kf b1, by rw [b1.2 56 (by decide) (by decide)]; exact xw, by rw [b1.2 57 (by decide) (by decide)]; exact xt⟩)
  · rw [if_neg y] at h1
    exact c_M_bad1 xa (fun ζ er => jq_Z (h1 (1, _) rfl ζ (fo.er er)))
theorem c_M_readNot {k : Int} {ν : jm_M} (hg : zGo one) (ho : mRc E m_X11_readOne (d + 3) τ n lim T w one) (h0 : mAt ν τ n lim p) (hT : mTt ν T) (hS : mNd ν S) (hw : ν 133 56 = w) (hi : zSi k S) (h1 : ∀ e, one S p = .error e → ∀ ξ, eFe ν ξ e → Q (some (jm_I 0)) ξ) (h2 : ∀ x, one S p = .ok x → ∀ ξ, mPo ν ξ τ n lim (zPu x.1 0 0 0, x.2) w → Q (some (jm_I 1)) ξ) : jc E m_X11_readNot (d + 4) [jm_R 133] ν Q := by
  refine e_X11_readNot (d := d + 3) (fun _ => ho k S p ν _ h0 hT hS hw hi (fun e he ξ fe => jq_Z (jb_f (by decide) (h1 e he ξ fe))) (fun x hx ξ po => jq_Z (jb_t (by decide) ?_)))
  obtain ⟨y1, y2, y3, y4⟩ := hg k S p x hi hx
  obtain ⟨fo, xa, xs, xw, xt⟩ := po
  rw [xt]
  refine c_M_lays (o := 0) (sg := 0) (v := 0) xs y1.b.2 (by decide) (fun _ => ?_) (fun z => by omega) (fun z => by omega) (fun z => by omega) (fun ζ g1 g2 kk => jq_I ?_)
  · rw [y4]
    show (x.1.1.2.2.2 : Int) - 1 = ((x.1.1.2.2.2 - 1 : Nat) : Int)
    omega
  · refine h2 x hx _ ⟨(fo.trans (eFo_l g1 g2)).trans (eFo.up (by decide)), (xa.l g1 g2).ef rfl (by decide), kk.of (jm_up_ne (by decide)) (jm_up_i (by decide)) (jm_up_i (by decide)), by rw [jm_up_i (by decide), g2 56 (by decide)]; exact xw, ?_⟩
    rw [jm_up_at]
    show (x.1.1.2.2.2 : Int) = ((x.1.1.2.2.2 + 1 : Nat) : Int) - 1
    omega
/-- which of the own words stands here -/
theorem g_M_10 {ν : jm_M} {v1 : Int} (h0 : mAt ν τ n lim p) (h46 : ∀ v2 : Int, (v1 = 0 → zSt (sTok τ n lim) p ≠ -1 ∧ 17 ≤ v2 ∧ v2 ≤ 24 ∧ (zSt (sTok τ n lim) p = 0 ↔ v2 = 17) ∧ (zSt (sTok τ n lim) p ≠ 0 → v2 = zSt (sTok τ n lim) p + 15)) → jg E m_X11_readOne (d + 3) 46 [some (jm_R 133), some (jm_I v1), some (jm_I v2), none] [] ν Q) (hb : v1 = 0 → zSt (sTok τ n lim) p = -1 → ∀ ξ, mEr ν ξ 1 (sTok τ n lim p).2.1 → Q (some (jm_I 0)) ξ) : jg E m_X11_readOne (d + 3) 10 [some (jm_R 133), some (jm_I v1), some (jm_I 17), none] [] ν Q := by
  have ti := sTm_in (v := (sTok τ n lim p).2.2.2)
  have key : ∀ (m : Nat) (i : Int), i + m = 25 → 17 ≤ i → (∀ j, 18 ≤ j → j ≤ i → ¬ zIs (sTok τ n lim) p j) → jg E m_X11_readOne (d + 3) 10 [some (jm_R 133), some (jm_I v1), some (jm_I i), none] [] ν Q := by
    intro m
    induction m with
    | zero =>
      intro i g1 g2 g3
      refine r_X11_readOne_10 (d := d + 3) ⟨fun _ => ⟨fun z => h46 i (fun y => absurd y z), fun z => ⟨fun z2 => absurd z2 (by omega), fun _ => c_M_bad1 h0 (fun ξ er => jq_Z (hb (Decidable.not_not.mp z) ?_ ξ er))⟩⟩, fun z => absurd (by omega) z⟩
      unfold zSt
      rw [if_neg (fun q => g3 (sTm (sTok τ n lim p).2.2.2) q.2 (by omega) ⟨q.1, rfl⟩)]
    | succ m ih =>
      intro i g1 g2 g3
      refine r_X11_readOne_10 (d := d + 3) ⟨fun z => absurd z (by omega), fun _ => ?_⟩
      rw [jm_wr_id (a := i + 1) (by omega) (by omega)]
      refine c_M_isW (i + 1) h0 (by omega) (by omega) rfl (fun s t => jq_Z (jb_t (by decide) ?_)) (fun z => jq_Z (jb_f (by decide) (ih (i + 1) (by omega) (by omega) (fun j j0 j1 => ?_))))
      · have e : zSt (sTok τ n lim) p = if i = 17 then 0 else i - 15 := by
          unfold zSt
          rw [if_pos ⟨s, by omega⟩, t]
          by_cases q : i = 17
          · rw [if_pos (by omega), if_pos q]
          · rw [if_neg (by omega), if_neg q]; omega
        have hv : zSt (sTok τ n lim) p ≠ -1 ∧ 17 ≤ i ∧ i ≤ 24 ∧ (zSt (sTok τ n lim) p = 0 ↔ i = 17) ∧ (zSt (sTok τ n lim) p ≠ 0 → i = zSt (sTok τ n lim) p + 15) := by
          rw [e]
          by_cases q : i = 17
          · rw [if_pos q]; exact ⟨by decide, by omega, by omega, ⟨fun _ => q, fun _ => rfl⟩, fun z => absurd rfl z⟩
          · rw [if_neg q]; exact ⟨by omega, by omega, by omega, ⟨fun z => by omega, fun z => absurd z q⟩, fun _ => by omega⟩
        exact ⟨fun z => h46 i (fun y => absurd y z), fun z => ⟨fun _ => h46 i (fun _ => hv), fun z2 => absurd (by omega) z2⟩⟩
      · by_cases q : j = i + 1
        · rw [q]; exact z
        · exact g3 j j0 (by omega)
  exact key 8 17 (by decide) (by decide) (fun j j0 j1 => by omega)
end MO
