/-! a sentence, in the reference: nodes, names, measures -/
theorem sRu_nm {τ : Int → Int} {n : Int} : ∀ (f : Nat) (p a : Int) (b : Nat) (L V : Int), 0 ≤ V → V < 10 ^ b → ∃ b' : Nat, (sRu τ n f p a b L V).2.2.1 = b' ∧ 0 ≤ (sRu τ n f p a b L V).2.2.2.2 ∧ (sRu τ n f p a b L V).2.2.2.2 < 10 ^ b'
  | 0, p, a, b, L, V, v0, v1 => ⟨b, rfl, v0, v1⟩
  | f + 1, p, a, b, L, V, v0, v1 => by
    unfold sRu
    split
    · split
      · exact sRu_nm f (p + 1) (a + 1) b _ V v0 v1
      · split
        · rename_i hd
          have := sDg_iff.mp hd
          have e : (10 : Int) ^ (b + 1) = 10 ^ b * 10 := Int.pow_succ _ _
          have ih := sRu_nm (τ := τ) (n := n) f (p + 1) a (b + 1) L (V * 10 + (τ p - 48)) (by omega) (by rw [e]; omega)
          rw [show ((b + 1 : Nat) : Int) = (b : Int) + 1 by omega] at ih
          exact ih
        · exact ⟨b, rfl, v0, v1⟩
    · exact ⟨b, rfl, v0, v1⟩
theorem sTok_nm {τ : Int → Int} {n lim p : Int} (h : (sTok τ n lim p).1 = 3) : 0 ≤ (sTok τ n lim p).2.2.2 ∧ (sTok τ n lim p).2.2.2 ≤ 999 := by
  unfold sTok at *
  by_cases c1 : lim < n ∧ lim ≤ sSkp τ n 940 p
  · rw [if_pos c1] at h; exact i_ne (show (1 : Int) = 3 from h) (by decide)
  · rw [if_neg c1] at h ⊢
    by_cases c2 : n ≤ sSkp τ n 940 p
    · rw [if_pos c2] at h; exact i_ne (show (0 : Int) = 3 from h) (by decide)
    · rw [if_neg c2] at h ⊢
      by_cases c3 : (sLt (τ (sSkp τ n 940 p)) || sDg (τ (sSkp τ n 940 p))) = true
      · rw [if_pos c3] at h ⊢
        obtain ⟨b', hb, v0, v1⟩ := sRu_nm (τ := τ) (n := n) 940 (sSkp τ n 940 p) 0 0 0 0 (by decide) (by decide)
        have e0 : ((0 : Nat) : Int) = 0 := rfl
        rw [e0] at hb v0 v1
        unfold sRk at *
        by_cases d1 : (sRu τ n 940 (sSkp τ n 940 p) 0 0 0 0).2.2.1 = 0 ∧ (sRu τ n 940 (sSkp τ n 940 p) 0 0 0 0).2.1 ≤ 7
        · rw [if_pos d1] at h; exact i_ne (show (2 : Int) = 3 from h) (by decide)
        · rw [if_neg d1] at h ⊢
          by_cases d2 : (sRu τ n 940 (sSkp τ n 940 p) 0 0 0 0).2.1 = 0 ∧ (sRu τ n 940 (sSkp τ n 940 p) 0 0 0 0).2.2.1 ≤ 3
          · rw [if_pos d2]
            have b3 : b' ≤ 3 := by omega
            have e : (10 : Int) ^ b' ≤ 1000 := by
              rcases (show b' = 0 ∨ b' = 1 ∨ b' = 2 ∨ b' = 3 by omega) with q | q | q | q <;> rw [q] <;> decide
            exact ⟨v0, show (sRu τ n 940 (sSkp τ n 940 p) 0 0 0 0).2.2.2.2 ≤ 999 by omega⟩
          · rw [if_neg d2] at h; exact i_ne (show (1 : Int) = 3 from h) (by decide)
      · rw [if_neg c3] at h
        by_cases c4 : sSi (τ (sSkp τ n 940 p)) = true
        · rw [if_pos c4] at h; exact i_ne (show (4 : Int) = 3 from h) (by decide)
        · rw [if_neg c4] at h; exact i_ne (show (1 : Int) = 3 from h) (by decide)
/-- frames: the reader, the nodes, what counts them -/
def eFo (μ ν : jm_M) : Prop := (∀ x, x ≠ 133 → x ≠ 163 → ν x = μ x) ∧ ∀ j, j < 5 ∨ 9 < j → j ≠ 12 → j ≠ 13 → j < 54 ∨ 57 < j → ν 133 j = μ 133 j
def eFe (μ ν : jm_M) (e : Int × Int) : Prop := (∀ x, x ≠ 133 → x ≠ 163 → ν x = μ x) ∧ (∀ j, j < 5 ∨ 13 < j → j < 54 ∨ 57 < j → ν 133 j = μ 133 j) ∧ ν 133 10 = e.1 ∧ ν 133 11 = e.2
theorem eFo.rfl {μ : jm_M} : eFo μ μ := ⟨fun _ _ _ => Eq.refl _, fun _ _ _ _ _ => Eq.refl _⟩
theorem eFo.trans {a b c : jm_M} (h1 : eFo a b) (h2 : eFo b c) : eFo a c := ⟨fun x x1 x2 => (h2.1 x x1 x2).trans (h1.1 x x1 x2), fun j a1 a2 a3 a4 => (h2.2 j a1 a2 a3 a4).trans (h1.2 j a1 a2 a3 a4)⟩
theorem eFo.of {a b : jm_M} (h : mKf a b) : eFo a b := ⟨fun x x1 _ => h.1 x x1, fun j a1 a2 _ _ => h.2 j a1 a2⟩
theorem eFo.er {a b c : jm_M} {f pl : Int} (h1 : eFo a b) (h2 : mEr b c f pl) : eFe a c (f, pl) := ⟨fun x x1 x2 => (h2.1 x x1).trans (h1.1 x x1 x2), fun j a1 a2 => (h2.2.1 j (by omega) (by omega)).trans (h1.2 j (by omega) (by omega) (by omega) a2), h2.2.2⟩
theorem eFo.fe {a b c : jm_M} {e : Int × Int} (h1 : eFo a b) (h2 : eFe b c e) : eFe a c e := ⟨fun x x1 x2 => (h2.1 x x1 x2).trans (h1.1 x x1 x2), fun j a1 a2 => (h2.2.1 j a1 a2).trans (h1.2 j (by omega) (by omega) (by omega) a2), h2.2.2⟩
theorem eFo.up {a : jm_M} {j v : Int} (h : 54 ≤ j ∧ j ≤ 57) : eFo a (jm_up a 133 j v) := ⟨fun x x1 _ => jm_up_ne x1, fun i _ _ _ a4 => jm_up_i (by omega)⟩
theorem eFe.up {a b : jm_M} {j v : Int} {e : Int × Int} (he : eFe a b e) (h : 54 ≤ j ∧ j ≤ 57) : eFe a (jm_up b 133 j v) e := ⟨fun x x1 x2 => (jm_up_ne x1).trans (he.1 x x1 x2), fun i a1 a2 => (jm_up_i (by omega)).trans (he.2.1 i a1 a2), (jm_up_i (by omega)).trans he.2.2.1, (jm_up_i (by omega)).trans he.2.2.2⟩
section ME
variable {E : jm_E} {d : Nat} {μ : jm_M} {Q : Option jm_V → jm_M → Prop} {τ : Int → Int} {n lim p : Int} {T : zTs} {S : zSs}
/-- a node: step, sign, value, the roots ahead of it -/
def mN1 (ν : jm_M) (i o sg v : Int) (R : List Nat) : Prop := ν 163 (4 * i) = (if o ≤ 5 then o + 1 else o + 65) ∧ (o = 0 → ν 163 (4 * i + 1) = (R.headD 0 : Nat)) ∧ (o = 1 ∨ o = 2 → ν 163 (4 * i + 1) = (R.tail.headD 0 : Nat) ∧ ν 163 (4 * i + 2) = (R.headD 0 : Nat)) ∧
  (3 ≤ o → o ≤ 5 → ν 163 (4 * i + 1) = v) ∧ (6 ≤ o → ν 163 (4 * i + 2) = v ∧ ν 163 (4 * i + 3) = sg)
def mNd (ν : jm_M) (S : zSs) : Prop := ν 133 54 = S.1.2.2.2 ∧ ν 133 55 = S.2 ∧ ∀ i : Nat, i < S.1.2.2.2 → mN1 ν i (S.1.1 i) (S.1.2.1 i) (S.1.2.2.1 i) (sRt S.1.1 i)
theorem mNd.of {ν ξ : jm_M} (h : mNd ν S) (h1 : ξ 163 = ν 163) (h2 : ξ 133 54 = ν 133 54) (h3 : ξ 133 55 = ν 133 55) : mNd ξ S := by unfold mNd mN1; rw [h1, h2, h3]; exact h
theorem mNd.kf {ν ξ : jm_M} (h : mNd ν S) (k : mKf ν ξ) : mNd ξ S := h.of (k.1 163 (by decide)) (k.2 54 (by decide) (by decide)) (k.2 55 (by decide) (by decide))
theorem mAt.ef {ν ξ : jm_M} {j v : Int} (h : mAt ν τ n lim p) (h1 : ξ = jm_up ν 133 j v) (hj : 54 ≤ j ∧ j ≤ 57) : mAt ξ τ n lim p := by subst h1; exact h.of (fun i hi => jm_up_i (by omega)) (jm_up_ne (by decide))
theorem mTt.e {ν ξ : jm_M} (h : mTt ν T) (f : eFo ν ξ) : mTt ξ T := h.of (f.1 135 (by decide) (by decide)) (f.1 139 (by decide) (by decide))
theorem c_M_lays {ν : jm_M} {a b c s o sg v : Int} (hS : mNd ν S) (hn : S.1.2.2.2 ≤ 40) (ha : a = (if o ≤ 5 then o + 1 else o + 65)) (h0 : o = 0 → b = ((sRt S.1.1 S.1.2.2.2).headD 0 : Nat)) (h1 : o = 1 ∨ o = 2 → b = ((sRt S.1.1 S.1.2.2.2).tail.headD 0 : Nat) ∧ c = ((sRt S.1.1 S.1.2.2.2).headD 0 : Nat)) (h3 : 3 ≤ o → o ≤ 5 → b = v) (h6 : 6 ≤ o → c = v ∧ s = sg)
    (h : ∀ ξ, (∀ x, x ≠ 133 → x ≠ 163 → ξ x = ν x) → (∀ j, j ≠ 54 → ξ 133 j = ν 133 j) → mNd ξ (zPu S o sg v) → Q (some (jm_I S.1.2.2.2)) ξ) : jc E m_X11_lays (d + 1) [jm_R 133, jm_I a, jm_I b, jm_I c, jm_I s] ν Q := by
  refine e_X11_lays (fun _ x1 hx => ?_)
  rw [hS.1, jm_wr_id (by omega) (by omega)] at hx
  subst hx
  rw [jm_wr_id (a := 4 * (S.1.2.2.2 : Int) + 1) (by omega) (by omega), jm_wr_id (a := 4 * (S.1.2.2.2 : Int) + 2) (by omega) (by omega), jm_wr_id (a := 4 * (S.1.2.2.2 : Int) + 3) (by omega) (by omega)]
  refine ⟨by omega, fun m3 e3 => ⟨by omega, fun m5 e5 => ⟨by omega, fun m7 e7 => ⟨by omega, fun m9 e9 => ?_⟩⟩⟩⟩
  have k54 : m9 133 54 = S.1.2.2.2 := by rw [e9, jm_up_lj (by decide), e7, jm_up_lj (by decide), e5, jm_up_lj (by decide), e3, jm_up_lj (by decide)]; exact hS.1
  rw [k54, jm_wr_id (a := (S.1.2.2.2 : Int) + 1) (by omega) (by omega), jm_wr_id (by omega) (by omega), show (S.1.2.2.2 : Int) + 1 - 1 = S.1.2.2.2 by omega]
  have g0 : jm_up m9 133 54 ((S.1.2.2.2 : Int) + 1) 163 (4 * (S.1.2.2.2 : Int)) = a := by rw [jm_up_lj (by decide), e9, jm_up_i (by omega), e7, jm_up_i (by omega), e5, jm_up_i (by omega), e3, jm_up_at]
  have g1 : jm_up m9 133 54 ((S.1.2.2.2 : Int) + 1) 163 (4 * (S.1.2.2.2 : Int) + 1) = b := by rw [jm_up_lj (by decide), e9, jm_up_i (by omega), e7, jm_up_i (by omega), e5, jm_up_at]
  have g2 : jm_up m9 133 54 ((S.1.2.2.2 : Int) + 1) 163 (4 * (S.1.2.2.2 : Int) + 2) = c := by rw [jm_up_lj (by decide), e9, jm_up_i (by omega), e7, jm_up_at]
  have g3 : jm_up m9 133 54 ((S.1.2.2.2 : Int) + 1) 163 (4 * (S.1.2.2.2 : Int) + 3) = s := by rw [jm_up_lj (by decide), e9, jm_up_at]
  have go : ∀ j, j < 4 * (S.1.2.2.2 : Int) → jm_up m9 133 54 ((S.1.2.2.2 : Int) + 1) 163 j = ν 163 j := fun j hj => by rw [jm_up_lj (by decide), e9, jm_up_i (by omega), e7, jm_up_i (by omega), e5, jm_up_i (by omega), e3, jm_up_i (by omega)]
  refine h _ (fun x x1 x2 => by rw [jm_up_ne x1, e9, jm_up_ne x2, e7, jm_up_ne x2, e5, jm_up_ne x2, e3, jm_up_ne x2]) (fun j hj => by rw [jm_up_i hj, e9, jm_up_lj (by decide), e7, jm_up_lj (by decide), e5, jm_up_lj (by decide), e3, jm_up_lj (by decide)]) ⟨by rw [jm_up_at]; rfl, ?_, fun i hi => ?_⟩
  · rw [jm_up_i (by decide), e9, jm_up_lj (by decide), e7, jm_up_lj (by decide), e5, jm_up_lj (by decide), e3, jm_up_lj (by decide)]; exact hS.2.1
  · have hi' : i < S.1.2.2.2 + 1 := hi
    have ex : ∀ i : Nat, i ≤ S.1.2.2.2 → sRt (sUp S.1.1 S.1.2.2.2 o) i = sRt S.1.1 i := fun i hi => sRt_ext i (fun j hj => sUp_ne (by omega))
    show mN1 _ i (sUp S.1.1 S.1.2.2.2 o i) (sUp S.1.2.1 S.1.2.2.2 sg i) (sUp S.1.2.2.1 S.1.2.2.2 v i) (sRt (sUp S.1.1 S.1.2.2.2 o) i)
    rw [ex i (by omega)]
    by_cases q : i = S.1.2.2.2
    · rw [q, sUp_at, sUp_at, sUp_at]
      unfold mN1
      rw [g0, g1, g2, g3]
      exact ⟨ha, h0, h1, h3, h6⟩
    · rw [sUp_ne (show (i : Int) ≠ S.1.2.2.2 by omega), sUp_ne (show (i : Int) ≠ S.1.2.2.2 by omega), sUp_ne (show (i : Int) ≠ S.1.2.2.2 by omega)]
      unfold mN1
      rw [go _ (by omega), go _ (by omega), go _ (by omega), go _ (by omega)]
      exact hS.2.2 i (by omega)
theorem mAt.l {ν ξ : jm_M} (h : mAt ν τ n lim p) (h1 : ∀ x, x ≠ 133 → x ≠ 163 → ξ x = ν x) (h2 : ∀ j, j ≠ 54 → ξ 133 j = ν 133 j) : mAt ξ τ n lim p := h.of (fun j hj => h2 j (by omega)) (h1 134 (by decide) (by decide))
theorem eFo_l {ν ξ : jm_M} (h1 : ∀ x, x ≠ 133 → x ≠ 163 → ξ x = ν x) (h2 : ∀ j, j ≠ 54 → ξ 133 j = ν 133 j) : eFo ν ξ := ⟨h1, fun j _ _ _ a4 => h2 j (by omega)⟩
/-- what is behind a ONE's reading: the words of its step, its root, the depth that is left -/
def mPo (ν ξ : jm_M) (τ : Int → Int) (n lim : Int) (x : zSs × Int) (w : Int) : Prop := eFo ν ξ ∧ mAt ξ τ n lim x.2 ∧ mNd ξ x.1 ∧ ξ 133 56 = w ∧ ξ 133 57 = x.1.1.2.2.2 - 1
theorem c_M_sNamed {ν : jm_M} {st w : Int} (s3 : 3 ≤ st) (s5 : st ≤ 5) (h0 : mAt ν τ n lim p) (hT : mTt ν T) (hS : mNd ν S) (hn : S.1.2.2.2 ≤ 40) (hw : ν 133 56 = w) (h1 : ∀ e, zAt (sTok τ n lim) T S p st = .error e → ∀ ξ, eFe ν ξ e → Q (some (jm_I 0)) ξ) (h2 : ∀ x, zAt (sTok τ n lim) T S p st = .ok x → ∀ ξ, mPo ν ξ τ n lim x w → Q (some (jm_I 1)) ξ) {k : Int} (hk : k = st + 15) : jc E m_X11_readNamed (d + 4) [jm_R 133, jm_I k] ν Q := by
  have hW := hT.2.2.2
  have w0 := hW.1
  have w1 := hW.2.1
  have w2 := hW.2.2.1
  have w3 := hW.2.2.2.1
  have e0 : ν 135 0 = T.1 0 := hT.1 0 (by decide) (by decide)
  have e1 : ν 135 1 = T.1 1 := hT.1 1 (by decide) (by decide)
  unfold zAt at h1 h2
  rw [if_pos s5] at h1 h2
  -- behind the name
  have go : ∀ a c : Int, (sTok τ n lim p).1 = 2 → c = st + 1 → (∀ ξ, mPo ν ξ τ n lim (zPu S st 0 a, sNx1 τ n lim p) w → Q (some (jm_I 1)) ξ) → jc E m_X11_lays (d + 3) [jm_R 133, jm_I c, jm_I a, jm_I 0, jm_I 0] ν (fun o m => ∀ r : Int, o = some (jm_I r) → jc E m_X11_go (d + 3) [jm_R 133] (jm_up m 133 57 r) (fun o m2 => o = none → Q (some (jm_I 1)) m2)) := by
    intro a c s hc hh
    refine c_M_lays (o := st) (sg := 0) (v := a) hS hn (by rw [if_pos s5]; exact hc) (fun z => by omega) (fun z => by omega) (fun _ _ => rfl) (fun z => by omega) (fun ξ f1 f2 k => jq_I ?_)
    have aX : mAt (jm_up ξ 133 57 S.1.2.2.2) τ n lim p := (h0.l f1 f2).ef rfl (by decide)
    refine c_M_adv aX (by omega) (fun m2 b1 b2 _ => hh m2 ⟨((eFo_l f1 f2).trans (eFo.up (by decide))).trans (eFo.of b1), b2, (k.of (jm_up_ne (by decide)) (jm_up_i (by decide)) (jm_up_i (by decide))).kf b1, ?_, ?_⟩)
    · rw [b1.2 56 (by decide) (by decide), jm_up_i (by decide), f2 56 (by decide)]; exact hw
    · rw [b1.2 57 (by decide) (by decide), jm_up_at]
      show (S.1.2.2.2 : Int) = ((S.1.2.2.2 + 1 : Nat) : Int) - 1
      omega
  refine e_X11_readNamed (d := d + 3) (fun _ => c_M_isName h0 (fun s t => jq_Z (jb_t (by decide) ?_)) (fun z => jq_Z (jb_f (by decide) (c_M_bad1 h0 (fun ξ er => jq_Z (h1 (1, _) ?_ ξ (eFo.rfl.er er)))))))
  · have nm : ¬ ¬ zIs (sTok τ n lim) p 0 := Decidable.not_not.mpr ⟨s, t⟩
    refine ⟨fun z5 => ?_, fun z5 => ?_⟩
    · rw [if_neg (show ¬ st = 5 by omega)] at h1 h2
      rw [e0]
      refine c_M_findIn (by decide) w0 (by omega) (fun j j0 j1 => ixl_139 j0 j1) (sTok_nv s) hT.2.1 (h0.val.2.2 s) (jq_I ⟨fun y => ?_, fun y => c_M_bad2 h0 (by omega) (fun ξ er => jq_Z (h1 (3, _) (zBi_e (by unfold zNH; rw [if_neg nm, if_pos (Decidable.not_not.mp y)]; rfl)) ξ (eFo.rfl.er er)))⟩)
      have ha : zNH (sTok τ n lim) T.2.1 (T.1 0) p = .ok (zFd T.2.1 (sTok τ n lim p).2.2.2 (T.1 0).toNat 0) := by unfold zNH; rw [if_neg nm, if_neg y]
      refine ⟨fun z18 => ⟨fun z19 => absurd z19 (by omega), fun z19 => ?_⟩, fun z18 => ?_⟩
      · exact go _ 5 s (by omega) (fun ξ po => h2 _ (zBi_o ha) ξ po)
      · exact go _ 4 s (by omega) (fun ξ po => h2 _ (zBi_o ha) ξ po)
    · rw [if_pos (show st = 5 by omega)] at h1 h2
      rw [e1]
      refine c_M_findIn (by decide) w2 (by omega) (fun j j0 j1 => ixl_139 j0 j1) (sTok_nv s) hT.2.2.1 (h0.val.2.2 s) (jq_I ⟨fun y => ?_, fun y => c_M_bad2 h0 (by omega) (fun ξ er => jq_Z (h1 (3, _) (zBi_e (by unfold zNH; rw [if_neg nm, if_pos (Decidable.not_not.mp y)]; rfl)) ξ (eFo.rfl.er er)))⟩)
      have ha : zNH (sTok τ n lim) T.2.2 (T.1 1) p = .ok (zFd T.2.2 (sTok τ n lim p).2.2.2 (T.1 1).toNat 0) := by unfold zNH; rw [if_neg nm, if_neg y]
      exact ⟨fun z18 => ⟨fun z19 => go _ 6 s (by omega) (fun ξ po => h2 _ (zBi_o ha) ξ po), fun z19 => absurd z19 (by omega)⟩, fun z18 => absurd z18 (by omega)⟩
  · have nh : ∀ g c, zNH (sTok τ n lim) g c p = .error (1, (sTok τ n lim p).2.1) := fun g c => by unfold zNH; rw [if_pos z]; rfl
    rw [nh, nh, ite_self]
    rfl
theorem c_M_sCompare {ν : jm_M} {st w : Int} (s5 : ¬ st ≤ 5) (s9 : st ≤ 9) (h0 : mAt ν τ n lim p) (hS : mNd ν S) (hn : S.1.2.2.2 ≤ 40) (hw : ν 133 56 = w) (h1 : ∀ e, zAt (sTok τ n lim) T S p st = .error e → ∀ ξ, eFe ν ξ e → Q (some (jm_I 0)) ξ) (h2 : ∀ x, zAt (sTok τ n lim) T S p st = .ok x → ∀ ξ, mPo ν ξ τ n lim x w → Q (some (jm_I 1)) ξ) {k : Int} (hk : k = st + 15) : jc E m_X11_readCompare (d + 4) [jm_R 133, jm_I k] ν Q := by
  unfold zAt at h1 h2
  rw [if_neg s5] at h1 h2
  have go : (zSg (sTok τ n lim) p 60 ∨ zSg (sTok τ n lim) p 61 ∨ zSg (sTok τ n lim) p 62) → jg E m_X11_readCompare (d + 3) 33 [some (jm_R 133), some (jm_I k), none] [] ν Q := by
    intro hq
    rw [if_neg (Decidable.not_not.mpr hq)] at h1 h2
    have s4 : (sTok τ n lim p).1 = 4 := by rcases hq with q | q | q <;> exact q.1
    have e9 : ν 133 9 = (sTok τ n lim p).2.2.2 := h0.2.2.2.2.2.2.2.2.2.1 s4
    refine r_X11_readCompare_33 (d := d + 3) (c_M_adv h0 (by omega) (fun m1 b1 b2 _ => ?_))
    have S1 := hS.kf b1
    rw [e9, jm_wr_id (a := 50 + k) (by omega) (by omega)]
    refine c_M_num b2 (fun e he ξ er => jq_Z (jb_f (by decide) ?_)) (fun s3 _ _ _ m2 c1 c2 c3 => jq_Z (jb_t (by decide) ?_))
    · have n3 : (sTok τ n lim (sNx1 τ n lim p)).1 ≠ 3 := fun q => by
        have v := sTok_nm q
        unfold zNu at he
        rw [if_neg (Decidable.not_not.mpr q), if_pos v] at he
        cases he
      rw [if_pos n3] at h1
      unfold zNu at he
      rw [if_pos n3] at he
      cases he
      exact h1 (1, _) rfl ξ ((eFo.of b1).er er)
    · rw [if_neg (Decidable.not_not.mpr s3)] at h2
      have f2 : eFo m1 m2 := ⟨fun x x1 _ => c1.1 x x1 (fun z => z), fun j a1 a2 a3 _ => c1.2 j a1 a2 a3⟩
      have S2 : mNd m2 S := S1.of (c1.1 163 (by decide) (fun z => z)) (c1.2 54 (by decide) (by decide) (by decide)) (c1.2 55 (by decide) (by decide) (by decide))
      rw [c2]
      refine c_M_lays (o := st) (sg := (sTok τ n lim p).2.2.2) (v := (sTok τ n lim (sNx1 τ n lim p)).2.2.2) S2 hn (by rw [if_neg s5]; omega) (fun z => by omega) (fun z => by omega) (fun _ z => absurd z s5) (fun _ => ⟨rfl, rfl⟩) (fun ξ g1 g2 kk => jq_I ?_)
      refine h2 _ rfl _ ⟨(((eFo.of b1).trans f2).trans (eFo_l g1 g2)).trans (eFo.up (by decide)), (c3.l g1 g2).ef rfl (by decide), kk.of (jm_up_ne (by decide)) (jm_up_i (by decide)) (jm_up_i (by decide)), ?_, ?_⟩
      · rw [jm_up_i (by decide), g2 56 (by decide), c1.2 56 (by decide) (by decide) (by decide), b1.2 56 (by decide) (by decide)]; exact hw
      · rw [jm_up_at]
        show (S.1.2.2.2 : Int) = ((S.1.2.2.2 + 1 : Nat) : Int) - 1
        omega
  refine e_X11_readCompare (d := d + 3) (fun _ => c_M_isSign h0 (fun a b => jq_Z (jb_t (by decide) (go (Or.inl ⟨a, b⟩)))) (fun z1 => jq_Z (jb_f (by decide) ?_)))
  refine c_M_isSign h0 (fun a b => jq_Z (jb_t (by decide) (go (Or.inr (Or.inl ⟨a, b⟩))))) (fun z2 => jq_Z (jb_f (by decide) ?_))
  refine c_M_isSign h0 (fun a b => jq_Z (jb_t (by decide) (go (Or.inr (Or.inr ⟨a, b⟩))))) (fun z3 => jq_Z (jb_f (by decide) ?_))
  rw [if_pos (fun q => q.elim z1 (fun q => q.elim z2 z3))] at h1
  exact c_M_bad1 h0 (fun ξ er => jq_Z (h1 (1, _) rfl ξ (eFo.rfl.er er)))
end ME
