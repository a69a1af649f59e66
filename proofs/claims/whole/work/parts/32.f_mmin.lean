/-! torn minutes, in the reference: a name or any -/
section MM
variable {E : jm_E} {d : Nat} {μ : jm_M} {Q : Option jm_V → jm_M → Prop} {τ : Int → Int} {n lim p : Int} {T : zTs} {M : zMs}
/-- the told table's rules and names -/
def mTt (ν : jm_M) (T : zTs) : Prop := (∀ i, 0 ≤ i → i < 60 → ν 135 i = T.1 i) ∧ (∀ i, 0 ≤ i → i < T.1 0 → sNv (T.2.1 i) ∧ ν 139 (0 + i) = sNa (T.2.1 i)) ∧ (∀ i, 0 ≤ i → i < T.1 1 → sNv (T.2.2 i) ∧ ν 139 (8 + i) = sNa (T.2.2 i)) ∧ sWR T.1
theorem mTt.of {ν : jm_M} (h : mTt μ T) (h1 : ν 135 = μ 135) (h2 : ν 139 = μ 139) : mTt ν T := by unfold mTt; rw [h1, h2]; exact h
/-- what a word of minutes changes: the line, the reader, how many any -/
def mFm (μ ν : jm_M) : Prop := (∀ x, x ≠ 133 → x ≠ 138 → ν x = μ x) ∧ ∀ j, j < 5 ∨ 9 < j → j ≠ 12 → j ≠ 13 → j ≠ 33 → j ≠ 34 → ν 133 j = μ 133 j
def mFn (μ ν : jm_M) (e : Int × Int) : Prop := (∀ x, x ≠ 133 → x ≠ 138 → ν x = μ x) ∧ (∀ j, j < 5 ∨ 13 < j → j ≠ 33 → j ≠ 34 → ν 133 j = μ 133 j) ∧ ν 133 10 = e.1 ∧ ν 133 11 = e.2
theorem mFm.rfl : mFm μ μ := ⟨fun _ _ _ => Eq.refl _, fun _ _ _ _ _ _ => Eq.refl _⟩
theorem mFm.trans {a b c : jm_M} (h1 : mFm a b) (h2 : mFm b c) : mFm a c := ⟨fun x x1 x2 => (h2.1 x x1 x2).trans (h1.1 x x1 x2), fun j a1 a2 a3 a4 a5 => (h2.2 j a1 a2 a3 a4 a5).trans (h1.2 j a1 a2 a3 a4 a5)⟩
theorem mFm.of {a b : jm_M} (h : mKf a b) : mFm a b := ⟨fun x x1 _ => h.1 x x1, fun j a1 a2 _ _ _ => h.2 j a1 a2⟩
theorem mFm.er {a b c : jm_M} {f pl : Int} (h1 : mFm a b) (h2 : mEr b c f pl) : mFn a c (f, pl) := ⟨fun x x1 x2 => (h2.1 x x1).trans (h1.1 x x1 x2), fun j a1 a4 a5 => (h2.2.1 j (by omega) (by omega)).trans (h1.2 j (by omega) (by omega) (by omega) a4 a5), h2.2.2⟩
theorem mFm.fe {a b c : jm_M} {e : Int × Int} (h1 : mFm a b) (h2 : mFn b c e) : mFn a c e := ⟨fun x x1 x2 => (h2.1 x x1 x2).trans (h1.1 x x1 x2), fun j a1 a4 a5 => (h2.2.1 j a1 a4 a5).trans (h1.2 j (by omega) (by omega) (by omega) a4 a5), h2.2.2⟩
theorem c_M_readTorn {a b c tn : Int} {g : Int → Int} (h0 : mAt μ τ n lim p) (a0 : 0 ≤ a) (a1 : a < 800) (b0 : 0 ≤ b) (c0 : 0 ≤ c) (bc : b + c ≤ 18) (t0 : 0 ≤ tn) (t8 : tn ≤ 8) (hg : ∀ i, 0 ≤ i → i < c → sNv (g i) ∧ μ 139 (b + i) = sNa (g i)) (ht : μ 133 34 = tn)
    (h1 : ∀ e, zTn (sTok τ n lim) g c tn p = .error e → ∀ ν, mFn μ ν e → Q (some (jm_I 0)) ν)
    (h2 : ∀ y, zTn (sTok τ n lim) g c tn p = .ok y → (sTok τ n lim p).1 = 2 → ∀ ν, mFm μ ν → ν 133 33 = μ 133 33 → ν 133 34 = y.2 → ν 138 a = y.1 → (∀ i, i ≠ a → ν 138 i = μ 138 i) → mAt ν τ n lim (sNx1 τ n lim p) → Q (some (jm_I 1)) ν) : jc E m_X11_readTorn (d + 4) [jm_R 133, jm_I a, jm_I b, jm_I c] μ Q := by
  refine e_X11_readTorn (d := d + 3) (fun _ => c_M_isW 15 h0 (by decide) (by decide) rfl (fun s t => jq_Z (jb_f (by decide) ?_)) (fun z => jq_Z (jb_t rfl ?_)))
  · rw [ht]
    refine ⟨fun q => ⟨⟨a0, a1⟩, fun m3 h3 => ?_⟩, fun q => ?_⟩
    · rw [jm_wr_id (by omega) (by omega)] at h3
      have f3 : mFm μ m3 := by rw [h3]; exact ⟨fun x x1 x2 => by rw [jm_up_ne x2, jm_up_ne x1], fun j _ _ _ _ j5 => by rw [jm_up_lj (by decide), jm_up_i j5]⟩
      have a3 : mAt m3 τ n lim p := h0.of (fun j hj => by rw [h3, jm_up_lj (by decide), jm_up_i (by omega)]) (by rw [h3, jm_up_ne (by decide), jm_up_ne (by decide)])
      refine c_M_adv a3 (by omega) (fun ν k kA _ => h2 (-1, tn + 1) (by unfold zTn; rw [if_pos ⟨s, t⟩, if_neg q]) s ν (f3.trans (mFm.of k)) ?_ ?_ ?_ (fun i hi => ?_) kA)
      · rw [k.2 33 (by decide) (by decide), h3, jm_up_lj (by decide), jm_up_i (by decide)]
      · rw [k.2 34 (by decide) (by decide), h3, jm_up_lj (by decide), jm_up_at]
      · rw [k.1 138 (by decide), h3, jm_up_at]
      · rw [k.1 138 (by decide), h3, jm_up_i hi, jm_up_lj (by decide)]
    · exact c_M_bad2 h0 (by omega) (fun ν er => jq_Z (h1 (4, _) (by unfold zTn; rw [if_pos ⟨s, t⟩, if_pos (Decidable.not_not.mp q)]; rfl) ν (mFm.rfl.er er)))
  · refine c_M_isName h0 (fun s t => jq_Z (jb_t (by decide) ?_)) (fun z2 => jq_Z (jb_f (by decide) (c_M_bad1 h0 (fun ν er => jq_Z (h1 (1, _) (by unfold zTn; rw [if_neg z]; exact zBi_e (by unfold zNH; rw [if_pos z2]; rfl)) ν (mFm.rfl.er er))))))
    have nm : ¬ ¬ zIs (sTok τ n lim) p 0 := Decidable.not_not.mpr ⟨s, t⟩
    refine c_M_findIn b0 c0 bc (fun j j0 j1 => ixl_139 j0 j1) (sTok_nv s) hg (h0.val.2.2 s) (jq_I ⟨⟨a0, a1⟩, fun m12 h12 => ?_⟩)
    have f3 : mFm μ m12 := by rw [h12]; exact ⟨fun x x1 x2 => by rw [jm_up_ne x2], fun j _ _ _ _ j5 => by rw [jm_up_lj (by decide)]⟩
    have a3 : mAt m12 τ n lim p := h0.of (fun j hj => by rw [h12, jm_up_lj (by decide)]) (by rw [h12, jm_up_ne (by decide)])
    rw [show m12 138 a = zFd g (sTok τ n lim p).2.2.2 c.toNat 0 by rw [h12]; exact jm_up_at]
    refine ⟨fun y => c_M_adv a3 (by omega) (fun ν k kA _ => h2 (_, tn) (by unfold zTn; rw [if_neg z]; exact zBi_o (by unfold zNH; rw [if_neg nm, if_neg y])) s ν (f3.trans (mFm.of k)) ?_ ?_ ?_ (fun i hi => ?_) kA), fun y => ?_⟩
    · rw [k.2 33 (by decide) (by decide), h12, jm_up_lj (by decide)]
    · rw [k.2 34 (by decide) (by decide), h12, jm_up_lj (by decide)]; exact ht
    · rw [k.1 138 (by decide), h12, jm_up_at]
    · rw [k.1 138 (by decide), h12, jm_up_i hi]
    · exact c_M_bad2 a3 (by omega) (fun ν er => jq_Z (h1 (3, _) (by unfold zTn; rw [if_neg z]; exact zBi_e (by unfold zNH; rw [if_neg nm, if_pos (Decidable.not_not.mp y)]; rfl)) ν (f3.er er)))
end MM
