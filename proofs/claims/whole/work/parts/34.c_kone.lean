/-! a sentence, in the class: ONES and what joins them -/
/-- what is still to be read behind a ONE; w: an 'or' waits -/
def zRe (κ : zKp) (one : zRd) (w : Int) (f g : Nat) (S : zSs) (p : Int) : zRs (zSs × Int) := zBi (zAn κ one f S p) fun x => zOr κ one g (if w = 0 then x.1 else zPu x.1 2 0 0) x.2
theorem zRe_and {κ : zKp} {one : zRd} {w : Int} {f g : Nat} {S : zSs} {p : Int} (h : zIs κ p 17) : zRe κ one w (f + 1) g S p = zBi (one S (zNx κ p)) fun y => zRe κ one w f g (zPu y.1 1 0 0) y.2 := by
  unfold zRe
  rw [zAn, if_pos h]
  cases one S (zNx κ p) <;> rfl
theorem zRe_or {κ : zKp} {one : zRd} {w : Int} {f g : Nat} {S : zSs} {p : Int} (h17 : ¬ zIs κ p 17) (h : zIs κ p 16) : zRe κ one w (f + 1) (g + 1) S p = zBi (one (if w = 0 then S else zPu S 2 0 0) (zNx κ p)) fun y => zRe κ one 1 20 g y.1 y.2 := by
  unfold zRe
  rw [zAn, if_neg h17]
  show zOr κ one (g + 1) (if w = 0 then S else zPu S 2 0 0) p = _
  rw [zOr, if_pos h, zAl]
  cases one (if w = 0 then S else zPu S 2 0 0) (zNx κ p) with
  | error e => rfl
  | ok y =>
    show zBi (zAn κ one 20 y.1 y.2) _ = zBi (zAn κ one 20 y.1 y.2) _
    cases zAn κ one 20 y.1 y.2 with
    | error e => rfl
    | ok x => rfl
theorem zRe_no {κ : zKp} {one : zRd} {w : Int} {f g : Nat} {S : zSs} {p : Int} (h17 : ¬ zIs κ p 17) (h : ¬ zIs κ p 16) : zRe κ one w (f + 1) (g + 1) S p = .ok (if w = 0 then S else zPu S 2 0 0, p) := by
  unfold zRe
  rw [zAn, if_neg h17]
  show zOr κ one (g + 1) (if w = 0 then S else zPu S 2 0 0) p = _
  rw [zOr, if_neg h]
theorem zCn_re {κ : zKp} {one : zRd} {S : zSs} {p : Int} : zCn κ one S p = zBi (one S p) fun y => zRe κ one 0 20 20 y.1 y.2 := by
  unfold zCn zAl
  cases one S p with
  | error e => rfl
  | ok y =>
    show zBi (zAn κ one 20 y.1 y.2) _ = zBi (zAn κ one 20 y.1 y.2) _
    cases zAn κ one 20 y.1 y.2 with
    | error e => rfl
    | ok x => rfl
theorem tTb_U {ν ξ : jm_M} {ρ : sR} {nw nk : Int → Int} (f : kFo kU ν ξ) (h : tTb ν 3 ρ nw nk) : tTb ξ 3 ρ nw nk := tTb_of (fun q q0 q1 => f.1 q (by omega) (fun z => by have : 79 ≤ q ∧ q ≤ 82 := z; omega)) h
theorem kFe.U {ν ξ ζ : jm_M} {e : Int × Int} (h : kFe kU ν ξ e) (f : ∀ x, x < 79 ∨ 82 < x → ζ x = ξ x) : kFe kU ν ζ e := ⟨fun x x1 hw => by rw [f x (by have : ¬ (79 ≤ x ∧ x ≤ 82) := hw; omega)]; exact h.1 x x1 hw, fun j hj => by rw [f 1 (by decide)]; exact h.2.1 j hj, by rw [f 1 (by decide)]; exact h.2.2.1, by rw [f 1 (by decide)]; exact h.2.2.2⟩
def kOn (E : jm_E) (D : Nat) (τ : Int → Int) (n lim : Int) (T : zTs) (r : Nat) : Prop := ∀ (k : Int) (S : zSs) (p : Int) (ν : jm_M) (Q : Option jm_V → jm_M → Prop), kAt ν τ n lim p → tTb ν 3 T.1 T.2.1 T.2.2 → kSs ν S → zSi k S → (∀ e, zOn (sTok τ n lim) T r S p = .error e → ∀ ξ, kFe kU ν ξ e → 0 ≤ ξ 79 1 → Q (some (jm_I 0)) ξ) → (∀ x, zOn (sTok τ n lim) T r S p = .ok x → ∀ ξ, kFo kU ν ξ → kAt ξ τ n lim x.2 → kSs ξ x.1 → Q (some (jm_I 1)) ξ) → jc E m_X4_readOne D [jm_R 79, jm_R 1, jm_R 3, jm_I (9 - r)] ν Q
section KR
variable {E : jm_E} {d : Nat} {μ : jm_M} {Q : Option jm_V → jm_M → Prop} {τ : Int → Int} {n lim p : Int} {T : zTs} {S : zSs}
theorem g_K_nx {j w i k : Int} {r : Nat} {ν : jm_M} (ho : kOn E (d + 6) τ n lim T r) (hW : sWR T.1) (hj : j = 0 ∨ j = 1) (h0 : kAt ν τ n lim p) (hs : 2 ≤ (sTok τ n lim p).1) (hT : tTb ν 3 T.1 T.2.1 T.2.2) (hS : kSs ν S) (hi : zSi k S)
    (h1 : ∀ e, zOn (sTok τ n lim) T r S (sNx1 τ n lim p) = .error e → ∀ ξ, kFe kU ν ξ e → 0 ≤ ξ 79 1 → Q (some (jm_I 0)) ξ)
    (h2 : ∀ x, zOn (sTok τ n lim) T r S (sNx1 τ n lim p) = .ok x → ∀ ξ, kFo kU ν ξ → kAt ξ τ n lim x.2 → kSs ξ (if j = 0 then x.1 else zPu x.1 1 0 0) → jg E m_X4_readCond (d + 6) 18 [some (jm_R 79), some (jm_R 1), some (jm_R 3), some (jm_I (9 - r)), some (jm_I w), some (jm_I (jm_wr (i + 1))), none] [] ξ Q) :
    jc E m_X7_advance (d + 6) [jm_R 1] ν (fun (o : Option jm_V) (m1 : jm_M) => o = none →
    (jm_is jm_N 79 1 4) ∧
    jc E m_X4_readOne (d + 6) [jm_R 79, jm_R 1, jm_R 3, jm_I (9 - r)] m1 (fun (o : Option jm_V) (m2 : jm_M) => ∀ r4 : Int, o = some (jm_I r4) → (r4 = 0 ∨ r4 = 1) →
    ((r4 ≠ 0 →
      ((j = 0 →
        jg E m_X4_readCond (d + 6) 18 [some (jm_R 79), some (jm_R 1), some (jm_R 3), some (jm_I (9 - r)), some (jm_I w), some (jm_I (jm_wr (i + 1))), none] [] m2 Q) ∧
       (¬ (j = 0) →
        jc E m_X4_put (d + 6) [jm_R 79, jm_I 1, jm_I 0, jm_I 0] m2 (fun (o : Option jm_V) (m8 : jm_M) => o = none →
        jg E m_X4_readCond (d + 6) 18 [some (jm_R 79), some (jm_R 1), some (jm_R 3), some (jm_I (9 - r)), some (jm_I w), some (jm_I (jm_wr (i + 1))), none] [] m8 Q)))) ∧
     (¬ (r4 ≠ 0) →
      Q (some (jm_I 0)) m2)))) := by
  refine c_K_adv h0 hs (fun m1 b1 b2 _ => ⟨is_79, ?_⟩)
  have S1 : kSs m1 S := hS.of (fun x x0 x1 => b1.1 x (by omega))
  refine ho k S _ m1 _ b2 (tTb_U (kFo.of b1) hT) S1 hi (fun e he ξ fe l => jq_Z (jb_f (by decide) (h1 e he ξ ((kFo.of b1).fe fe) l))) (fun x hx ξ fo xa xs => jq_Z (jb_t (by decide) ?_))
  have xg := zOn_go hW r k _ _ x hi hx
  refine ⟨fun z => h2 x hx ξ ((kFo.of b1).trans fo) xa (by rw [if_pos z]; exact xs), fun z => c_K_sput xs xg.1.b.2 (fun ζ f kk _ => ?_)⟩
  exact h2 x hx ζ (((kFo.of b1).trans fo).trans (kFo_U f)) (xa.kf (f 1 (by decide)) (f 2 (by decide))) (by rw [if_neg z]; exact kk)
theorem g_K_18 {r : Nat} (ho : kOn E (d + 6) τ n lim T r) (hW : sWR T.1) : ∀ (m : Nat) (i w k : Int) (f g : Nat) (S : zSs) (p : Int) (ν : jm_M) (RR : List Nat), i + m = 20 → 0 ≤ i → i + 1 ≤ S.2 → 21 ≤ (f : Int) + S.2 → 21 ≤ (g : Int) + S.2 → (w = 0 ∨ w = 1) → (w = 1 → RR ≠ []) → kAt ν τ n lim p → tTb ν 3 T.1 T.2.1 T.2.2 → kSs ν S → zSi k S → 0 < S.1.2.2.2 → sRt S.1.1 S.1.2.2.2 = (S.1.2.2.2 - 1) :: RR → (∀ e, zRe (sTok τ n lim) (zOn (sTok τ n lim) T r) w f g S p = .error e → ∀ ξ, kFe kU ν ξ e → 0 ≤ ξ 79 1 → Q (some (jm_I 0)) ξ) → (∀ x, zRe (sTok τ n lim) (zOn (sTok τ n lim) T r) w f g S p = .ok x → ∀ ξ, kFo kU ν ξ → kAt ξ τ n lim x.2 → kSs ξ x.1 → Q (some (jm_I 1)) ξ) → jg E m_X4_readCond (d + 6) 18 [some (jm_R 79), some (jm_R 1), some (jm_R 3), some (jm_I (9 - r)), some (jm_I w), some (jm_I i), none] [] ν Q
  | 0, i, w, k, f, g, S, p, ν, RR, g1, g2, g3, g4, g5, g6, g7, h0, hT, hS, hi, hn, hr, h1, h2 => by
    have := hi.2.1
    omega
  | m + 1, i, w, k, f, g, S, p, ν, RR, g1, g2, g3, g4, g5, g6, g7, h0, hT, hS, hi, hn, hr, h1, h2 => by
    have b20 := hi.2.1
    obtain ⟨f, rfl⟩ : ∃ f', f = f' + 1 := ⟨f - 1, by omega⟩
    obtain ⟨g, rfl⟩ : ∃ g', g = g' + 1 := ⟨g - 1, by omega⟩
    have wi : jm_wr (i + 1) = i + 1 := jm_wr_id (by omega) (by omega)
    -- the table stands behind more
    have ih := fun (w' : Int) (f' g' : Nat) (S' : zSs) (p' : Int) (ξ : jm_M) (R' : List Nat) (fo : kFo kU ν ξ) (q3 : S.2 < S'.2) q4 q5 q6 q7 a s z nn rr e1 e2 => g_K_18 ho hW m (i + 1) w' k f' g' S' p' ξ R' (by omega) (by omega) (by omega) q4 q5 q6 q7 a (tTb_U fo hT) s z nn rr e1 e2
    refine r_X4_readCond_18 (d := d + 6) ⟨fun z => absurd z (by omega), fun _ => ?_⟩
    refine c_K_isTerm (t := 17) h0 (by decide) (by decide) (fun s t => jq_Z (jb_t (by decide) ?_)) (fun z17 => jq_Z (jb_f (by decide) ?_)) (by decide)
    · refine c_K_isTerm (t := 17) h0 (by decide) (by decide) (fun _ _ => jq_Z (jb_t (by decide) ?_)) (fun z => absurd ⟨s, t⟩ z) (by decide)
      rw [zRe_and ⟨s, t⟩] at h1 h2
      have go : ∀ x, zOn (sTok τ n lim) T r S (sNx1 τ n lim p) = .ok x → ∀ ξ, kFo kU ν ξ → kAt ξ τ n lim x.2 → kSs ξ (if (1 : Int) = 0 then x.1 else zPu x.1 1 0 0) → jg E m_X4_readCond (d + 6) 18 [some (jm_R 79), some (jm_R 1), some (jm_R 3), some (jm_I (9 - r)), some (jm_I w), some (jm_I (jm_wr (i + 1))), none] [] ξ Q := by
        intro x hx ξ fo xa xs
        rw [if_neg (by decide)] at xs
        rw [zBi_o hx] at h1 h2
        obtain ⟨y1, y2, y3, y4⟩ := zOn_go hW r k _ _ x hi hx
        rw [hr] at y4
        have b := zPu_b2 (a := 1) y1 (Or.inl rfl) y4
        have e2 : (zPu x.1 1 0 0).2 = x.1.2 := rfl
        rw [wi]
        exact ih w f (g + 1) _ x.2 ξ RR fo (by omega) (by omega) (by omega) g6 g7 xa xs b.1 b.2.1 b.2.2 (fun e he ζ fe => h1 e he ζ (fo.fe fe)) (fun y hy ζ f2 => h2 y hy ζ (fo.trans f2))
      refine r_X4_readCond_71 (d := d + 6) ⟨fun z => r_X4_readCond_81 (d := d + 6) ?_, fun z => ⟨fun _ => ?_, fun z2 => absurd (by decide) z2⟩⟩
      · have w1 : w = 1 := by omega
        subst w1
        exact g_K_nx ho hW (Or.inr rfl) h0 (by omega) hT hS hi (fun e he ξ fe l => h1 e (zBi_e he) ξ fe l) go
      · have w0 : w = 0 := by omega
        subst w0
        exact g_K_nx ho hW (Or.inr rfl) h0 (by omega) hT hS hi (fun e he ξ fe l => h1 e (zBi_e he) ξ fe l) go
    · refine c_K_isTerm (t := 16) h0 (by decide) (by decide) (fun s t => jq_Z (jb_f (by decide) ?_)) (fun z16 => jq_Z (jb_t rfl ?_)) (by decide)
      · refine c_K_isTerm (t := 17) h0 (by decide) (by decide) (fun a b => absurd ⟨a, b⟩ z17) (fun _ => jq_Z (jb_f (by decide) ?_)) (by decide)
        rw [zRe_or z17 ⟨s, t⟩] at h1 h2
        have H1 : ∀ (S1 : zSs) (ξ0 : jm_M), (if w = 0 then S else zPu S 2 0 0) = S1 → S1.2 = S.2 → kFo kU ν ξ0 → kAt ξ0 τ n lim p → kSs ξ0 S1 → zSi k S1 → sRt S1.1.1 S1.1.2.2.2 ≠ [] → jg E m_X4_readCond (d + 6) 81 [some (jm_R 79), some (jm_R 1), some (jm_R 3), some (jm_I (9 - r)), none, some (jm_I i), some (jm_I 0)] [] ξ0 Q := by
          intro S1 ξ0 e1 e2 fo0 a0 s0 z0 r0
          rw [e1] at h1 h2
          refine r_X4_readCond_81 (d := d + 6) (g_K_nx ho hW (Or.inl rfl) a0 (by omega) (tTb_U fo0 hT) s0 z0 (fun e he ξ fe l => h1 e (zBi_e he) ξ (fo0.fe fe) l) (fun x hx ξ fo xa xs => ?_))
          rw [if_pos rfl] at xs
          rw [zBi_o hx] at h1 h2
          obtain ⟨y1, y2, y3, y4⟩ := zOn_go hW r k _ _ x z0 hx
          rw [wi]
          have F := fo0.trans fo
          exact ih 1 20 g _ x.2 ξ _ F (by omega) (by omega) (by omega) (Or.inr rfl) (fun _ => r0) xa xs y1 y2 y4 (fun e he ζ fe => h1 e he ζ (F.fe fe)) (fun y hy ζ f2 => h2 y hy ζ (F.trans f2))
        refine ⟨fun w0 => ?_, fun w0 => ⟨is_79, ?_⟩⟩
        · refine r_X4_readCond_71 (d := d + 6) ⟨fun z => absurd w0 z, fun z => ⟨fun z2 => absurd rfl z2, fun _ => ?_⟩⟩
          exact H1 S ν (if_pos w0) rfl kFo.rfl h0 hS hi (by rw [hr]; simp)
        · have w1 : w = 1 := by omega
          refine c_K_sput hS hi.b.2 (fun ξ f kk _ => ?_)
          refine r_X4_readCond_71 (d := d + 6) ⟨fun z => ?_, fun z => absurd w1 (by omega)⟩
          have R1 := g7 w1
          cases RR with
          | nil => exact absurd rfl R1
          | cons a R' =>
            have b := zPu_b2 (a := 2) hi (Or.inr rfl) hr
            exact H1 (zPu S 2 0 0) ξ (if_neg w0) rfl (kFo_U f) (h0.kf (f 1 (by decide)) (f 2 (by decide))) kk b.1 (by rw [b.2.2]; simp)
      · rw [zRe_no z17 z16] at h2
        refine ⟨fun w0 => ?_, fun w0 => ⟨is_79, ?_⟩⟩
        · rw [if_pos w0] at h2
          exact h2 _ rfl ν kFo.rfl h0 hS
        · rw [if_neg w0] at h2
          exact c_K_sput hS hi.b.2 (fun ξ f kk _ => h2 _ rfl ξ (kFo_U f) (h0.kf (f 1 (by decide)) (f 2 (by decide))) kk)
theorem c_K_cond {r : Nat} {k : Int} {ν : jm_M} (ho : kOn E (d + 6) τ n lim T r) (hW : sWR T.1) (h0 : kAt ν τ n lim p) (hT : tTb ν 3 T.1 T.2.1 T.2.2) (hS : kSs ν S) (hi : zSi k S) (h1 : ∀ e, zCn (sTok τ n lim) (zOn (sTok τ n lim) T r) S p = .error e → ∀ ξ, kFe kU ν ξ e → 0 ≤ ξ 79 1 → Q (some (jm_I 0)) ξ) (h2 : ∀ x, zCn (sTok τ n lim) (zOn (sTok τ n lim) T r) S p = .ok x → ∀ ξ, kFo kU ν ξ → kAt ξ τ n lim x.2 → kSs ξ x.1 → Q (some (jm_I 1)) ξ) : jc E m_X4_readCond (d + 7) [jm_R 79, jm_R 1, jm_R 3, jm_I (9 - r)] ν Q := by
  rw [zCn_re] at h1 h2
  refine e_X4_readCond (d := d + 6) (fun _ => ⟨is_79, ho k S p ν _ h0 hT hS hi (fun e he ξ fe l => jq_Z (jb_f (by decide) (h1 e (zBi_e he) ξ fe l))) (fun x hx ξ fo xa xs => jq_Z (jb_t (by decide) ?_))⟩)
  rw [zBi_o hx] at h1 h2
  obtain ⟨y1, y2, y3, y4⟩ := zOn_go hW r k _ _ x hi hx
  have bb := hi.b.1
  have k0 := hi.1
  exact g_K_18 ho hW 20 0 0 k 20 20 x.1 x.2 ξ _ (by decide) (by decide) (by omega) (by omega) (by omega) (Or.inl rfl) (fun z => absurd z (by decide)) xa (tTb_U fo hT) xs y1 y2 y4 (fun e he ζ fe => h1 e he ζ (fo.fe fe)) (fun y hy ζ f2 => h2 y hy ζ (fo.trans f2))
end KR
