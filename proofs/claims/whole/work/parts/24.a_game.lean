/-! games of the class -/
def sSd (side a : Int) : Int := if sbt side a = true then 1 else 0
def sLg (ρ : sR) (side mine : Int) (b : sB) (x k : Int) : Prop := (0 ≤ x ∧ x < ρ 0) ∧ (0 ≤ k ∧ k < ρ 1) ∧ sSd side x = mine ∧ b.2.1 < 400 ∧ sWr ρ b x k = 0
/-- the one side has it in so many words -/
def sFo (ρ : sR) (w st side : Int) : Nat → Int → sB → Prop
  | 0, _, b => w < b.2.1 ∧ sSt ρ b w = st
  | m + 1, mine, b => (w < b.2.1 ∧ sSt ρ b w = st) ∨ (mine = 1 ∧ ∃ x k, sLg ρ side mine b x k ∧ sFo ρ w st side m (1 - mine) (sPush ρ b x k)) ∨
      (mine ≠ 1 ∧ (∃ x k, sLg ρ side mine b x k) ∧ ∀ x k, sLg ρ side mine b x k → sFo ρ w st side m (1 - mine) (sPush ρ b x k))
theorem sFl_iff {α : Type} {g : Int → List α} {v : α} : ∀ (m : Nat) (k : Int), v ∈ sFl g m k ↔ ∃ j, k ≤ j ∧ j < k + m ∧ v ∈ g j
  | 0, k => by
    constructor
    · intro h
      cases h
    · rintro ⟨j, h1, h2, _⟩
      omega
  | m + 1, k => by
    unfold sFl
    rw [List.mem_append, sFl_iff m (k + 1)]
    constructor
    · rintro (h | ⟨j, h1, h2, h3⟩)
      · exact ⟨k, by omega, by omega, h⟩
      · exact ⟨j, by omega, by omega, h3⟩
    · rintro ⟨j, h1, h2, h3⟩
      by_cases hj : j = k
      · subst hj; exact Or.inl h3
      · exact Or.inr ⟨j, by omega, by omega, h3⟩
theorem sG1_fl {α β : Type} {g : Int → α → α} {l : Int → List β} {h : α → β → α} (hg : ∀ j c, g j c = (l j).foldl h c) : ∀ (m : Nat) (k : Int) (c : α), sG1 g m k c = (sFl l m k).foldl h c
  | 0, _, _ => rfl
  | m + 1, k, c => by
    unfold sG1 sFl
    rw [List.foldl_append, hg, sG1_fl hg m (k + 1)]
theorem sBest_1 {T : Int} : ∀ (l : List Int) (c : Int), 0 ≤ c → (∀ v, v ∈ l → 0 ≤ v) → 0 ≤ l.foldl (sBest 1) c ∧ (l.foldl (sBest 1) c ≤ T ↔ c ≤ T ∨ ∃ v, v ∈ l ∧ v ≤ T)
  | [], c, h0, _ => ⟨h0, ⟨fun h => Or.inl h, fun h => by rcases h with h | ⟨v, h, _⟩; exact h; cases h⟩⟩
  | x :: l, c, h0, hl => by
    have hx := hl x List.mem_cons_self
    have e : 0 ≤ sBest 1 c x ∧ (sBest 1 c x ≤ T ↔ c ≤ T ∨ x ≤ T) := by
      unfold sBest
      rw [if_neg (by omega), if_neg (by decide)]
      split <;> omega
    have ih := sBest_1 (T := T) l (sBest 1 c x) e.1 (fun v hv => hl v (List.mem_cons_of_mem _ hv))
    rw [List.foldl_cons]
    refine ⟨ih.1, ih.2.trans ⟨fun h => ?_, fun h => ?_⟩⟩
    · rcases h with h | ⟨v, h1, h2⟩
      · rcases e.2.mp h with h | h
        · exact Or.inl h
        · exact Or.inr ⟨x, List.mem_cons_self, h⟩
      · exact Or.inr ⟨v, List.mem_cons_of_mem _ h1, h2⟩
    · rcases h with h | ⟨v, h1, h2⟩
      · exact Or.inl (e.2.mpr (Or.inl h))
      · rcases List.mem_cons.mp h1 with h1 | h1
        · subst h1; exact Or.inl (e.2.mpr (Or.inr h2))
        · exact Or.inr ⟨v, h1, h2⟩
theorem sBest_0 {T : Int} : ∀ (l : List Int) (c : Int), 0 ≤ c → (∀ v, v ∈ l → 0 ≤ v) → 0 ≤ l.foldl (sBest 0) c ∧ (l.foldl (sBest 0) c ≤ T ↔ c ≤ T ∧ ∀ v, v ∈ l → v ≤ T)
  | [], c, h0, _ => ⟨h0, ⟨fun h => ⟨h, fun v hv => by cases hv⟩, fun h => h.1⟩⟩
  | x :: l, c, h0, hl => by
    have hx := hl x List.mem_cons_self
    have e : 0 ≤ sBest 0 c x ∧ (sBest 0 c x ≤ T ↔ c ≤ T ∧ x ≤ T) := by
      unfold sBest
      rw [if_neg (by omega), if_pos rfl]
      split <;> omega
    have ih := sBest_0 (T := T) l (sBest 0 c x) e.1 (fun v hv => hl v (List.mem_cons_of_mem _ hv))
    rw [List.foldl_cons]
    refine ⟨ih.1, ih.2.trans ⟨fun h => ?_, fun h => ?_⟩⟩
    · have h1 := e.2.mp h.1
      refine ⟨h1.1, fun v hv => ?_⟩
      rcases List.mem_cons.mp hv with hv | hv
      · subst hv; exact h1.2
      · exact h.2 v hv
    · exact ⟨e.2.mpr ⟨h.1, h.2 x List.mem_cons_self⟩, fun v hv => h.2 v (List.mem_cons_of_mem _ hv)⟩
/-- what the words of one turn come to -/
def sVs (ρ : sR) (w st side : Int) (m : Nat) (mine : Int) (b : sB) : List Int := sFl (fun a => if (if sbt side a = true then 1 else 0) = mine then sFl (fun k => if sWr ρ b a k = 0 then [sInc (sPl ρ w st side m (1 - mine) (sPush ρ b a k))] else []) (ρ 1).toNat 0 else []) (ρ 0).toNat 0
theorem sPl_vs {ρ : sR} {w st side mine : Int} {m : Nat} {b : sB} (h1 : ¬ (w < b.2.1 ∧ sSt ρ b w = st)) (h2 : b.2.1 ≠ 400) : sPl ρ w st side (m + 1) mine b = if (sVs ρ w st side m mine b).foldl (sBest mine) (-1) = -1 then 99 else (sVs ρ w st side m mine b).foldl (sBest mine) (-1) := by
  rw [sPl, if_neg h1, if_neg h2]
  have e : sG1 (fun a c => if (if sbt side a = true then 1 else 0) = mine then sG1 (fun k c => if sWr ρ b a k = 0 then sBest mine c (sInc (sPl ρ w st side m (1 - mine) (sPush ρ b a k))) else c) (ρ 1).toNat 0 c else c) (ρ 0).toNat 0 (-1) = (sVs ρ w st side m mine b).foldl (sBest mine) (-1) := by
    unfold sVs
    refine sG1_fl (fun a c => ?_) _ _ _
    by_cases hs : (if sbt side a = true then (1 : Int) else 0) = mine
    · rw [if_pos hs, if_pos hs]
      refine sG1_fl (fun k c => ?_) _ _ _
      split <;> rfl
    · rw [if_neg hs, if_neg hs]
      rfl
  simp only [e]
theorem sVs_mem {ρ : sR} {w st side mine v : Int} {m : Nat} {b : sB} (hn : b.2.1 < 400) (hW : sWR ρ) : v ∈ sVs ρ w st side m mine b ↔ ∃ x k, sLg ρ side mine b x k ∧ v = sInc (sPl ρ w st side m (1 - mine) (sPush ρ b x k)) := by
  have := hW.1
  have := hW.2.2.1
  unfold sVs
  rw [sFl_iff]
  constructor
  · rintro ⟨x, x0, x1, h⟩
    by_cases hs : (if sbt side x = true then (1 : Int) else 0) = mine
    · rw [if_pos hs] at h
      obtain ⟨k, k0, k1, h2⟩ := (sFl_iff _ _).mp h
      split at h2
      · rename_i hw
        exact ⟨x, k, ⟨⟨by omega, by omega⟩, ⟨by omega, by omega⟩, hs, hn, hw⟩, List.mem_singleton.mp h2⟩
      · cases h2
    · rw [if_neg hs] at h
      cases h
  · rintro ⟨x, k, ⟨hx, hk, hs, _, hw⟩, h⟩
    refine ⟨x, by omega, by omega, ?_⟩
    unfold sSd at hs
    rw [if_pos hs]
    refine (sFl_iff _ _).mpr ⟨k, by omega, by omega, ?_⟩
    rw [if_pos hw]
    exact List.mem_singleton.mpr h
theorem sInc_in {v : Int} (h : 0 ≤ v ∧ v ≤ 99) : 1 ≤ sInc v ∧ sInc v ≤ 99 := by
  unfold sInc; split <;> omega
theorem sInc_le {v : Int} {m : Nat} (h : 0 ≤ v ∧ v ≤ 99) (hm : m < 90) : sInc v ≤ ((m + 1 : Nat) : Int) ↔ v ≤ m := by
  unfold sInc; split <;> omega
theorem sPl_in {ρ : sR} {w st side : Int} (hW : sWR ρ) : ∀ (L : Nat) (mine : Int) (b : sB), b.2.1 ≤ 400 → mine = 0 ∨ mine = 1 → 0 ≤ sPl ρ w st side L mine b ∧ sPl ρ w st side L mine b ≤ 99
  | 0, mine, b, _, _ => by unfold sPl; split <;> omega
  | L + 1, mine, b, hn, hm => by
    by_cases h1 : w < b.2.1 ∧ sSt ρ b w = st
    · rw [sPl, if_pos h1]; omega
    · by_cases h2 : b.2.1 = 400
      · rw [sPl, if_neg h1, if_pos h2]; omega
      · rw [sPl_vs h1 h2]
        have hl : ∀ v, v ∈ sVs ρ w st side L mine b → 1 ≤ v ∧ v ≤ 99 := by
          intro v hv
          obtain ⟨x, k, hL, rfl⟩ := (sVs_mem (by omega) hW).mp hv
          exact sInc_in (sPl_in hW L (1 - mine) _ (by rw [(sPush_c rfl).1]; omega) (by omega))
        cases hvs : sVs ρ w st side L mine b with
        | nil => simp
        | cons y l =>
          rw [hvs] at hl
          have hy := hl y List.mem_cons_self
          have e0 : ∀ q, sBest q (-1) y = y := fun q => if_pos rfl
          rw [List.foldl_cons, e0]
          have hl2 : ∀ v, v ∈ l → 0 ≤ v := fun v hv => by have := hl v (List.mem_cons_of_mem _ hv); omega
          rcases hm with rfl | rfl
          · have q := sBest_0 (T := 99) l y (by omega) hl2
            have := q.2.mpr ⟨by omega, fun v hv => (hl v (List.mem_cons_of_mem _ hv)).2⟩
            split <;> omega
          · have q := sBest_1 (T := 99) l y (by omega) hl2
            have := q.2.mpr (Or.inl hy.2)
            split <;> omega
theorem sFo_pl {ρ : sR} {w st side : Int} (hW : sWR ρ) : ∀ (m L : Nat) (mine : Int) (b : sB), m ≤ L → L ≤ 8 → b.2.1 ≤ 400 → mine = 0 ∨ mine = 1 → (sFo ρ w st side m mine b ↔ sPl ρ w st side L mine b ≤ m) := by
  intro m
  have noT : ∀ (m L : Nat) (mine : Int) (b : sB), L ≤ 8 → m ≤ L → b.2.1 ≤ 400 → mine = 0 ∨ mine = 1 → ¬ (w < b.2.1 ∧ sSt ρ b w = st) → (b.2.1 = 400 ∨ L = 0) → ¬ sPl ρ w st side L mine b ≤ m := by
    intro m L mine b hL hmL hn hm h1 h2
    cases L with
    | zero => rw [sPl, if_neg h1]; omega
    | succ L =>
      rcases h2 with h2 | h2
      · rw [sPl, if_neg h1, if_pos h2]; omega
      · omega
  induction m with
  | zero =>
    intro L mine b hmL hL hn hm
    by_cases h1 : w < b.2.1 ∧ sSt ρ b w = st
    · refine ⟨fun _ => ?_, fun _ => h1⟩
      cases L with
      | zero => rw [sPl, if_pos h1]; omega
      | succ L => rw [sPl, if_pos h1]; omega
    · refine ⟨fun h => absurd h h1, fun h => ?_⟩
      by_cases h2 : b.2.1 = 400 ∨ L = 0
      · exact absurd h (noT 0 L mine b hL hmL hn hm h1 h2)
      · obtain ⟨L, rfl⟩ : ∃ q, L = q + 1 := ⟨L - 1, by omega⟩
        exfalso
        rw [sPl_vs h1 (by omega)] at h
        have hl : ∀ v, v ∈ sVs ρ w st side L mine b → 1 ≤ v ∧ v ≤ 99 := by
          intro v hv
          obtain ⟨x, k, hLg, rfl⟩ := (sVs_mem (by omega) hW).mp hv
          exact sInc_in (sPl_in hW L (1 - mine) _ (by rw [(sPush_c rfl).1]; omega) (by omega))
        cases hvs : sVs ρ w st side L mine b with
        | nil => rw [hvs] at h; simp at h
        | cons y l =>
          rw [hvs] at h hl
          have hy := hl y List.mem_cons_self
          have e0 : ∀ q, sBest q (-1) y = y := fun q => if_pos rfl
          rw [List.foldl_cons, e0] at h
          have hl2 : ∀ v, v ∈ l → 0 ≤ v := fun v hv => by have := hl v (List.mem_cons_of_mem _ hv); omega
          rcases hm with rfl | rfl
          · have q := sBest_0 (T := 0) l y (by omega) hl2
            rw [if_neg (by omega)] at h
            have := (q.2.mp h).1
            omega
          · have q := sBest_1 (T := 0) l y (by omega) hl2
            rw [if_neg (by omega)] at h
            rcases q.2.mp h with q | ⟨v, hv, q⟩
            · omega
            · have := hl v (List.mem_cons_of_mem _ hv); omega
  | succ m ih =>
    intro L mine b hmL hL hn hm
    obtain ⟨L, rfl⟩ : ∃ q, L = q + 1 := ⟨L - 1, by omega⟩
    by_cases h1 : w < b.2.1 ∧ sSt ρ b w = st
    · exact ⟨fun _ => by rw [sPl, if_pos h1]; omega, fun _ => Or.inl h1⟩
    · by_cases h2 : b.2.1 = 400
      · refine ⟨fun h => ?_, fun h => absurd h (noT (m + 1) (L + 1) mine b hL hmL hn hm h1 (Or.inl h2))⟩
        rcases h with h | ⟨_, x, k, h, _⟩ | ⟨_, ⟨x, k, h⟩, _⟩
        · exact absurd h h1
        · have := h.2.2.2.1; omega
        · have := h.2.2.2.1; omega
      · rw [sPl_vs h1 h2]
        have hn2 : ∀ x k, (sPush ρ b x k).2.1 ≤ 400 := fun x k => by rw [(sPush_c rfl).1]; omega
        have hl : ∀ v, v ∈ sVs ρ w st side L mine b → 1 ≤ v ∧ v ≤ 99 := by
          intro v hv
          obtain ⟨x, k, hLg, rfl⟩ := (sVs_mem (by omega) hW).mp hv
          exact sInc_in (sPl_in hW L (1 - mine) _ (hn2 x k) (by omega))
        have each : ∀ x k, (sFo ρ w st side m (1 - mine) (sPush ρ b x k) ↔ sInc (sPl ρ w st side L (1 - mine) (sPush ρ b x k)) ≤ ((m + 1 : Nat) : Int)) := fun x k => by
          rw [sInc_le (sPl_in hW L (1 - mine) _ (hn2 x k) (by omega)) (by omega)]
          exact ih L (1 - mine) _ (by omega) (by omega) (hn2 x k) (by omega)
        have fo : sFo ρ w st side (m + 1) mine b ↔ (mine = 1 ∧ ∃ x k, sLg ρ side mine b x k ∧ sFo ρ w st side m (1 - mine) (sPush ρ b x k)) ∨ (mine ≠ 1 ∧ (∃ x k, sLg ρ side mine b x k) ∧ ∀ x k, sLg ρ side mine b x k → sFo ρ w st side m (1 - mine) (sPush ρ b x k)) :=
          ⟨fun h => by rcases h with h | h; exact absurd h h1; exact h, fun h => Or.inr h⟩
        rw [fo]
        have some_v : ∀ x k, sLg ρ side mine b x k → sInc (sPl ρ w st side L (1 - mine) (sPush ρ b x k)) ∈ sVs ρ w st side L mine b := fun x k q => (sVs_mem (by omega) hW).mpr ⟨x, k, q, rfl⟩
        cases hvs : sVs ρ w st side L mine b with
        | nil =>
          refine ⟨fun h => ?_, fun h => ?_⟩
          · rcases h with ⟨_, x, k, h, _⟩ | ⟨_, ⟨x, k, h⟩, _⟩
            · have := some_v x k h; rw [hvs] at this; cases this
            · have := some_v x k h; rw [hvs] at this; cases this
          · simp at h; omega
        | cons y l =>
          have hl2 : ∀ v, v ∈ y :: l → 0 ≤ v := fun v hv => by rw [← hvs] at hv; have := hl v hv; omega
          have hy := hl2 y List.mem_cons_self
          have e0 : ∀ q, sBest q (-1) y = y := fun q => if_pos rfl
          rw [List.foldl_cons, e0]
          have hl3 : ∀ v, v ∈ l → 0 ≤ v := fun v hv => hl2 v (List.mem_cons_of_mem _ hv)
          have allv : (∀ v, v ∈ y :: l → v ≤ ((m + 1 : Nat) : Int)) ↔ ∀ x k, sLg ρ side mine b x k → sFo ρ w st side m (1 - mine) (sPush ρ b x k) := by
            rw [← hvs]
            refine ⟨fun h x k q => (each x k).mpr (h _ (some_v x k q)), fun h v hv => ?_⟩
            obtain ⟨x, k, q, rfl⟩ := (sVs_mem (by omega) hW).mp hv
            exact (each x k).mp (h x k q)
          have exv : (∃ v, v ∈ y :: l ∧ v ≤ ((m + 1 : Nat) : Int)) ↔ ∃ x k, sLg ρ side mine b x k ∧ sFo ρ w st side m (1 - mine) (sPush ρ b x k) := by
            rw [← hvs]
            refine ⟨fun ⟨v, hv, h⟩ => ?_, fun ⟨x, k, q, h⟩ => ⟨_, some_v x k q, (each x k).mp h⟩⟩
            obtain ⟨x, k, q, rfl⟩ := (sVs_mem (by omega) hW).mp hv
            exact ⟨x, k, q, (each x k).mpr h⟩
          have exl : ∃ x k, sLg ρ side mine b x k := by
            have : y ∈ sVs ρ w st side L mine b := by rw [hvs]; exact List.mem_cons_self
            obtain ⟨x, k, q, _⟩ := (sVs_mem (by omega) hW).mp this
            exact ⟨x, k, q⟩
          rcases hm with rfl | rfl
          · have q := sBest_0 (T := ((m + 1 : Nat) : Int)) l y hy hl3
            rw [if_neg (by omega), q.2]
            rw [← allv]
            refine ⟨fun h => ?_, fun h => Or.inr ⟨by decide, exl, fun v hv => ?_⟩⟩
            · rcases h with ⟨h, _⟩ | ⟨_, _, h⟩
              · cases h
              · exact ⟨h y List.mem_cons_self, fun v hv => h v (List.mem_cons_of_mem _ hv)⟩
            · rcases List.mem_cons.mp hv with hv | hv
              · rw [hv]; exact h.1
              · exact h.2 v hv
          · have q := sBest_1 (T := ((m + 1 : Nat) : Int)) l y hy hl3
            rw [if_neg (by omega), q.2]
            rw [← exv]
            refine ⟨fun h => ?_, fun h => Or.inl ⟨rfl, ?_⟩⟩
            · rcases h with ⟨_, v, hv, h⟩ | ⟨h, _⟩
              · rcases List.mem_cons.mp hv with hv | hv
                · rw [hv] at h; exact Or.inl h
                · exact Or.inr ⟨v, hv, h⟩
              · exact absurd rfl h
            · rcases h with h | ⟨v, hv, h⟩
              · exact ⟨y, List.mem_cons_self, h⟩
              · exact ⟨v, List.mem_cons_of_mem _ hv, h⟩
