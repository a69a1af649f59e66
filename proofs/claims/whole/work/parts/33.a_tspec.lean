/-! READING a talk: words (who and kind by turns), how many. A fault tells three numbers: fault, place, why -/
abbrev zTk : Type := (Int → Int) × Nat
abbrev zR3 (α : Type) : Type := Except (Int × Int × Int) α
def zB3 {α β : Type} (x : zRs α) (f : α → zR3 β) : zR3 β :=
  match x with
  | .error e => .error (e.1, e.2, 0)
  | .ok a => f a
theorem zB3_e {α β : Type} {x : zRs α} {f : α → zR3 β} {e : Int × Int} (h : x = .error e) : zB3 x f = .error (e.1, e.2, 0) := by rw [h]; rfl
theorem zB3_o {α β : Type} {x : zRs α} {f : α → zR3 β} {a : α} (h : x = .ok a) : zB3 x f = f a := by rw [h]; rfl
def zC3 {α β : Type} (x : zR3 α) (f : α → zR3 β) : zR3 β :=
  match x with
  | .error e => .error e
  | .ok a => f a
theorem zC3_e {α β : Type} {x : zR3 α} {f : α → zR3 β} {e : Int × Int × Int} (h : x = .error e) : zC3 x f = .error e := by rw [h]; rfl
theorem zC3_o {α β : Type} {x : zR3 α} {f : α → zR3 β} {a : α} (h : x = .ok a) : zC3 x f = f a := by rw [h]; rfl
def zWw (κ : zKp) (T : zTs) (W : zTk) (p : Int) : zR3 (zTk × Int) :=
  zB3 (zNH κ T.2.1 (T.1 0) p) fun a => if W.2 = 400 then .error (4, (κ p).2.1, 0) else
  zB3 (zNH κ T.2.2 (T.1 1) (zNx κ p)) fun k => if sWr T.1 (sLay T.1 W.1 W.2) a k ≠ 0 then .error (5, (κ p).2.1, sWr T.1 (sLay T.1 W.1 W.2) a k) else
  .ok ((sSay W.1 W.2 a k, W.2 + 1), zNx κ (zNx κ p))
def zWl (κ : zKp) (T : zTs) (W : zTk) (p : Int) : zR3 (zTk × Int) := zC3 (zWw κ T W p) fun x => if zSg κ x.2 59 then .ok (x.1, zNx κ x.2) else .error (1, (κ x.2).2.1, 0)
def zWt (κ : zKp) (T : zTs) : Nat → zTk → Int → zR3 zTk
  | 0, W, _ => .ok W
  | f + 1, W, p => if (κ p).1 = 0 then .ok W else zC3 (zWl κ T W p) fun x => zWt κ T f x.1 x.2
def zW0 : zTk := (fun _ => 0, 0)
theorem jm_up_id {m : jm_M} {p i v : Int} (h : m p i = v) : jm_up m p i v = m := by
  funext q j
  unfold jm_up
  split
  · rename_i e1
    split
    · rename_i e2
      rw [e1, e2]; exact h.symm
    · rfl
  · rfl
theorem tA.s3 {ν : jm_M} {ρ : sR} {a p c v : Int} {b : sB} (h : tA ν ρ a p c b) : tA (jm_up ν a 3 v) ρ a p c b := by
  obtain ⟨hP, hp, hW, hr, hb, hG, hc⟩ := h
  exact ⟨hP, by rw [jm_up_i (by decide)]; exact hp, hW, tRu_of (fun q q0 q1 => jm_up_ne (hP.sep q q0 q1).1) hr, ⟨by rw [jm_up_i (by decide)]; exact hb.1, by rw [jm_up_i (by decide)]; exact hb.2.1, fun f t f0 f1 t0 t1 => by rw [jm_up_ne (by omega)]; exact hb.2.2 f t f0 f1 t0 t1⟩, hG, hc⟩
