/-! READING a talk: words (who and kind by turns), how many. A fault tells three numbers: fault, place, why -/
abbrev zTk : Type := (Int → Int) × Nat
abbrev zR3 (α : Type) : Type := Except (Int × Int × Int) α
def zB3 {α β : Type} (x : zRs α) (f : α → zR3 β) : zR3 β :=
  match x with
  | .error e => .error (e.1, e.2, 0)
  | .ok a => f a
theorem zB3_e {α β : Type} {x : zRs α} {f : α → zR3 β} {e : Int × Int} (h : x = .error e) : zB3 x f = .error (e.1, e.2, 0) := by rw [h]; rfl
theorem zB3_o {α β : Type} {x : zRs α} {f : α → zR3 β} {a : α} (h : x = .ok a) : zB3 x f = f a := by rw [h]; rfl
def zWw (κ : zKp) (T : zTs) (W : zTk) (p : Int) : zR3 (zTk × Int) :=
  zB3 (zNH κ T.2.1 (T.1 0) p) fun a => if W.2 = 400 then .error (4, (κ p).2.1, 0) else
  zB3 (zNH κ T.2.2 (T.1 1) (zNx κ p)) fun k => if sWr T.1 (sLay T.1 W.1 W.2) a k ≠ 0 then .error (5, (κ p).2.1, sWr T.1 (sLay T.1 W.1 W.2) a k) else
  .ok ((sUp (sUp W.1 (2 * W.2) a) (2 * W.2 + 1) k, W.2 + 1), zNx κ (zNx κ p))
def zWl (κ : zKp) (T : zTs) (W : zTk) (p : Int) : zR3 (zTk × Int) :=
  match zWw κ T W p with
  | .error e => .error e
  | .ok x => if zSg κ x.2 59 then .ok (x.1, zNx κ x.2) else .error (1, (κ x.2).2.1, 0)
def zWt (κ : zKp) (T : zTs) : Nat → zTk → Int → zR3 zTk
  | 0, W, _ => .ok W
  | f + 1, W, p => if (κ p).1 = 0 then .ok W else
    match zWl κ T W p with
    | .error e => .error e
    | .ok x => zWt κ T f x.1 x.2
def zW0 : zTk := (fun _ => 0, 0)
