/-! arithmetic and branches -/
def jm_and (a b : Int) : Int := (Int32.ofInt a &&& Int32.ofInt b).toInt
def jm_or (a b : Int) : Int := (Int32.ofInt a ||| Int32.ofInt b).toInt
def jm_xor (a b : Int) : Int := (Int32.ofInt a ^^^ Int32.ofInt b).toInt
def jm_shl (a b : Int) : Int := (Int32.ofInt a <<< (Int32.ofInt b &&& 31)).toInt
def jm_shr (a b : Int) : Int := (Int32.ofInt a >>> (Int32.ofInt b &&& 31)).toInt
def jm_ushr (a b : Int) : Int := ((Int32.ofInt a).toUInt32 >>> ((Int32.ofInt b).toUInt32 &&& Int32.toUInt32 31)).toInt32.toInt
def jm_quo (a b : Int) : Int := (Int32.ofInt a / Int32.ofInt b).toInt
def jm_rem (a b : Int) : Int := (Int32.ofInt a - Int32.ofInt a / Int32.ofInt b * Int32.ofInt b).toInt
def jm_i2b (a : Int) : Int := (Int32.ofInt a).toInt8.toInt32.toInt
def jm_cmp (a b : Int) : Int := if b < a then 1 else if a = b then 0 else -1
section JMT
variable {E : jm_E} {Y : jm_Y} {R : Room} {n' n cs sl pc : Nat} {L : List (Option jm_V)} {st : List jm_V} {μ : jm_M} {Q : Option jm_V → jm_M → Prop}
theorem jm_ofToInt (x : Int32) : Int32.ofInt x.toInt = x := Int32.ofInt_toInt x
theorem jm_tail2 {v w : jm_V} {l : List jm_V} (h : ∀ u ∈ v :: w :: l, jm_ok u) : ∀ u ∈ l, jm_ok u := jm_tail (jm_tail h)
/-- two numbers give one -/
theorem jm_bin {a b v : Int} {x : Int32} (hx : Int32.ofInt v = x) (ho : jm_ok (jm_I v)) (h : jm_G E Y R n' n cs sl (pc + 1) L (jm_I v :: st) μ Q)
    (hw : ∀ (p : Program) (e : Env) (s : State) (m : MethodId) (args : Array Value) (below : List Frame) (meth : Method) (c : Code) (Z : State → Prop) (H : Heap) (locs : List Loc) (ls : Array Slot), p.tables.exec = Jvm.exec → c.code = Y.2.1 →
      W p (jm_l E) e R s m args below meth c H locs cs sl Z (F0 m (pc + 1) ls (.int x :: st.map (jm_cv E))) → W p (jm_l E) e R s m args below meth c H locs cs sl Z (F0 m pc ls (.int (Int32.ofInt b) :: .int (Int32.ofInt a) :: st.map (jm_cv E)))) :
    jm_G E Y R n' n cs sl pc L (jm_I b :: jm_I a :: st) μ Q :=
  jm_step h (fun q _ => jm_cons ho (jm_tail2 q)) (fun p e s m args below meth c Z H locs ls he hb _ _ _ _ _ w => hw p e s m args below meth c Z H locs ls he hb (by rw [← hx]; exact w))
theorem jm_iadd {a b : Int} (hd : decode Y.2.1 pc = .ok (.iadd, 1)) (h : jm_G E Y R n' n cs sl (pc + 1) L (jm_I (jm_wr (a + b)) :: st) μ Q) : jm_G E Y R n' n cs sl pc L (jm_I b :: jm_I a :: st) μ Q :=
  jm_bin (v := jm_wr _) ((jm_wr_of _).trans (Int32.ofInt_add _ _)) (jm_ok32 _) h (fun p e s m args below meth c Z H locs ls he hb w => lv_iadd he hb hd w)
theorem jm_isub {a b : Int} (hd : decode Y.2.1 pc = .ok (.isub, 1)) (h : jm_G E Y R n' n cs sl (pc + 1) L (jm_I (jm_wr (a - b)) :: st) μ Q) : jm_G E Y R n' n cs sl pc L (jm_I b :: jm_I a :: st) μ Q :=
  jm_bin (v := jm_wr _) ((jm_wr_of _).trans (Int32.ofInt_sub _ _)) (jm_ok32 _) h (fun p e s m args below meth c Z H locs ls he hb w => lv_isub he hb hd w)
theorem jm_imul {a b : Int} (hd : decode Y.2.1 pc = .ok (.imul, 1)) (h : jm_G E Y R n' n cs sl (pc + 1) L (jm_I (jm_wr (a * b)) :: st) μ Q) : jm_G E Y R n' n cs sl pc L (jm_I b :: jm_I a :: st) μ Q :=
  jm_bin (v := jm_wr _) ((jm_wr_of _).trans (Int32.ofInt_mul _ _)) (jm_ok32 _) h (fun p e s m args below meth c Z H locs ls he hb w => lv_imul he hb hd w)
theorem jm_iand {a b : Int} (hd : decode Y.2.1 pc = .ok (.iand, 1)) (h : jm_G E Y R n' n cs sl (pc + 1) L (jm_I (jm_and a b) :: st) μ Q) : jm_G E Y R n' n cs sl pc L (jm_I b :: jm_I a :: st) μ Q :=
  jm_bin (jm_ofToInt _) (jm_ok32 _) h (fun p e s m args below meth c Z H locs ls he hb w => lv_iand he hb hd w)
theorem jm_ior {a b : Int} (hd : decode Y.2.1 pc = .ok (.ior, 1)) (h : jm_G E Y R n' n cs sl (pc + 1) L (jm_I (jm_or a b) :: st) μ Q) : jm_G E Y R n' n cs sl pc L (jm_I b :: jm_I a :: st) μ Q :=
  jm_bin (jm_ofToInt _) (jm_ok32 _) h (fun p e s m args below meth c Z H locs ls he hb w => lv_ior he hb hd w)
theorem jm_ixor {a b : Int} (hd : decode Y.2.1 pc = .ok (.ixor, 1)) (h : jm_G E Y R n' n cs sl (pc + 1) L (jm_I (jm_xor a b) :: st) μ Q) : jm_G E Y R n' n cs sl pc L (jm_I b :: jm_I a :: st) μ Q :=
  jm_bin (jm_ofToInt _) (jm_ok32 _) h (fun p e s m args below meth c Z H locs ls he hb w => lv_ixor he hb hd w)
theorem jm_ishl {a b : Int} (hd : decode Y.2.1 pc = .ok (.ishl, 1)) (h : jm_G E Y R n' n cs sl (pc + 1) L (jm_I (jm_shl a b) :: st) μ Q) : jm_G E Y R n' n cs sl pc L (jm_I b :: jm_I a :: st) μ Q :=
  jm_bin (jm_ofToInt _) (jm_ok32 _) h (fun p e s m args below meth c Z H locs ls he hb w => lv_ishl he hb hd w)
theorem jm_ishr {a b : Int} (hd : decode Y.2.1 pc = .ok (.ishr, 1)) (h : jm_G E Y R n' n cs sl (pc + 1) L (jm_I (jm_shr a b) :: st) μ Q) : jm_G E Y R n' n cs sl pc L (jm_I b :: jm_I a :: st) μ Q :=
  jm_bin (jm_ofToInt _) (jm_ok32 _) h (fun p e s m args below meth c Z H locs ls he hb w => lv_ishr he hb hd w)
theorem jm_iushr {a b : Int} (hd : decode Y.2.1 pc = .ok (.iushr, 1)) (h : jm_G E Y R n' n cs sl (pc + 1) L (jm_I (jm_ushr a b) :: st) μ Q) : jm_G E Y R n' n cs sl pc L (jm_I b :: jm_I a :: st) μ Q :=
  jm_bin (jm_ofToInt _) (jm_ok32 _) h (fun p e s m args below meth c Z H locs ls he hb w => lv_iushr he hb hd rfl w)
theorem jm_ne0 {b : Int} (hb : jm_ok (jm_I b)) (h : b ≠ 0) : ¬ Int32.ofInt b = 0 := fun z => h ((jm_eq32 hb (b := 0) ⟨by omega, by omega⟩).mp z)
theorem jm_idiv {a b : Int} (hd : decode Y.2.1 pc = .ok (.idiv, 1)) (hz : b ≠ 0) (h : jm_G E Y R n' n cs sl (pc + 1) L (jm_I (jm_quo a b) :: st) μ Q) : jm_G E Y R n' n cs sl pc L (jm_I b :: jm_I a :: st) μ Q :=
  jm_step h (fun q _ => jm_cons (jm_ok32 _) (jm_tail2 q)) (fun p e s m args below meth c Z H locs ls he hb _ _ _ _ hs w => lv_idiv he hb hd (jm_ne0 (hs _ List.mem_cons_self) hz) (by rw [← jm_ofToInt (Int32.ofInt a / Int32.ofInt b)]; exact w))
theorem jm_irem {a b : Int} (hd : decode Y.2.1 pc = .ok (.irem, 1)) (hz : b ≠ 0) (h : jm_G E Y R n' n cs sl (pc + 1) L (jm_I (jm_rem a b) :: st) μ Q) : jm_G E Y R n' n cs sl pc L (jm_I b :: jm_I a :: st) μ Q :=
  jm_step h (fun q _ => jm_cons (jm_ok32 _) (jm_tail2 q)) (fun p e s m args below meth c Z H locs ls he hb _ _ _ _ hs w => lv_irem he hb hd (jm_ne0 (hs _ List.mem_cons_self) hz) (by rw [← jm_ofToInt (Int32.ofInt a - Int32.ofInt a / Int32.ofInt b * Int32.ofInt b)]; exact w))
theorem jm_ladd {a b : Int} (hd : decode Y.2.1 pc = .ok (.ladd, 1)) (h : jm_G E Y R n' n cs sl (pc + 1) L (jm_L (jm_wl (a + b)) :: st) μ Q) : jm_G E Y R n' n cs sl pc L (jm_L b :: jm_L a :: st) μ Q :=
  jm_step h (fun q _ => jm_cons (jm_ok64 _) (jm_tail2 q)) (fun p e s m args below meth c Z H locs ls he hb _ _ _ _ _ w => lv_ladd he hb hd (by rw [← Int64.ofInt_add, ← jm_wl_of]; exact w))
theorem jm_lsub {a b : Int} (hd : decode Y.2.1 pc = .ok (.lsub, 1)) (h : jm_G E Y R n' n cs sl (pc + 1) L (jm_L (jm_wl (a - b)) :: st) μ Q) : jm_G E Y R n' n cs sl pc L (jm_L b :: jm_L a :: st) μ Q :=
  jm_step h (fun q _ => jm_cons (jm_ok64 _) (jm_tail2 q)) (fun p e s m args below meth c Z H locs ls he hb _ _ _ _ _ w => lv_lsub he hb hd (by rw [← Int64.ofInt_sub, ← jm_wl_of]; exact w))
theorem jm_lmul {a b : Int} (hd : decode Y.2.1 pc = .ok (.lmul, 1)) (h : jm_G E Y R n' n cs sl (pc + 1) L (jm_L (jm_wl (a * b)) :: st) μ Q) : jm_G E Y R n' n cs sl pc L (jm_L b :: jm_L a :: st) μ Q :=
  jm_step h (fun q _ => jm_cons (jm_ok64 _) (jm_tail2 q)) (fun p e s m args below meth c Z H locs ls he hb _ _ _ _ _ w => lv_lmul he hb hd (by rw [← Int64.ofInt_mul, ← jm_wl_of]; exact w))
theorem jm_i2l {a : Int} (hd : decode Y.2.1 pc = .ok (.i2l, 1)) (h : jm_G E Y R n' n cs sl (pc + 1) L (jm_L a :: st) μ Q) : jm_G E Y R n' n cs sl pc L (jm_I a :: st) μ Q :=
  jm_step h (fun q _ => jm_cons (by have := q _ List.mem_cons_self; exact ⟨by have := this.1; omega, by have := this.2; omega⟩) (jm_tail q)) (fun p e s m args below meth c Z H locs ls he hb _ _ _ _ hs w => lv_i2l he hb hd (v := Int64.ofInt a) (by rw [← Int64.ofInt_int32ToInt, jm_ti (hs _ List.mem_cons_self)]) w)
theorem jm_i2bt {a : Int} (hd : decode Y.2.1 pc = .ok (.i2b, 1)) (h : jm_G E Y R n' n cs sl (pc + 1) L (jm_I (jm_i2b a) :: st) μ Q) : jm_G E Y R n' n cs sl pc L (jm_I a :: st) μ Q :=
  jm_step h (fun q _ => jm_cons (jm_ok32 _) (jm_tail q)) (fun p e s m args below meth c Z H locs ls he hb _ _ _ _ hs w => lv_i2b he hb hd (v := Int32.ofInt (jm_i2b a)) (jm_ofToInt _).symm w)
theorem jm_cmp_of {a b : Int} (ha : jm_ok (jm_L a)) (hb : jm_ok (jm_L b)) : lg_cmp (Int64.ofInt a) (Int64.ofInt b) = Int32.ofInt (jm_cmp a b) := by
  unfold lg_cmp jm_cmp
  simp only [gt_iff_lt, jm_lt64 hb ha, jm_eq64 ha hb]
  split
  · rfl
  · split <;> rfl
theorem jm_cmp_ok (a b : Int) : jm_ok (jm_I (jm_cmp a b)) := by
  show -2147483648 ≤ jm_cmp a b ∧ jm_cmp a b < 2147483648
  unfold jm_cmp
  split
  · omega
  · split <;> omega
theorem jm_lcmp {a b : Int} (hd : decode Y.2.1 pc = .ok (.lcmp, 1)) (h : jm_G E Y R n' n cs sl (pc + 1) L (jm_I (jm_cmp a b) :: st) μ Q) : jm_G E Y R n' n cs sl pc L (jm_L b :: jm_L a :: st) μ Q :=
  jm_step h (fun q _ => jm_cons (jm_cmp_ok _ _) (jm_tail2 q)) (fun p e s m args below meth c Z H locs ls he hb _ _ _ _ hs w => W.lcmp he hb hd (by rw [jm_cmp_of (hs _ (List.mem_cons_of_mem _ List.mem_cons_self)) (hs _ List.mem_cons_self)]; exact w))
/-! the stack -/
theorem jm_dup {v : jm_V} (hl : jm_lg v = false) (hd : decode Y.2.1 pc = .ok (.dup, 1)) (h : jm_G E Y R n' n cs sl (pc + 1) L (v :: v :: st) μ Q) : jm_G E Y R n' n cs sl pc L (v :: st) μ Q :=
  jm_step h (fun q _ => jm_cons (q _ List.mem_cons_self) q) (fun p e s m args below meth c Z H locs ls he hb _ _ _ _ _ w => lv_dup he hb hd (jm_cat1 hl) w)
theorem jm_pop {v : jm_V} (hl : jm_lg v = false) (hd : decode Y.2.1 pc = .ok (.pop, 1)) (h : jm_G E Y R n' n cs sl (pc + 1) L st μ Q) : jm_G E Y R n' n cs sl pc L (v :: st) μ Q :=
  jm_step h (fun q _ => jm_tail q) (fun p e s m args below meth c Z H locs ls he hb _ _ _ _ _ w => lv_pop he hb hd (jm_cat1 hl) w)
theorem jm_dup2 {v w : jm_V} (hl : jm_lg v = false) (hl2 : jm_lg w = false) (hd : decode Y.2.1 pc = .ok (.dup2, 1)) (h : jm_G E Y R n' n cs sl (pc + 1) L (v :: w :: v :: w :: st) μ Q) : jm_G E Y R n' n cs sl pc L (v :: w :: st) μ Q :=
  jm_step h (fun q _ => jm_cons (q _ List.mem_cons_self) (jm_cons (q _ (List.mem_cons_of_mem _ List.mem_cons_self)) q)) (fun p e s m args below meth c Z H locs ls he hb _ _ _ _ _ w => lv_dup2_11 he hb hd (jm_cat1 hl) (jm_cat1 hl2) w)
/-! branches -/
theorem jm_goto {off : Int} {tgt : Nat} (hd : decode Y.2.1 pc = .ok (.goto off, 3)) (ht : (pc : Int) + off = (tgt : Int)) (h : jm_G E Y R n' n cs sl tgt L st μ Q) : jm_G E Y R n' n cs sl pc L st μ Q :=
  jm_step h (fun q _ => q) (fun p e s m args below meth c Z H locs ls he hb _ _ _ _ _ w => lv_goto he hb hd ht w)
theorem jm_br2 {st2 : List jm_V} {tgt fall : Nat} {c : Prop} (hst : (∀ v ∈ st2, jm_ok v) → ∀ v ∈ st, jm_ok v) (ht : c → jm_G E Y R n' n cs sl tgt L st μ Q) (hf : ¬ c → jm_G E Y R n' n cs sl fall L st μ Q)
    (hw : ∀ (p : Program) (e : Env) (s : State) (m : MethodId) (args : Array Value) (below : List Frame) (meth : Method) (cc : Code) (Z : State → Prop) (H : Heap) (locs : List Loc) (ls : Array Slot), p.tables.exec = Jvm.exec → cc.code = Y.2.1 → jm_X E s s.heap → (∀ v ∈ st2, jm_ok v) →
      (c → W p (jm_l E) e R s m args below meth cc H locs cs sl Z (F0 m tgt ls (st.map (jm_cv E)))) → (¬ c → W p (jm_l E) e R s m args below meth cc H locs cs sl Z (F0 m fall ls (st.map (jm_cv E)))) → W p (jm_l E) e R s m args below meth cc H locs cs sl Z (F0 m pc ls (st2.map (jm_cv E)))) :
    jm_G E Y R n' n cs sl pc L st2 μ Q := by
  intro p e s m args below meth cc Z H locs ls C hZ hR hS hl hL hs
  exact hw p e s m args below meth cc Z H locs ls C.1 C.2.1 C.2.2.2.2.2.2.2.2.1 hs (fun q => ht q p e s m args below meth cc Z H locs ls C hZ hR hS hl hL (hst hs)) (fun q => hf q p e s m args below meth cc Z H locs ls C hZ hR hS hl hL (hst hs))
theorem jm_0ok : jm_ok (jm_I 0) := ⟨by omega, by omega⟩
theorem jm_icmp_eq {a b off : Int} {tgt : Nat} (hd : decode Y.2.1 pc = .ok (.if_icmp .eq off, 3)) (ht : (pc : Int) + off = (tgt : Int)) (kt : a = b → jm_G E Y R n' n cs sl tgt L st μ Q) (kf : ¬ (a = b) → jm_G E Y R n' n cs sl (pc + 3) L st μ Q) : jm_G E Y R n' n cs sl pc L (jm_I b :: jm_I a :: st) μ Q :=
  jm_br2 jm_tail2 kt kf (fun p e s m args below meth cc Z H locs ls he hb _ hs kt kf => by
    have h1 := hs _ (List.mem_cons_of_mem _ List.mem_cons_self)
    have h2 := hs _ List.mem_cons_self
    exact lv_icmp_eq he hb hd ht (fun z => kt ((jm_eq32 h1 h2).mp z)) (fun z => kf (fun w => z ((jm_eq32 h1 h2).mpr w))))
theorem jm_icmp_ne {a b off : Int} {tgt : Nat} (hd : decode Y.2.1 pc = .ok (.if_icmp .ne off, 3)) (ht : (pc : Int) + off = (tgt : Int)) (kt : a ≠ b → jm_G E Y R n' n cs sl tgt L st μ Q) (kf : ¬ (a ≠ b) → jm_G E Y R n' n cs sl (pc + 3) L st μ Q) : jm_G E Y R n' n cs sl pc L (jm_I b :: jm_I a :: st) μ Q :=
  jm_br2 jm_tail2 kt kf (fun p e s m args below meth cc Z H locs ls he hb _ hs kt kf => by
    have h1 := hs _ (List.mem_cons_of_mem _ List.mem_cons_self)
    have h2 := hs _ List.mem_cons_self
    exact lv_icmp_ne he hb hd ht (fun z => kt (fun w => z ((jm_eq32 h1 h2).mpr w))) (fun z => kf (fun w => w ((jm_eq32 h1 h2).mp z))))
theorem jm_icmp_lt {a b off : Int} {tgt : Nat} (hd : decode Y.2.1 pc = .ok (.if_icmp .lt off, 3)) (ht : (pc : Int) + off = (tgt : Int)) (kt : a < b → jm_G E Y R n' n cs sl tgt L st μ Q) (kf : ¬ (a < b) → jm_G E Y R n' n cs sl (pc + 3) L st μ Q) : jm_G E Y R n' n cs sl pc L (jm_I b :: jm_I a :: st) μ Q :=
  jm_br2 jm_tail2 kt kf (fun p e s m args below meth cc Z H locs ls he hb _ hs kt kf => by
    have h1 := hs _ (List.mem_cons_of_mem _ List.mem_cons_self)
    have h2 := hs _ List.mem_cons_self
    exact lv_icmp_lt he hb hd ht (fun z => kt ((jm_lt32 h1 h2).mp z)) (fun z => kf (fun w => z ((jm_lt32 h1 h2).mpr w))))
theorem jm_icmp_ge {a b off : Int} {tgt : Nat} (hd : decode Y.2.1 pc = .ok (.if_icmp .ge off, 3)) (ht : (pc : Int) + off = (tgt : Int)) (kt : b ≤ a → jm_G E Y R n' n cs sl tgt L st μ Q) (kf : ¬ (b ≤ a) → jm_G E Y R n' n cs sl (pc + 3) L st μ Q) : jm_G E Y R n' n cs sl pc L (jm_I b :: jm_I a :: st) μ Q :=
  jm_br2 jm_tail2 kt kf (fun p e s m args below meth cc Z H locs ls he hb _ hs kt kf => by
    have h1 := hs _ (List.mem_cons_of_mem _ List.mem_cons_self)
    have h2 := hs _ List.mem_cons_self
    exact lv_icmp_ge he hb hd ht (fun z => kt ((jm_le32 h2 h1).mp z)) (fun z => kf (fun w => z ((jm_le32 h2 h1).mpr w))))
theorem jm_icmp_gt {a b off : Int} {tgt : Nat} (hd : decode Y.2.1 pc = .ok (.if_icmp .gt off, 3)) (ht : (pc : Int) + off = (tgt : Int)) (kt : b < a → jm_G E Y R n' n cs sl tgt L st μ Q) (kf : ¬ (b < a) → jm_G E Y R n' n cs sl (pc + 3) L st μ Q) : jm_G E Y R n' n cs sl pc L (jm_I b :: jm_I a :: st) μ Q :=
  jm_br2 jm_tail2 kt kf (fun p e s m args below meth cc Z H locs ls he hb _ hs kt kf => by
    have h1 := hs _ (List.mem_cons_of_mem _ List.mem_cons_self)
    have h2 := hs _ List.mem_cons_self
    exact lv_icmp_gt he hb hd ht (fun z => kt ((jm_lt32 h2 h1).mp z)) (fun z => kf (fun w => z ((jm_lt32 h2 h1).mpr w))))
theorem jm_icmp_le {a b off : Int} {tgt : Nat} (hd : decode Y.2.1 pc = .ok (.if_icmp .le off, 3)) (ht : (pc : Int) + off = (tgt : Int)) (kt : a ≤ b → jm_G E Y R n' n cs sl tgt L st μ Q) (kf : ¬ (a ≤ b) → jm_G E Y R n' n cs sl (pc + 3) L st μ Q) : jm_G E Y R n' n cs sl pc L (jm_I b :: jm_I a :: st) μ Q :=
  jm_br2 jm_tail2 kt kf (fun p e s m args below meth cc Z H locs ls he hb _ hs kt kf => by
    have h1 := hs _ (List.mem_cons_of_mem _ List.mem_cons_self)
    have h2 := hs _ List.mem_cons_self
    exact lv_icmp_le he hb hd ht (fun z => kt ((jm_le32 h1 h2).mp z)) (fun z => kf (fun w => z ((jm_le32 h1 h2).mpr w))))
theorem jm_if_eq {a off : Int} {tgt : Nat} (hd : decode Y.2.1 pc = .ok (.ifCond .eq off, 3)) (ht : (pc : Int) + off = (tgt : Int)) (kt : a = 0 → jm_G E Y R n' n cs sl tgt L st μ Q) (kf : ¬ (a = 0) → jm_G E Y R n' n cs sl (pc + 3) L st μ Q) : jm_G E Y R n' n cs sl pc L (jm_I a :: st) μ Q :=
  jm_br2 jm_tail kt kf (fun p e s m args below meth cc Z H locs ls he hb _ hs kt kf => by
    have h1 := hs _ List.mem_cons_self
    exact lv_if_eq he hb hd ht (fun z => kt ((jm_eq32 h1 jm_0ok).mp z)) (fun z => kf (fun w => z ((jm_eq32 h1 jm_0ok).mpr w))))
theorem jm_if_ne {a off : Int} {tgt : Nat} (hd : decode Y.2.1 pc = .ok (.ifCond .ne off, 3)) (ht : (pc : Int) + off = (tgt : Int)) (kt : a ≠ 0 → jm_G E Y R n' n cs sl tgt L st μ Q) (kf : ¬ (a ≠ 0) → jm_G E Y R n' n cs sl (pc + 3) L st μ Q) : jm_G E Y R n' n cs sl pc L (jm_I a :: st) μ Q :=
  jm_br2 jm_tail kt kf (fun p e s m args below meth cc Z H locs ls he hb _ hs kt kf => by
    have h1 := hs _ List.mem_cons_self
    exact lv_if_ne he hb hd ht (fun z => kt (fun w => z ((jm_eq32 h1 jm_0ok).mpr w))) (fun z => kf (fun w => w ((jm_eq32 h1 jm_0ok).mp z))))
theorem jm_if_lt {a off : Int} {tgt : Nat} (hd : decode Y.2.1 pc = .ok (.ifCond .lt off, 3)) (ht : (pc : Int) + off = (tgt : Int)) (kt : a < 0 → jm_G E Y R n' n cs sl tgt L st μ Q) (kf : ¬ (a < 0) → jm_G E Y R n' n cs sl (pc + 3) L st μ Q) : jm_G E Y R n' n cs sl pc L (jm_I a :: st) μ Q :=
  jm_br2 jm_tail kt kf (fun p e s m args below meth cc Z H locs ls he hb _ hs kt kf => by
    have h1 := hs _ List.mem_cons_self
    exact lv_if_lt he hb hd ht (fun z => kt ((jm_lt32 h1 jm_0ok).mp z)) (fun z => kf (fun w => z ((jm_lt32 h1 jm_0ok).mpr w))))
theorem jm_if_ge {a off : Int} {tgt : Nat} (hd : decode Y.2.1 pc = .ok (.ifCond .ge off, 3)) (ht : (pc : Int) + off = (tgt : Int)) (kt : 0 ≤ a → jm_G E Y R n' n cs sl tgt L st μ Q) (kf : ¬ (0 ≤ a) → jm_G E Y R n' n cs sl (pc + 3) L st μ Q) : jm_G E Y R n' n cs sl pc L (jm_I a :: st) μ Q :=
  jm_br2 jm_tail kt kf (fun p e s m args below meth cc Z H locs ls he hb _ hs kt kf => by
    have h1 := hs _ List.mem_cons_self
    exact lv_if_ge he hb hd ht (fun z => kt ((jm_le32 jm_0ok h1).mp z)) (fun z => kf (fun w => z ((jm_le32 jm_0ok h1).mpr w))))
theorem jm_if_gt {a off : Int} {tgt : Nat} (hd : decode Y.2.1 pc = .ok (.ifCond .gt off, 3)) (ht : (pc : Int) + off = (tgt : Int)) (kt : 0 < a → jm_G E Y R n' n cs sl tgt L st μ Q) (kf : ¬ (0 < a) → jm_G E Y R n' n cs sl (pc + 3) L st μ Q) : jm_G E Y R n' n cs sl pc L (jm_I a :: st) μ Q :=
  jm_br2 jm_tail kt kf (fun p e s m args below meth cc Z H locs ls he hb _ hs kt kf => by
    have h1 := hs _ List.mem_cons_self
    exact lv_if_gt he hb hd ht (fun z => kt ((jm_lt32 jm_0ok h1).mp z)) (fun z => kf (fun w => z ((jm_lt32 jm_0ok h1).mpr w))))
theorem jm_if_le {a off : Int} {tgt : Nat} (hd : decode Y.2.1 pc = .ok (.ifCond .le off, 3)) (ht : (pc : Int) + off = (tgt : Int)) (kt : a ≤ 0 → jm_G E Y R n' n cs sl tgt L st μ Q) (kf : ¬ (a ≤ 0) → jm_G E Y R n' n cs sl (pc + 3) L st μ Q) : jm_G E Y R n' n cs sl pc L (jm_I a :: st) μ Q :=
  jm_br2 jm_tail kt kf (fun p e s m args below meth cc Z H locs ls he hb _ hs kt kf => by
    have h1 := hs _ List.mem_cons_self
    exact lv_if_le he hb hd ht (fun z => kt ((jm_le32 h1 jm_0ok).mp z)) (fun z => kf (fun w => z ((jm_le32 h1 jm_0ok).mpr w))))
theorem jm_ifnull {a off : Int} {tgt : Nat} (hd : decode Y.2.1 pc = .ok (.ifnull off, 3)) (ht : (pc : Int) + off = (tgt : Int)) (kt : a = -1 → jm_G E Y R n' n cs sl tgt L st μ Q) (kf : ¬ (a = -1) → jm_G E Y R n' n cs sl (pc + 3) L st μ Q) : jm_G E Y R n' n cs sl pc L (jm_R a :: st) μ Q :=
  jm_br2 jm_tail kt kf (fun p e s m args below meth cc Z H locs ls he hb _ hs kt kf => by
    by_cases hz : a = -1
    · have e1 : jm_cv E (jm_R a) = .null := by simp [jm_cv, hz]
      rw [List.map_cons, e1]
      exact lv_ifnullN he hb hd ht (kt hz)
    · have e1 : jm_cv E (jm_R a) = .ref (jm_ad E a) := by simp [jm_cv, hz]
      rw [List.map_cons, e1]
      exact lv_ifnull he hb hd (kf hz))
theorem jm_ifnonnull {a off : Int} {tgt : Nat} (hd : decode Y.2.1 pc = .ok (.ifnonnull off, 3)) (ht : (pc : Int) + off = (tgt : Int)) (kt : ¬ (a = -1) → jm_G E Y R n' n cs sl tgt L st μ Q) (kf : ¬ ¬ (a = -1) → jm_G E Y R n' n cs sl (pc + 3) L st μ Q) : jm_G E Y R n' n cs sl pc L (jm_R a :: st) μ Q :=
  jm_br2 jm_tail kt kf (fun p e s m args below meth cc Z H locs ls he hb _ hs kt kf => by
    by_cases hz : a = -1
    · have e1 : jm_cv E (jm_R a) = .null := by simp [jm_cv, hz]
      rw [List.map_cons, e1]
      exact lv_ifnonnullN he hb hd (kf (fun w => w hz))
    · have e1 : jm_cv E (jm_R a) = .ref (jm_ad E a) := by simp [jm_cv, hz]
      rw [List.map_cons, e1]
      exact lv_ifnonnull he hb hd ht (kt hz))
/-- a place of one of Term's constants -/
def jm_it (a : Int) : Prop := -36 ≤ a ∧ a ≤ -11
theorem jm_acmp_ne {a b off : Int} {tgt : Nat} (hd : decode Y.2.1 pc = .ok (.if_acmp .ne off, 3)) (ht : (pc : Int) + off = (tgt : Int)) (ha : jm_it a) (hb2 : jm_it b) (kt : a ≠ b → jm_G E Y R n' n cs sl tgt L st μ Q) (kf : ¬ (a ≠ b) → jm_G E Y R n' n cs sl (pc + 3) L st μ Q) : jm_G E Y R n' n cs sl pc L (jm_R b :: jm_R a :: st) μ Q :=
  jm_br2 jm_tail2 kt kf (fun p e s m args below meth cc Z H locs ls he hb hX hs kt kf => by
    obtain ⟨a1, a2⟩ := ha
    obtain ⟨b1, b2⟩ := hb2
    have e1 : jm_cv E (jm_R a) = va_rf (some (jm_aT E (-11 - a).toNat)) := by
      show (if a = -1 then Value.null else Value.ref (jm_ad E a)) = _
      rw [if_neg (by omega)]
      unfold jm_ad
      rw [if_neg (by omega), if_neg (by omega), if_neg (by omega), if_neg (by omega), if_neg (by omega)]
      rfl
    have e2 : jm_cv E (jm_R b) = va_rf (some (jm_aT E (-11 - b).toNat)) := by
      show (if b = -1 then Value.null else Value.ref (jm_ad E b)) = _
      rw [if_neg (by omega)]
      unfold jm_ad
      rw [if_neg (by omega), if_neg (by omega), if_neg (by omega), if_neg (by omega), if_neg (by omega)]
      rfl
    rw [List.map_cons, List.map_cons, e1, e2]
    refine lv_acmp_ne he hb hd ht (fun z => kt (fun w => z (by rw [w]))) (fun z => kf (fun w => w ?_))
    have h1 := hX.1.2.1 _ _ (show (-11 - a).toNat < 26 by omega) (show (-11 - b).toNat < 26 by omega) (Option.some.inj z)
    omega)
theorem jm_table {dflt lo hi : Int} {offs : Array Int} {len tgt : Nat} {a off : Int} (hd : decode Y.2.1 pc = .ok (.tableswitch dflt lo hi offs, len)) (h1 : ¬ a < lo) (h2 : ¬ hi < a) (ho : offs[(a - lo).toNat]? = some off) (ht : (pc : Int) + off = (tgt : Int)) (h : jm_G E Y R n' n cs sl tgt L st μ Q) : jm_G E Y R n' n cs sl pc L (jm_I a :: st) μ Q :=
  jm_step h (fun q _ => jm_tail q) (fun p e s m args below meth c Z H locs ls he hb _ _ _ _ hs w => by
    have h3 := jm_ti (hs _ List.mem_cons_self)
    exact lv_tableIn he hb hd (by rw [h3]; exact h1) (by rw [h3]; exact h2) (by rw [h3]; exact ho) ht w)
theorem jm_tableD {dflt lo hi : Int} {offs : Array Int} {len tgt : Nat} {a : Int} (hd : decode Y.2.1 pc = .ok (.tableswitch dflt lo hi offs, len)) (h1 : a < lo ∨ hi < a) (ht : (pc : Int) + dflt = (tgt : Int)) (h : jm_G E Y R n' n cs sl tgt L st μ Q) : jm_G E Y R n' n cs sl pc L (jm_I a :: st) μ Q :=
  jm_step h (fun q _ => jm_tail q) (fun p e s m args below meth c Z H locs ls he hb _ _ _ _ hs w => by
    have h3 := jm_ti (hs _ List.mem_cons_self)
    exact lv_tableOut he hb hd (by rw [h3]; exact h1) ht w)
theorem jm_iinc {i : Nat} {k x v : Int} {L' : List (Option jm_V)} (hd : decode Y.2.1 pc = .ok (.iinc i k, 3)) (hv : L[i]? = some (some (jm_I x))) (hx : jm_wr (x + k) = v) (hi : i < Y.2.2.1) (hL' : jm_sto L i (jm_I v) = L') (h : jm_G E Y R n' n cs sl (pc + 3) L' st μ Q) : jm_G E Y R n' n cs sl pc L st μ Q := by
  intro p e s m args below meth c Z H locs ls C hZ hR hS hl hL hst
  have hm := jm_lo_mem (E := E) L 0 i _ hv
  rw [Nat.zero_add] at hm
  obtain ⟨j, hj⟩ := List.getElem?_of_mem hm
  have hvo : jm_ok (jm_I v) := by rw [← hx]; exact jm_ok32 _
  refine lv_iinc C.1 C.2.1 hd hl (k := j) (x := Int32.ofInt x) (v := Int32.ofInt v) hj (by rw [← hx, jm_wr_of, Int32.ofInt_add]) hi rfl (fun ls' hl' => ?_)
  subst hL'
  exact h p e s m args below meth c Z H locs ls' C hZ hR hS (jm_lv_mono hl' jm_lo_sto1) (jm_sto_ok hvo hL) hst
end JMT
