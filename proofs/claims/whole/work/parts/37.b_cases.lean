/-! the law's loop, each of its cases (gen_law.py) -/
theorem jm_Ch.mono {E : jm_E} {Y : jm_Y} {hh : List (Nat × Nat × Nat × Nat)} {d : Nat} {av : List jm_V} {μ : jm_M} {Q Q' : Option jm_V → jm_M → Prop} (h : jm_Ch E Y hh d av μ Q) (hq : ∀ o m, Q o m → jm_rok Y.2.2.2 o → Q' o m) : jm_Ch E Y hh d av μ Q' := by
  intro hav p e h1 h2 h3 s m args below h4 h5 h6 h7
  obtain ⟨k, o, a1, a2, a3, ⟨r, m1, b1, b2, b3, b4, b5⟩, a5⟩ := h hav p e h1 h2 h3 s m args below h4 h5 h6 h7
  exact ⟨k, o, a1, a2, a3, ⟨r, m1, b1, b2, b3, hq r m1 b4 b3, b5⟩, a5⟩
theorem jm_goodInW {y : MethodName} {b : ByteArray} {k : Nat} {r : Option FieldType} {hh : List (Nat × Nat × Nat × Nat)} {own : String} {idx : Nat} (h : Cond.codeWith y b k r hh ∈ jm_tbl) (h1 : Cond.methodLink own idx y ∈ jm_tbl) (h2 : Cond.static y ∈ jm_tbl) (h3 : Cond.initialized y.cls ∈ jm_tbl) : GoodIn jm_tbl (va_wsS own idx y (Cond.codeWith y b k r hh :: jm_tbl)) := by
  intro w hw
  have hm : w ∈ jm_tbl := by
    unfold va_wsS at hw
    rcases List.mem_append.mp hw with q | q
    · rcases List.mem_cons.mp q with rfl | q
      · exact h1
      · rcases List.mem_cons.mp q with rfl | q
        · exact h2
        · rcases List.mem_cons.mp q with rfl | q
          · exact h3
          · cases q
    · rcases List.mem_cons.mp q with rfl | q
      · exact h
      · exact q
  exact ⟨hm, good_of_word (List.mem_filter.mp hm).2⟩
section LW
variable {E : jm_E} {Y : jm_Y} {R : Room} {n' n cs sl pc C2 S2 : Nat} {L : List (Option jm_V)} {st : List jm_V} {μ : jm_M} {Q : Option jm_V → jm_M → Prop}
theorem jm_invH {Y' : jm_Y} {hh : List (Nat × Nat × Nat × Nat)} {idx k d : Nat} {av : List jm_V} {stf : List jm_V} (hcw : Cond.codeWith Y'.1 Y'.2.1 Y'.2.2.1 Y'.2.2.2 hh ∈ jm_tbl) (hsta : Cond.static Y'.1 ∈ jm_tbl) (hini : Cond.initialized Y'.1.cls ∈ jm_tbl) (hy : Y'.1.cls ≠ "java/lang/invoke/MethodHandle" ∧ Y'.1.cls ≠ "java/lang/invoke/VarHandle" ∧ (parseMethodDescriptor Y'.1.desc).map (fun d => d.parameters.length) = some k) (hml : Y'.2.2.1 ≤ 25)
    (hlink : Cond.methodLink Y.1.cls idx Y'.1 ∈ jm_tbl) (hd : decode Y.2.1 pc = .ok (.invokestatic idx, 3)) (hlen : av.length = k) (hroom : cs + 1 ≤ C2 ∧ sl + 6 ≤ S2) (hrest : st.length ≤ 4) (hst : stf = av.reverse ++ st)
    (h : jm_Ch E Y' hh d av μ (fun o m1 => jm_rok Y'.2.2.2 o → jm_G E Y (jm_rm (d + 1) C2 S2) n' jm_N (cs + 1) (sl + 6) (pc + 3) L (o.toList ++ st) m1 Q)) : jm_G E Y (jm_rm (d + 1) C2 S2) n' jm_N cs sl pc L stf μ Q := by
  subst hst
  intro p e s m args below meth c Z H locs ls C hZ hR hS hl hL hst
  have hts := C.2.2.2.2.1
  have hM := h (fun w hw => hst w (List.mem_append_left _ (List.mem_reverse.mpr hw)))
  rw [List.map_append, List.map_reverse]
  refine jm_after (vx_runSW (As := av.map (jm_cv E)) (rest := st.map (jm_cv E)) ⟨C.1, C.2.1, C.2.2.1, C.2.2.2.1, hts⟩ hM (vx_cwSW k hts (jm_goodInW hcw hlink hsta hini) rfl rfl rfl hy ⟨Nat.le_refl _, by show 8 + (Y'.2.2.1 + 11) + 44 * d ≤ 44 * (d + 1); omega⟩) ⟨jm_blind, jm_enter C hR hS⟩ rfl (by rw [List.length_map]; exact hlen) hl.1 rfl (lv_room (jm_catsum st hrest)) hd hroom) hS (fun o m1 H1 locs1 hQ ho hrok hR1 hS1 => ?_)
  have h2 := hQ hrok p e s m args below meth c Z H1 locs1 ls C hZ hR1 hS1 hl hL (jm_okst hst ho)
  rw [List.map_append] at h2
  have e1 : (o.map (jm_cv E)).toList = o.toList.map (jm_cv E) := by cases o <;> rfl
  rw [e1]
  exact h2
theorem jm_wid {cs' sl' : Nat} (h1 : cs ≤ cs') (h2 : sl ≤ sl') (h : jm_G E Y R n' n cs' sl' pc L st μ Q) : jm_G E Y R n' n cs sl pc L st μ Q := fun p e s m args below meth c Z H locs ls C hZ hR hS hl hL hst => W.widen h1 h2 (h p e s m args below meth c Z H locs ls C hZ hR hS hl hL hst)
theorem jl_b {v k : Int} {N : Nat} (hN : N < 2147483648) (b0 : 0 ≤ v) (b1 : v + 6 ≤ N) (k0 : 0 ≤ k) (k5 : k ≤ 5) : 0 ≤ jm_wr (v + k) ∧ jm_wr (v + k) < N := by
  rw [jm_wr_id (by omega) (by omega)]
  omega
variable {v : Int}

theorem q_law_204 (hN : jm_sL E < 2147483648) (b0 : 0 ≤ v) (b1 : v + 6 ≤ (jm_sL E : Int)) (hc : cs + 1 ≤ C2) (hs : sl + 6 ≤ S2) (hI : jI μ) (k : ∀ ν, jI ν → jm_G E m_L_law (jm_rm 61 C2 S2) jm_N jm_N (cs + 1) (sl + 6) 1335 [some (jm_R (-2)), some (jm_R 0), some (jm_R 133), some (jm_R 164), some (jm_I v), none, none] [] ν Q) : jm_G E m_L_law (jm_rm 61 C2 S2) jm_N jm_N cs sl 204 [some (jm_R (-2)), some (jm_R 0), some (jm_R 133), some (jm_R 164), some (jm_I v), none, none] [] μ Q := by
  refine jm_aloadn d_L_law_204 rfl ?_
  refine jm_aloadn d_L_law_205 rfl ?_
  refine jm_iload d_L_law_206 rfl ?_
  refine jm_iconst (v := 1) d_L_law_208 rfl (jm_okI (by decide) (by decide)) ?_
  refine jm_iadd d_L_law_209 ?_
  refine jm_sld d_L_law_210 (jl_b hN b0 b1 (k := 1) (by decide) (by decide)).1 (jl_b hN b0 b1 (k := 1) (by decide) (by decide)).2 ?_
  refine jm_aloadn d_L_law_211 rfl ?_
  refine jm_iload d_L_law_212 rfl ?_
  refine jm_iconst (v := 2) d_L_law_214 rfl (jm_okI (by decide) (by decide)) ?_
  refine jm_iadd d_L_law_215 ?_
  refine jm_sld d_L_law_216 (jl_b hN b0 b1 (k := 2) (by decide) (by decide)).1 (jl_b hN b0 b1 (k := 2) (by decide) (by decide)).2 ?_
  refine jm_aloadn d_L_law_217 rfl ?_
  refine jm_iload d_L_law_218 rfl ?_
  refine jm_iconst (v := 3) d_L_law_220 rfl (jm_okI (by decide) (by decide)) ?_
  refine jm_iadd d_L_law_221 ?_
  refine jm_sld d_L_law_222 (jl_b hN b0 b1 (k := 3) (by decide) (by decide)).1 (jl_b hN b0 b1 (k := 3) (by decide) (by decide)).2 ?_
  refine jm_aloadn d_L_law_223 rfl ?_
  refine jm_iload d_L_law_224 rfl ?_
  refine jm_iconst (v := 4) d_L_law_226 rfl (jm_okI (by decide) (by decide)) ?_
  refine jm_iadd d_L_law_227 ?_
  refine jm_sld d_L_law_228 (jl_b hN b0 b1 (k := 4) (by decide) (by decide)).1 (jl_b hN b0 b1 (k := 4) (by decide) (by decide)).2 ?_
  refine jm_aloadn d_L_law_229 rfl ?_
  refine jm_iload d_L_law_230 rfl ?_
  refine jm_iconst (v := 5) d_L_law_232 rfl (jm_okI (by decide) (by decide)) ?_
  refine jm_iadd d_L_law_233 ?_
  refine jm_sld d_L_law_234 (jl_b hN b0 b1 (k := 5) (by decide) (by decide)).1 (jl_b hN b0 b1 (k := 5) (by decide) (by decide)).2 ?_
  refine jm_invV (d := 60) (n1 := jm_N) (mc := 0) (ms := 0) (av := [jm_I _, jm_I _, jm_I _, jm_I _, jm_I _]) w_X10_feed l_L_22 d_L_law_235 rfl is_0 ⟨_, _, rfl⟩ ⟨by omega, by omega⟩ (Nat.le_of_ble_eq_true rfl) rfl ?_
  refine jm_Cl.mono (jS_feed hI) (fun o m h hr _ => ?_)
  obtain ⟨r, rfl⟩ := jm_rokI hr
  have h := h r rfl
  refine jm_aloadn d_L_law_238 rfl ?_
  refine jm_aloadn d_L_law_239 rfl ?_
  refine jm_iload d_L_law_240 rfl ?_
  refine jm_iconst (v := 1) d_L_law_242 rfl (jm_okI (by decide) (by decide)) ?_
  refine jm_iadd d_L_law_243 ?_
  refine jm_sld d_L_law_244 (jl_b hN b0 b1 (k := 1) (by decide) (by decide)).1 (jl_b hN b0 b1 (k := 1) (by decide) (by decide)).2 ?_
  refine jm_aloadn d_L_law_245 rfl ?_
  refine jm_iload d_L_law_246 rfl ?_
  refine jm_iconst (v := 2) d_L_law_248 rfl (jm_okI (by decide) (by decide)) ?_
  refine jm_iadd d_L_law_249 ?_
  refine jm_sld d_L_law_250 (jl_b hN b0 b1 (k := 2) (by decide) (by decide)).1 (jl_b hN b0 b1 (k := 2) (by decide) (by decide)).2 ?_
  refine jm_aloadn d_L_law_251 rfl ?_
  refine jm_iload d_L_law_252 rfl ?_
  refine jm_iconst (v := 3) d_L_law_254 rfl (jm_okI (by decide) (by decide)) ?_
  refine jm_iadd d_L_law_255 ?_
  refine jm_sld d_L_law_256 (jl_b hN b0 b1 (k := 3) (by decide) (by decide)).1 (jl_b hN b0 b1 (k := 3) (by decide) (by decide)).2 ?_
  refine jm_aloadn d_L_law_257 rfl ?_
  refine jm_iload d_L_law_258 rfl ?_
  refine jm_iconst (v := 4) d_L_law_260 rfl (jm_okI (by decide) (by decide)) ?_
  refine jm_iadd d_L_law_261 ?_
  refine jm_sld d_L_law_262 (jl_b hN b0 b1 (k := 4) (by decide) (by decide)).1 (jl_b hN b0 b1 (k := 4) (by decide) (by decide)).2 ?_
  refine jm_aloadn d_L_law_263 rfl ?_
  refine jm_iload d_L_law_264 rfl ?_
  refine jm_iconst (v := 5) d_L_law_266 rfl (jm_okI (by decide) (by decide)) ?_
  refine jm_iadd d_L_law_267 ?_
  refine jm_sld d_L_law_268 (jl_b hN b0 b1 (k := 5) (by decide) (by decide)).1 (jl_b hN b0 b1 (k := 5) (by decide) (by decide)).2 ?_
  refine jm_invV (d := 60) (n1 := jm_N) (mc := 0) (ms := 0) (av := [jm_I _, jm_I _, jm_I _, jm_I _, jm_I _]) w_X11_feed l_L_26 d_L_law_269 rfl is_133 ⟨_, _, rfl⟩ ⟨by omega, by omega⟩ (Nat.le_of_ble_eq_true rfl) rfl ?_
  refine jm_Cl.mono h (fun o m2 h _ _ => ?_)
  obtain ⟨rfl, hJ⟩ := h
  exact jm_icmp_eq (tgt := 1335) d_L_law_272 (by decide) (fun _ => jm_wid (Nat.le_succ _) (Nat.le_add_right _ 6) (k m2 hJ)) (fun z => absurd rfl z)
theorem q_law_277 (hN : jm_sL E < 2147483648) (b0 : 0 ≤ v) (b1 : v + 6 ≤ (jm_sL E : Int)) (hc : cs + 1 ≤ C2) (hs : sl + 6 ≤ S2) (hI : jI μ) (k : ∀ ν, jI ν → jm_G E m_L_law (jm_rm 61 C2 S2) jm_N jm_N (cs + 1) (sl + 6) 1335 [some (jm_R (-2)), some (jm_R 0), some (jm_R 133), some (jm_R 164), some (jm_I v), none, none] [] ν Q) : jm_G E m_L_law (jm_rm 61 C2 S2) jm_N jm_N cs sl 277 [some (jm_R (-2)), some (jm_R 0), some (jm_R 133), some (jm_R 164), some (jm_I v), none, none] [] μ Q := by
  refine jm_aloadn d_L_law_277 rfl ?_
  refine jm_aloadn d_L_law_278 rfl ?_
  refine jm_iload d_L_law_279 rfl ?_
  refine jm_iconst (v := 1) d_L_law_281 rfl (jm_okI (by decide) (by decide)) ?_
  refine jm_iadd d_L_law_282 ?_
  refine jm_sld d_L_law_283 (jl_b hN b0 b1 (k := 1) (by decide) (by decide)).1 (jl_b hN b0 b1 (k := 1) (by decide) (by decide)).2 ?_
  refine jm_invV (d := 60) (n1 := jm_N) (mc := 0) (ms := 0) (av := [jm_I _]) w_X10_end l_L_27 d_L_law_284 rfl is_0 ⟨_, _, rfl⟩ ⟨by omega, by omega⟩ (Nat.le_of_ble_eq_true rfl) rfl ?_
  refine jm_Cl.mono (jS_end hI) (fun o m h hr _ => ?_)
  obtain ⟨r, rfl, -⟩ := jm_rokZ hr
  have h := h r rfl
  refine jm_aloadn d_L_law_287 rfl ?_
  refine jm_aloadn d_L_law_288 rfl ?_
  refine jm_iload d_L_law_289 rfl ?_
  refine jm_iconst (v := 1) d_L_law_291 rfl (jm_okI (by decide) (by decide)) ?_
  refine jm_iadd d_L_law_292 ?_
  refine jm_sld d_L_law_293 (jl_b hN b0 b1 (k := 1) (by decide) (by decide)).1 (jl_b hN b0 b1 (k := 1) (by decide) (by decide)).2 ?_
  refine jm_invV (d := 60) (n1 := jm_N) (mc := 0) (ms := 0) (av := [jm_I _]) w_X11_end l_L_31 d_L_law_294 rfl is_133 ⟨_, _, rfl⟩ ⟨by omega, by omega⟩ (Nat.le_of_ble_eq_true rfl) rfl ?_
  refine jm_Cl.mono h (fun o m2 h _ _ => ?_)
  obtain ⟨rfl, hJ⟩ := h
  exact jm_icmp_eq (tgt := 1335) d_L_law_297 (by decide) (fun _ => jm_wid (Nat.le_succ _) (Nat.le_add_right _ 6) (k m2 hJ)) (fun z => absurd rfl z)
theorem q_law_302 (hN : jm_sL E < 2147483648) (b0 : 0 ≤ v) (b1 : v + 6 ≤ (jm_sL E : Int)) (hc : cs + 1 ≤ C2) (hs : sl + 6 ≤ S2) (hI : jI μ) (k : ∀ ν, jI ν → jm_G E m_L_law (jm_rm 61 C2 S2) jm_N jm_N (cs + 1) (sl + 6) 1335 [some (jm_R (-2)), some (jm_R 0), some (jm_R 133), some (jm_R 164), some (jm_I v), none, none] [] ν Q) : jm_G E m_L_law (jm_rm 61 C2 S2) jm_N jm_N cs sl 302 [some (jm_R (-2)), some (jm_R 0), some (jm_R 133), some (jm_R 164), some (jm_I v), none, none] [] μ Q := by
  refine jm_aloadn d_L_law_302 rfl ?_
  refine jm_invV (d := 60) (n1 := jm_N) (mc := 0) (ms := 0) (av := []) w_X10_table l_L_32 d_L_law_303 rfl is_0 ⟨_, _, rfl⟩ ⟨by omega, by omega⟩ (Nat.le_of_ble_eq_true rfl) rfl ?_
  refine jm_Cl.mono (jS_table hI) (fun o m h hr _ => ?_)
  obtain ⟨r, rfl⟩ := jm_rokI hr
  have h := h r rfl
  refine jm_aloadn d_L_law_306 rfl ?_
  refine jm_invV (d := 60) (n1 := jm_N) (mc := 0) (ms := 0) (av := []) w_X11_table l_L_36 d_L_law_307 rfl is_133 ⟨_, _, rfl⟩ ⟨by omega, by omega⟩ (Nat.le_of_ble_eq_true rfl) rfl ?_
  refine jm_Cl.mono h (fun o m2 h _ _ => ?_)
  obtain ⟨rfl, hJ⟩ := h
  exact jm_icmp_eq (tgt := 1335) d_L_law_310 (by decide) (fun _ => jm_wid (Nat.le_succ _) (Nat.le_add_right _ 6) (k m2 hJ)) (fun z => absurd rfl z)
theorem q_law_315 (hN : jm_sL E < 2147483648) (b0 : 0 ≤ v) (b1 : v + 6 ≤ (jm_sL E : Int)) (hc : cs + 1 ≤ C2) (hs : sl + 6 ≤ S2) (hI : jI μ) (k : ∀ ν, jI ν → jm_G E m_L_law (jm_rm 61 C2 S2) jm_N jm_N (cs + 1) (sl + 6) 1335 [some (jm_R (-2)), some (jm_R 0), some (jm_R 133), some (jm_R 164), some (jm_I v), none, none] [] ν Q) : jm_G E m_L_law (jm_rm 61 C2 S2) jm_N jm_N cs sl 315 [some (jm_R (-2)), some (jm_R 0), some (jm_R 133), some (jm_R 164), some (jm_I v), none, none] [] μ Q := by
  refine jm_aloadn d_L_law_315 rfl ?_
  refine jm_invV (d := 60) (n1 := jm_N) (mc := 0) (ms := 0) (av := []) w_X10_fault l_L_37 d_L_law_316 rfl is_0 ⟨_, _, rfl⟩ ⟨by omega, by omega⟩ (Nat.le_of_ble_eq_true rfl) rfl ?_
  refine jm_Cl.mono (jS_fault hI) (fun o m h hr _ => ?_)
  obtain ⟨r, rfl⟩ := jm_rokI hr
  have h := h r rfl
  refine jm_aloadn d_L_law_319 rfl ?_
  refine jm_invV (d := 60) (n1 := jm_N) (mc := 0) (ms := 0) (av := []) w_X11_fault l_L_40 d_L_law_320 rfl is_133 ⟨_, _, rfl⟩ ⟨by omega, by omega⟩ (Nat.le_of_ble_eq_true rfl) rfl ?_
  refine jm_Cl.mono h (fun o m2 h _ _ => ?_)
  obtain ⟨rfl, hJ⟩ := h
  exact jm_icmp_eq (tgt := 1335) d_L_law_323 (by decide) (fun _ => jm_wid (Nat.le_succ _) (Nat.le_add_right _ 6) (k m2 hJ)) (fun z => absurd rfl z)
theorem q_law_328 (hN : jm_sL E < 2147483648) (b0 : 0 ≤ v) (b1 : v + 6 ≤ (jm_sL E : Int)) (hc : cs + 1 ≤ C2) (hs : sl + 6 ≤ S2) (hI : jI μ) (k : ∀ ν, jI ν → jm_G E m_L_law (jm_rm 61 C2 S2) jm_N jm_N (cs + 1) (sl + 6) 1335 [some (jm_R (-2)), some (jm_R 0), some (jm_R 133), some (jm_R 164), some (jm_I v), none, none] [] ν Q) : jm_G E m_L_law (jm_rm 61 C2 S2) jm_N jm_N cs sl 328 [some (jm_R (-2)), some (jm_R 0), some (jm_R 133), some (jm_R 164), some (jm_I v), none, none] [] μ Q := by
  refine jm_aloadn d_L_law_328 rfl ?_
  refine jm_aloadn d_L_law_329 rfl ?_
  refine jm_iload d_L_law_330 rfl ?_
  refine jm_iconst (v := 1) d_L_law_332 rfl (jm_okI (by decide) (by decide)) ?_
  refine jm_iadd d_L_law_333 ?_
  refine jm_sld d_L_law_334 (jl_b hN b0 b1 (k := 1) (by decide) (by decide)).1 (jl_b hN b0 b1 (k := 1) (by decide) (by decide)).2 ?_
  refine jm_invV (d := 60) (n1 := jm_N) (mc := 0) (ms := 0) (av := [jm_I _]) w_X10_rank l_L_41 d_L_law_335 rfl is_0 ⟨_, _, rfl⟩ ⟨by omega, by omega⟩ (Nat.le_of_ble_eq_true rfl) rfl ?_
  refine jm_Cl.mono (jS_rank hI) (fun o m h hr _ => ?_)
  obtain ⟨r, rfl⟩ := jm_rokI hr
  have h := h r rfl
  refine jm_aloadn d_L_law_338 rfl ?_
  refine jm_aloadn d_L_law_339 rfl ?_
  refine jm_iload d_L_law_340 rfl ?_
  refine jm_iconst (v := 1) d_L_law_342 rfl (jm_okI (by decide) (by decide)) ?_
  refine jm_iadd d_L_law_343 ?_
  refine jm_sld d_L_law_344 (jl_b hN b0 b1 (k := 1) (by decide) (by decide)).1 (jl_b hN b0 b1 (k := 1) (by decide) (by decide)).2 ?_
  refine jm_invV (d := 60) (n1 := jm_N) (mc := 0) (ms := 0) (av := [jm_I _]) w_X11_rank l_L_45 d_L_law_345 rfl is_133 ⟨_, _, rfl⟩ ⟨by omega, by omega⟩ (Nat.le_of_ble_eq_true rfl) rfl ?_
  refine jm_Cl.mono h (fun o m2 h _ _ => ?_)
  obtain ⟨rfl, hJ⟩ := h
  exact jm_icmp_eq (tgt := 1335) d_L_law_348 (by decide) (fun _ => jm_wid (Nat.le_succ _) (Nat.le_add_right _ 6) (k m2 hJ)) (fun z => absurd rfl z)
theorem q_law_353 (hN : jm_sL E < 2147483648) (b0 : 0 ≤ v) (b1 : v + 6 ≤ (jm_sL E : Int)) (hc : cs + 1 ≤ C2) (hs : sl + 6 ≤ S2) (hI : jI μ) (k : ∀ ν, jI ν → jm_G E m_L_law (jm_rm 61 C2 S2) jm_N jm_N (cs + 1) (sl + 6) 1335 [some (jm_R (-2)), some (jm_R 0), some (jm_R 133), some (jm_R 164), some (jm_I v), none, none] [] ν Q) : jm_G E m_L_law (jm_rm 61 C2 S2) jm_N jm_N cs sl 353 [some (jm_R (-2)), some (jm_R 0), some (jm_R 133), some (jm_R 164), some (jm_I v), none, none] [] μ Q := by
  refine jm_aloadn d_L_law_353 rfl ?_
  refine jm_aloadn d_L_law_354 rfl ?_
  refine jm_iload d_L_law_355 rfl ?_
  refine jm_iconst (v := 1) d_L_law_357 rfl (jm_okI (by decide) (by decide)) ?_
  refine jm_iadd d_L_law_358 ?_
  refine jm_sld d_L_law_359 (jl_b hN b0 b1 (k := 1) (by decide) (by decide)).1 (jl_b hN b0 b1 (k := 1) (by decide) (by decide)).2 ?_
  refine jm_aloadn d_L_law_360 rfl ?_
  refine jm_iload d_L_law_361 rfl ?_
  refine jm_iconst (v := 2) d_L_law_363 rfl (jm_okI (by decide) (by decide)) ?_
  refine jm_iadd d_L_law_364 ?_
  refine jm_sld d_L_law_365 (jl_b hN b0 b1 (k := 2) (by decide) (by decide)).1 (jl_b hN b0 b1 (k := 2) (by decide) (by decide)).2 ?_
  refine jm_aloadn d_L_law_366 rfl ?_
  refine jm_invH (d := 60) (k := 4) (av := [jm_R _, jm_I _, jm_I _, jm_R _]) cw_L_kind st_L_kind in_L ⟨by decide +kernel, by decide +kernel, by decide +kernel⟩ (Nat.le_of_ble_eq_true rfl) l_L_46 d_L_law_367 rfl ⟨hc, hs⟩ (Nat.le_of_ble_eq_true rfl) rfl ?_
  refine jm_Ch.mono (jS_kind hI) (fun o m h hr _ => ?_)
  obtain ⟨r, rfl⟩ := jm_rokI hr
  have h := h r rfl
  refine jm_istore (L' := [some (jm_R (-2)), some (jm_R 0), some (jm_R 133), some (jm_R 164), some (jm_I v), some (jm_I _), none]) d_L_law_370 (Nat.le_of_ble_eq_true rfl) rfl ?_
  refine jm_aloadn d_L_law_372 rfl ?_
  refine jm_aloadn d_L_law_373 rfl ?_
  refine jm_iload d_L_law_374 rfl ?_
  refine jm_iconst (v := 1) d_L_law_376 rfl (jm_okI (by decide) (by decide)) ?_
  refine jm_iadd d_L_law_377 ?_
  refine jm_sld d_L_law_378 (jl_b hN b0 b1 (k := 1) (by decide) (by decide)).1 (jl_b hN b0 b1 (k := 1) (by decide) (by decide)).2 ?_
  refine jm_aloadn d_L_law_379 rfl ?_
  refine jm_iload d_L_law_380 rfl ?_
  refine jm_iconst (v := 2) d_L_law_382 rfl (jm_okI (by decide) (by decide)) ?_
  refine jm_iadd d_L_law_383 ?_
  refine jm_sld d_L_law_384 (jl_b hN b0 b1 (k := 2) (by decide) (by decide)).1 (jl_b hN b0 b1 (k := 2) (by decide) (by decide)).2 ?_
  refine jm_invV (d := 60) (n1 := jm_N) (mc := 0) (ms := 0) (av := [jm_I _, jm_I _]) w_X11_kind l_L_51 d_L_law_385 rfl is_133 ⟨_, _, rfl⟩ ⟨by omega, by omega⟩ (Nat.le_of_ble_eq_true rfl) rfl ?_
  refine jm_Cl.mono h (fun o m2 h hr2 _ => ?_)
  obtain ⟨b, rfl⟩ := jm_rokI hr2
  have h := h b rfl
  refine jm_istore (L' := [some (jm_R (-2)), some (jm_R 0), some (jm_R 133), some (jm_R 164), some (jm_I v), some (jm_I _), some (jm_I _)]) d_L_law_388 (Nat.le_of_ble_eq_true rfl) rfl ?_
  refine jm_aloadn d_L_law_390 rfl ?_
  refine jm_invV (d := 60) (n1 := jm_N) (mc := 0) (ms := 0) (av := []) w_X11_thrown l_L_52 d_L_law_391 rfl is_133 ⟨_, _, rfl⟩ ⟨by omega, by omega⟩ (Nat.le_of_ble_eq_true rfl) rfl ?_
  refine jm_Cl.mono h (fun o m3 h _ _ => ?_)
  obtain ⟨rfl, hb, hJ⟩ := h
  refine jm_iload d_L_law_394 rfl ?_
  refine jm_icmp_eq (tgt := 401) d_L_law_396 (by decide) (fun _ => ?_) (fun z => absurd rfl z)
  refine jm_iload d_L_law_401 rfl ?_
  have fin : jm_G E m_L_law (jm_rm 61 C2 S2) jm_N jm_N (cs + 1) (sl + 6) 418 [some (jm_R (-2)), some (jm_R 0), some (jm_R 133), some (jm_R 164), some (jm_I v), some (jm_I r), some (jm_I b)] [] m3 Q := jm_goto (tgt := 1335) d_L_law_418 (by decide) (jm_weak2 (k m3 hJ) (And.intro rfl (And.intro rfl (And.intro rfl (And.intro rfl (And.intro rfl trivial))))))
  refine jm_if_ne (tgt := 418) d_L_law_403 (by decide) (fun _ => fin) (fun z => ?_)
  have e0 : m3 164 0 = b := hb (Decidable.not_not.mp z)
  refine jm_aloadn d_L_law_406 rfl ?_
  refine jm_iconst (v := 0) d_L_law_407 rfl (jm_okI (by decide) (by decide)) ?_
  refine jm_laload d_L_law_408 (ixl_164 (by decide) (by decide)) ?_
  refine jm_iload d_L_law_409 rfl ?_
  refine jm_i2l d_L_law_411 ?_
  refine jm_lcmp d_L_law_412 ?_
  exact jm_if_eq (tgt := 418) d_L_law_413 (by decide) (fun _ => fin) (fun z => absurd (by rw [e0]; unfold jm_cmp; rw [if_neg (Int.lt_irrefl _), if_pos rfl]) z)
theorem q_law_421 (hN : jm_sL E < 2147483648) (b0 : 0 ≤ v) (b1 : v + 6 ≤ (jm_sL E : Int)) (hc : cs + 1 ≤ C2) (hs : sl + 6 ≤ S2) (hI : jI μ) (k : ∀ ν, jI ν → jm_G E m_L_law (jm_rm 61 C2 S2) jm_N jm_N (cs + 1) (sl + 6) 1335 [some (jm_R (-2)), some (jm_R 0), some (jm_R 133), some (jm_R 164), some (jm_I v), none, none] [] ν Q) : jm_G E m_L_law (jm_rm 61 C2 S2) jm_N jm_N cs sl 421 [some (jm_R (-2)), some (jm_R 0), some (jm_R 133), some (jm_R 164), some (jm_I v), none, none] [] μ Q := by
  refine jm_aloadn d_L_law_421 rfl ?_
  refine jm_aloadn d_L_law_422 rfl ?_
  refine jm_iload d_L_law_423 rfl ?_
  refine jm_iconst (v := 1) d_L_law_425 rfl (jm_okI (by decide) (by decide)) ?_
  refine jm_iadd d_L_law_426 ?_
  refine jm_sld d_L_law_427 (jl_b hN b0 b1 (k := 1) (by decide) (by decide)).1 (jl_b hN b0 b1 (k := 1) (by decide) (by decide)).2 ?_
  refine jm_aloadn d_L_law_428 rfl ?_
  refine jm_iload d_L_law_429 rfl ?_
  refine jm_iconst (v := 2) d_L_law_431 rfl (jm_okI (by decide) (by decide)) ?_
  refine jm_iadd d_L_law_432 ?_
  refine jm_sld d_L_law_433 (jl_b hN b0 b1 (k := 2) (by decide) (by decide)).1 (jl_b hN b0 b1 (k := 2) (by decide) (by decide)).2 ?_
  refine jm_invV (d := 60) (n1 := jm_N) (mc := 0) (ms := 0) (av := [jm_I _, jm_I _]) w_X10_say l_L_55 d_L_law_434 rfl is_0 ⟨_, _, rfl⟩ ⟨by omega, by omega⟩ (Nat.le_of_ble_eq_true rfl) rfl ?_
  refine jm_Cl.mono (jS_say hI) (fun o m h hr _ => ?_)
  obtain ⟨r, rfl⟩ := jm_rokI hr
  have h := h r rfl
  refine jm_aloadn d_L_law_437 rfl ?_
  refine jm_aloadn d_L_law_438 rfl ?_
  refine jm_iload d_L_law_439 rfl ?_
  refine jm_iconst (v := 1) d_L_law_441 rfl (jm_okI (by decide) (by decide)) ?_
  refine jm_iadd d_L_law_442 ?_
  refine jm_sld d_L_law_443 (jl_b hN b0 b1 (k := 1) (by decide) (by decide)).1 (jl_b hN b0 b1 (k := 1) (by decide) (by decide)).2 ?_
  refine jm_aloadn d_L_law_444 rfl ?_
  refine jm_iload d_L_law_445 rfl ?_
  refine jm_iconst (v := 2) d_L_law_447 rfl (jm_okI (by decide) (by decide)) ?_
  refine jm_iadd d_L_law_448 ?_
  refine jm_sld d_L_law_449 (jl_b hN b0 b1 (k := 2) (by decide) (by decide)).1 (jl_b hN b0 b1 (k := 2) (by decide) (by decide)).2 ?_
  refine jm_invV (d := 60) (n1 := jm_N) (mc := 0) (ms := 0) (av := [jm_I _, jm_I _]) w_X11_say l_L_58 d_L_law_450 rfl is_133 ⟨_, _, rfl⟩ ⟨by omega, by omega⟩ (Nat.le_of_ble_eq_true rfl) rfl ?_
  refine jm_Cl.mono h (fun o m2 h _ _ => ?_)
  obtain ⟨rfl, hJ⟩ := h
  exact jm_icmp_eq (tgt := 1335) d_L_law_453 (by decide) (fun _ => jm_wid (Nat.le_succ _) (Nat.le_add_right _ 6) (k m2 hJ)) (fun z => absurd rfl z)
theorem q_law_458 (hN : jm_sL E < 2147483648) (b0 : 0 ≤ v) (b1 : v + 6 ≤ (jm_sL E : Int)) (hc : cs + 1 ≤ C2) (hs : sl + 6 ≤ S2) (hI : jI μ) (k : ∀ ν, jI ν → jm_G E m_L_law (jm_rm 61 C2 S2) jm_N jm_N (cs + 1) (sl + 6) 1335 [some (jm_R (-2)), some (jm_R 0), some (jm_R 133), some (jm_R 164), some (jm_I v), none, none] [] ν Q) : jm_G E m_L_law (jm_rm 61 C2 S2) jm_N jm_N cs sl 458 [some (jm_R (-2)), some (jm_R 0), some (jm_R 133), some (jm_R 164), some (jm_I v), none, none] [] μ Q := by
  refine jm_aloadn d_L_law_458 rfl ?_
  refine jm_aloadn d_L_law_459 rfl ?_
  refine jm_iload d_L_law_460 rfl ?_
  refine jm_iconst (v := 1) d_L_law_462 rfl (jm_okI (by decide) (by decide)) ?_
  refine jm_iadd d_L_law_463 ?_
  refine jm_sld d_L_law_464 (jl_b hN b0 b1 (k := 1) (by decide) (by decide)).1 (jl_b hN b0 b1 (k := 1) (by decide) (by decide)).2 ?_
  refine jm_aloadn d_L_law_465 rfl ?_
  refine jm_iload d_L_law_466 rfl ?_
  refine jm_iconst (v := 2) d_L_law_468 rfl (jm_okI (by decide) (by decide)) ?_
  refine jm_iadd d_L_law_469 ?_
  refine jm_sld d_L_law_470 (jl_b hN b0 b1 (k := 2) (by decide) (by decide)).1 (jl_b hN b0 b1 (k := 2) (by decide) (by decide)).2 ?_
  refine jm_invV (d := 60) (n1 := jm_N) (mc := 0) (ms := 0) (av := [jm_I _, jm_I _]) w_X10_wrong l_L_59 d_L_law_471 rfl is_0 ⟨_, _, rfl⟩ ⟨by omega, by omega⟩ (Nat.le_of_ble_eq_true rfl) rfl ?_
  refine jm_Cl.mono (jS_wrong hI) (fun o m h hr _ => ?_)
  obtain ⟨r, rfl⟩ := jm_rokI hr
  have h := h r rfl
  refine jm_aloadn d_L_law_474 rfl ?_
  refine jm_aloadn d_L_law_475 rfl ?_
  refine jm_iload d_L_law_476 rfl ?_
  refine jm_iconst (v := 1) d_L_law_478 rfl (jm_okI (by decide) (by decide)) ?_
  refine jm_iadd d_L_law_479 ?_
  refine jm_sld d_L_law_480 (jl_b hN b0 b1 (k := 1) (by decide) (by decide)).1 (jl_b hN b0 b1 (k := 1) (by decide) (by decide)).2 ?_
  refine jm_aloadn d_L_law_481 rfl ?_
  refine jm_iload d_L_law_482 rfl ?_
  refine jm_iconst (v := 2) d_L_law_484 rfl (jm_okI (by decide) (by decide)) ?_
  refine jm_iadd d_L_law_485 ?_
  refine jm_sld d_L_law_486 (jl_b hN b0 b1 (k := 2) (by decide) (by decide)).1 (jl_b hN b0 b1 (k := 2) (by decide) (by decide)).2 ?_
  refine jm_invV (d := 60) (n1 := jm_N) (mc := 0) (ms := 0) (av := [jm_I _, jm_I _]) w_X11_wrong l_L_62 d_L_law_487 rfl is_133 ⟨_, _, rfl⟩ ⟨by omega, by omega⟩ (Nat.le_of_ble_eq_true rfl) rfl ?_
  refine jm_Cl.mono h (fun o m2 h _ _ => ?_)
  obtain ⟨rfl, hJ⟩ := h
  exact jm_icmp_eq (tgt := 1335) d_L_law_490 (by decide) (fun _ => jm_wid (Nat.le_succ _) (Nat.le_add_right _ 6) (k m2 hJ)) (fun z => absurd rfl z)
theorem q_law_495 (hN : jm_sL E < 2147483648) (b0 : 0 ≤ v) (b1 : v + 6 ≤ (jm_sL E : Int)) (hc : cs + 1 ≤ C2) (hs : sl + 6 ≤ S2) (hI : jI μ) (k : ∀ ν, jI ν → jm_G E m_L_law (jm_rm 61 C2 S2) jm_N jm_N (cs + 1) (sl + 6) 1335 [some (jm_R (-2)), some (jm_R 0), some (jm_R 133), some (jm_R 164), some (jm_I v), none, none] [] ν Q) : jm_G E m_L_law (jm_rm 61 C2 S2) jm_N jm_N cs sl 495 [some (jm_R (-2)), some (jm_R 0), some (jm_R 133), some (jm_R 164), some (jm_I v), none, none] [] μ Q := by
  refine jm_aloadn d_L_law_495 rfl ?_
  refine jm_aloadn d_L_law_496 rfl ?_
  refine jm_iload d_L_law_497 rfl ?_
  refine jm_iconst (v := 1) d_L_law_499 rfl (jm_okI (by decide) (by decide)) ?_
  refine jm_iadd d_L_law_500 ?_
  refine jm_sld d_L_law_501 (jl_b hN b0 b1 (k := 1) (by decide) (by decide)).1 (jl_b hN b0 b1 (k := 1) (by decide) (by decide)).2 ?_
  refine jm_invV (d := 60) (n1 := jm_N) (mc := 0) (ms := 0) (av := [jm_I _]) w_X10_may l_L_63 d_L_law_502 rfl is_0 ⟨_, _, rfl⟩ ⟨by omega, by omega⟩ (Nat.le_of_ble_eq_true rfl) rfl ?_
  refine jm_Cl.mono (jS_may hI) (fun o m h hr _ => ?_)
  obtain ⟨r, rfl⟩ := jm_rokI hr
  have h := h r rfl
  refine jm_aloadn d_L_law_505 rfl ?_
  refine jm_aloadn d_L_law_506 rfl ?_
  refine jm_iload d_L_law_507 rfl ?_
  refine jm_iconst (v := 1) d_L_law_509 rfl (jm_okI (by decide) (by decide)) ?_
  refine jm_iadd d_L_law_510 ?_
  refine jm_sld d_L_law_511 (jl_b hN b0 b1 (k := 1) (by decide) (by decide)).1 (jl_b hN b0 b1 (k := 1) (by decide) (by decide)).2 ?_
  refine jm_invV (d := 60) (n1 := jm_N) (mc := 0) (ms := 0) (av := [jm_I _]) w_X11_may l_L_66 d_L_law_512 rfl is_133 ⟨_, _, rfl⟩ ⟨by omega, by omega⟩ (Nat.le_of_ble_eq_true rfl) rfl ?_
  refine jm_Cl.mono h (fun o m2 h _ _ => ?_)
  obtain ⟨rfl, hJ⟩ := h
  exact jm_icmp_eq (tgt := 1335) d_L_law_515 (by decide) (fun _ => jm_wid (Nat.le_succ _) (Nat.le_add_right _ 6) (k m2 hJ)) (fun z => absurd rfl z)
theorem q_law_520 (hN : jm_sL E < 2147483648) (b0 : 0 ≤ v) (b1 : v + 6 ≤ (jm_sL E : Int)) (hc : cs + 1 ≤ C2) (hs : sl + 6 ≤ S2) (hI : jI μ) (k : ∀ ν, jI ν → jm_G E m_L_law (jm_rm 61 C2 S2) jm_N jm_N (cs + 1) (sl + 6) 1335 [some (jm_R (-2)), some (jm_R 0), some (jm_R 133), some (jm_R 164), some (jm_I v), none, none] [] ν Q) : jm_G E m_L_law (jm_rm 61 C2 S2) jm_N jm_N cs sl 520 [some (jm_R (-2)), some (jm_R 0), some (jm_R 133), some (jm_R 164), some (jm_I v), none, none] [] μ Q := by
  refine jm_aloadn d_L_law_520 rfl ?_
  refine jm_invV (d := 60) (n1 := jm_N) (mc := 0) (ms := 0) (av := []) w_X10_undo l_L_67 d_L_law_521 rfl is_0 ⟨_, _, rfl⟩ ⟨by omega, by omega⟩ (Nat.le_of_ble_eq_true rfl) rfl ?_
  refine jm_Cl.mono (jS_undo hI) (fun o m h hr _ => ?_)
  obtain ⟨r, rfl⟩ := jm_rokI hr
  have h := h r rfl
  refine jm_aloadn d_L_law_524 rfl ?_
  refine jm_invV (d := 60) (n1 := jm_N) (mc := 0) (ms := 0) (av := []) w_X11_undo l_L_70 d_L_law_525 rfl is_133 ⟨_, _, rfl⟩ ⟨by omega, by omega⟩ (Nat.le_of_ble_eq_true rfl) rfl ?_
  refine jm_Cl.mono h (fun o m2 h _ _ => ?_)
  obtain ⟨rfl, hJ⟩ := h
  exact jm_icmp_eq (tgt := 1335) d_L_law_528 (by decide) (fun _ => jm_wid (Nat.le_succ _) (Nat.le_add_right _ 6) (k m2 hJ)) (fun z => absurd rfl z)
theorem q_law_533 (hN : jm_sL E < 2147483648) (b0 : 0 ≤ v) (b1 : v + 6 ≤ (jm_sL E : Int)) (hc : cs + 1 ≤ C2) (hs : sl + 6 ≤ S2) (hI : jI μ) (k : ∀ ν, jI ν → jm_G E m_L_law (jm_rm 61 C2 S2) jm_N jm_N (cs + 1) (sl + 6) 1335 [some (jm_R (-2)), some (jm_R 0), some (jm_R 133), some (jm_R 164), some (jm_I v), none, none] [] ν Q) : jm_G E m_L_law (jm_rm 61 C2 S2) jm_N jm_N cs sl 533 [some (jm_R (-2)), some (jm_R 0), some (jm_R 133), some (jm_R 164), some (jm_I v), none, none] [] μ Q := by
  refine jm_aloadn d_L_law_533 rfl ?_
  refine jm_invV (d := 60) (n1 := jm_N) (mc := 0) (ms := 0) (av := []) w_X10_talk l_L_71 d_L_law_534 rfl is_0 ⟨_, _, rfl⟩ ⟨by omega, by omega⟩ (Nat.le_of_ble_eq_true rfl) rfl ?_
  refine jm_Cl.mono (jS_talk hI) (fun o m h hr _ => ?_)
  obtain ⟨r, rfl⟩ := jm_rokI hr
  have h := h r rfl
  refine jm_aloadn d_L_law_537 rfl ?_
  refine jm_invV (d := 60) (n1 := jm_N) (mc := 0) (ms := 0) (av := []) w_X11_talk l_L_74 d_L_law_538 rfl is_133 ⟨_, _, rfl⟩ ⟨by omega, by omega⟩ (Nat.le_of_ble_eq_true rfl) rfl ?_
  refine jm_Cl.mono h (fun o m2 h _ _ => ?_)
  obtain ⟨rfl, hJ⟩ := h
  exact jm_icmp_eq (tgt := 1335) d_L_law_541 (by decide) (fun _ => jm_wid (Nat.le_succ _) (Nat.le_add_right _ 6) (k m2 hJ)) (fun z => absurd rfl z)
theorem q_law_546 (hN : jm_sL E < 2147483648) (b0 : 0 ≤ v) (b1 : v + 6 ≤ (jm_sL E : Int)) (hc : cs + 1 ≤ C2) (hs : sl + 6 ≤ S2) (hI : jI μ) (k : ∀ ν, jI ν → jm_G E m_L_law (jm_rm 61 C2 S2) jm_N jm_N (cs + 1) (sl + 6) 1335 [some (jm_R (-2)), some (jm_R 0), some (jm_R 133), some (jm_R 164), some (jm_I v), none, none] [] ν Q) : jm_G E m_L_law (jm_rm 61 C2 S2) jm_N jm_N cs sl 546 [some (jm_R (-2)), some (jm_R 0), some (jm_R 133), some (jm_R 164), some (jm_I v), none, none] [] μ Q := by
  refine jm_aloadn d_L_law_546 rfl ?_
  refine jm_invV (d := 60) (n1 := jm_N) (mc := 0) (ms := 0) (av := []) w_X10_why l_L_75 d_L_law_547 rfl is_0 ⟨_, _, rfl⟩ ⟨by omega, by omega⟩ (Nat.le_of_ble_eq_true rfl) rfl ?_
  refine jm_Cl.mono (jS_why hI) (fun o m h hr _ => ?_)
  obtain ⟨r, rfl⟩ := jm_rokI hr
  have h := h r rfl
  refine jm_aloadn d_L_law_550 rfl ?_
  refine jm_invV (d := 60) (n1 := jm_N) (mc := 0) (ms := 0) (av := []) w_X11_why l_L_78 d_L_law_551 rfl is_133 ⟨_, _, rfl⟩ ⟨by omega, by omega⟩ (Nat.le_of_ble_eq_true rfl) rfl ?_
  refine jm_Cl.mono h (fun o m2 h _ _ => ?_)
  obtain ⟨rfl, hJ⟩ := h
  exact jm_icmp_eq (tgt := 1335) d_L_law_554 (by decide) (fun _ => jm_wid (Nat.le_succ _) (Nat.le_add_right _ 6) (k m2 hJ)) (fun z => absurd rfl z)
theorem q_law_559 (hN : jm_sL E < 2147483648) (b0 : 0 ≤ v) (b1 : v + 6 ≤ (jm_sL E : Int)) (hc : cs + 1 ≤ C2) (hs : sl + 6 ≤ S2) (hI : jI μ) (k : ∀ ν, jI ν → jm_G E m_L_law (jm_rm 61 C2 S2) jm_N jm_N (cs + 1) (sl + 6) 1335 [some (jm_R (-2)), some (jm_R 0), some (jm_R 133), some (jm_R 164), some (jm_I v), none, none] [] ν Q) : jm_G E m_L_law (jm_rm 61 C2 S2) jm_N jm_N cs sl 559 [some (jm_R (-2)), some (jm_R 0), some (jm_R 133), some (jm_R 164), some (jm_I v), none, none] [] μ Q := by
  refine jm_aloadn d_L_law_559 rfl ?_
  refine jm_aloadn d_L_law_560 rfl ?_
  refine jm_iload d_L_law_561 rfl ?_
  refine jm_iconst (v := 1) d_L_law_563 rfl (jm_okI (by decide) (by decide)) ?_
  refine jm_iadd d_L_law_564 ?_
  refine jm_sld d_L_law_565 (jl_b hN b0 b1 (k := 1) (by decide) (by decide)).1 (jl_b hN b0 b1 (k := 1) (by decide) (by decide)).2 ?_
  refine jm_aloadn d_L_law_566 rfl ?_
  refine jm_iload d_L_law_567 rfl ?_
  refine jm_iconst (v := 2) d_L_law_569 rfl (jm_okI (by decide) (by decide)) ?_
  refine jm_iadd d_L_law_570 ?_
  refine jm_sld d_L_law_571 (jl_b hN b0 b1 (k := 2) (by decide) (by decide)).1 (jl_b hN b0 b1 (k := 2) (by decide) (by decide)).2 ?_
  refine jm_aloadn d_L_law_572 rfl ?_
  refine jm_invH (d := 60) (k := 4) (av := [jm_R _, jm_I _, jm_I _, jm_R _]) cw_L_word st_L_word in_L ⟨by decide +kernel, by decide +kernel, by decide +kernel⟩ (Nat.le_of_ble_eq_true rfl) l_L_79 d_L_law_573 rfl ⟨hc, hs⟩ (Nat.le_of_ble_eq_true rfl) rfl ?_
  refine jm_Ch.mono (jS_word hI) (fun o m h hr _ => ?_)
  obtain ⟨r, rfl⟩ := jm_rokI hr
  have h := h r rfl
  refine jm_istore (L' := [some (jm_R (-2)), some (jm_R 0), some (jm_R 133), some (jm_R 164), some (jm_I v), some (jm_I _), none]) d_L_law_576 (Nat.le_of_ble_eq_true rfl) rfl ?_
  refine jm_aloadn d_L_law_578 rfl ?_
  refine jm_aloadn d_L_law_579 rfl ?_
  refine jm_iload d_L_law_580 rfl ?_
  refine jm_iconst (v := 1) d_L_law_582 rfl (jm_okI (by decide) (by decide)) ?_
  refine jm_iadd d_L_law_583 ?_
  refine jm_sld d_L_law_584 (jl_b hN b0 b1 (k := 1) (by decide) (by decide)).1 (jl_b hN b0 b1 (k := 1) (by decide) (by decide)).2 ?_
  refine jm_aloadn d_L_law_585 rfl ?_
  refine jm_iload d_L_law_586 rfl ?_
  refine jm_iconst (v := 2) d_L_law_588 rfl (jm_okI (by decide) (by decide)) ?_
  refine jm_iadd d_L_law_589 ?_
  refine jm_sld d_L_law_590 (jl_b hN b0 b1 (k := 2) (by decide) (by decide)).1 (jl_b hN b0 b1 (k := 2) (by decide) (by decide)).2 ?_
  refine jm_invV (d := 60) (n1 := jm_N) (mc := 0) (ms := 0) (av := [jm_I _, jm_I _]) w_X11_word l_L_81 d_L_law_591 rfl is_133 ⟨_, _, rfl⟩ ⟨by omega, by omega⟩ (Nat.le_of_ble_eq_true rfl) rfl ?_
  refine jm_Cl.mono h (fun o m2 h hr2 _ => ?_)
  obtain ⟨b, rfl⟩ := jm_rokI hr2
  have h := h b rfl
  refine jm_istore (L' := [some (jm_R (-2)), some (jm_R 0), some (jm_R 133), some (jm_R 164), some (jm_I v), some (jm_I _), some (jm_I _)]) d_L_law_594 (Nat.le_of_ble_eq_true rfl) rfl ?_
  refine jm_aloadn d_L_law_596 rfl ?_
  refine jm_invV (d := 60) (n1 := jm_N) (mc := 0) (ms := 0) (av := []) w_X11_thrown l_L_52 d_L_law_597 rfl is_133 ⟨_, _, rfl⟩ ⟨by omega, by omega⟩ (Nat.le_of_ble_eq_true rfl) rfl ?_
  refine jm_Cl.mono h (fun o m3 h _ _ => ?_)
  obtain ⟨rfl, hb, hJ⟩ := h
  refine jm_iload d_L_law_600 rfl ?_
  refine jm_icmp_eq (tgt := 607) d_L_law_602 (by decide) (fun _ => ?_) (fun z => absurd rfl z)
  refine jm_iload d_L_law_607 rfl ?_
  have fin : jm_G E m_L_law (jm_rm 61 C2 S2) jm_N jm_N (cs + 1) (sl + 6) 624 [some (jm_R (-2)), some (jm_R 0), some (jm_R 133), some (jm_R 164), some (jm_I v), some (jm_I r), some (jm_I b)] [] m3 Q := jm_goto (tgt := 1335) d_L_law_624 (by decide) (jm_weak2 (k m3 hJ) (And.intro rfl (And.intro rfl (And.intro rfl (And.intro rfl (And.intro rfl trivial))))))
  refine jm_if_ne (tgt := 624) d_L_law_609 (by decide) (fun _ => fin) (fun z => ?_)
  have e0 : m3 164 0 = b := hb (Decidable.not_not.mp z)
  refine jm_aloadn d_L_law_612 rfl ?_
  refine jm_iconst (v := 0) d_L_law_613 rfl (jm_okI (by decide) (by decide)) ?_
  refine jm_laload d_L_law_614 (ixl_164 (by decide) (by decide)) ?_
  refine jm_iload d_L_law_615 rfl ?_
  refine jm_i2l d_L_law_617 ?_
  refine jm_lcmp d_L_law_618 ?_
  exact jm_if_eq (tgt := 624) d_L_law_619 (by decide) (fun _ => fin) (fun z => absurd (by rw [e0]; unfold jm_cmp; rw [if_neg (Int.lt_irrefl _), if_pos rfl]) z)
theorem q_law_627 (hN : jm_sL E < 2147483648) (b0 : 0 ≤ v) (b1 : v + 6 ≤ (jm_sL E : Int)) (hc : cs + 1 ≤ C2) (hs : sl + 6 ≤ S2) (hI : jI μ) (k : ∀ ν, jI ν → jm_G E m_L_law (jm_rm 61 C2 S2) jm_N jm_N (cs + 1) (sl + 6) 1335 [some (jm_R (-2)), some (jm_R 0), some (jm_R 133), some (jm_R 164), some (jm_I v), none, none] [] ν Q) : jm_G E m_L_law (jm_rm 61 C2 S2) jm_N jm_N cs sl 627 [some (jm_R (-2)), some (jm_R 0), some (jm_R 133), some (jm_R 164), some (jm_I v), none, none] [] μ Q := by
  refine jm_aloadn d_L_law_627 rfl ?_
  refine jm_invV (d := 60) (n1 := jm_N) (mc := 0) (ms := 0) (av := []) w_X10_threads l_L_82 d_L_law_628 rfl is_0 ⟨_, _, rfl⟩ ⟨by omega, by omega⟩ (Nat.le_of_ble_eq_true rfl) rfl ?_
  refine jm_Cl.mono (jS_threads hI) (fun o m h hr _ => ?_)
  obtain ⟨r, rfl⟩ := jm_rokI hr
  have h := h r rfl
  refine jm_aloadn d_L_law_631 rfl ?_
  refine jm_invV (d := 60) (n1 := jm_N) (mc := 0) (ms := 0) (av := []) w_X11_threads l_L_85 d_L_law_632 rfl is_133 ⟨_, _, rfl⟩ ⟨by omega, by omega⟩ (Nat.le_of_ble_eq_true rfl) rfl ?_
  refine jm_Cl.mono h (fun o m2 h _ _ => ?_)
  obtain ⟨rfl, hJ⟩ := h
  exact jm_icmp_eq (tgt := 1335) d_L_law_635 (by decide) (fun _ => jm_wid (Nat.le_succ _) (Nat.le_add_right _ 6) (k m2 hJ)) (fun z => absurd rfl z)
theorem q_law_640 (hN : jm_sL E < 2147483648) (b0 : 0 ≤ v) (b1 : v + 6 ≤ (jm_sL E : Int)) (hc : cs + 1 ≤ C2) (hs : sl + 6 ≤ S2) (hI : jI μ) (k : ∀ ν, jI ν → jm_G E m_L_law (jm_rm 61 C2 S2) jm_N jm_N (cs + 1) (sl + 6) 1335 [some (jm_R (-2)), some (jm_R 0), some (jm_R 133), some (jm_R 164), some (jm_I v), none, none] [] ν Q) : jm_G E m_L_law (jm_rm 61 C2 S2) jm_N jm_N cs sl 640 [some (jm_R (-2)), some (jm_R 0), some (jm_R 133), some (jm_R 164), some (jm_I v), none, none] [] μ Q := by
  refine jm_aloadn d_L_law_640 rfl ?_
  refine jm_aloadn d_L_law_641 rfl ?_
  refine jm_iload d_L_law_642 rfl ?_
  refine jm_iconst (v := 1) d_L_law_644 rfl (jm_okI (by decide) (by decide)) ?_
  refine jm_iadd d_L_law_645 ?_
  refine jm_sld d_L_law_646 (jl_b hN b0 b1 (k := 1) (by decide) (by decide)).1 (jl_b hN b0 b1 (k := 1) (by decide) (by decide)).2 ?_
  refine jm_aloadn d_L_law_647 rfl ?_
  refine jm_iload d_L_law_648 rfl ?_
  refine jm_iconst (v := 2) d_L_law_650 rfl (jm_okI (by decide) (by decide)) ?_
  refine jm_iadd d_L_law_651 ?_
  refine jm_sld d_L_law_652 (jl_b hN b0 b1 (k := 2) (by decide) (by decide)).1 (jl_b hN b0 b1 (k := 2) (by decide) (by decide)).2 ?_
  refine jm_invV (d := 60) (n1 := jm_N) (mc := 0) (ms := 0) (av := [jm_I _, jm_I _]) w_X10_thread l_L_86 d_L_law_653 rfl is_0 ⟨_, _, rfl⟩ ⟨by omega, by omega⟩ (Nat.le_of_ble_eq_true rfl) rfl ?_
  refine jm_Cl.mono (jS_thread hI) (fun o m h hr _ => ?_)
  obtain ⟨r, rfl⟩ := jm_rokI hr
  have h := h r rfl
  refine jm_aloadn d_L_law_656 rfl ?_
  refine jm_aloadn d_L_law_657 rfl ?_
  refine jm_iload d_L_law_658 rfl ?_
  refine jm_iconst (v := 1) d_L_law_660 rfl (jm_okI (by decide) (by decide)) ?_
  refine jm_iadd d_L_law_661 ?_
  refine jm_sld d_L_law_662 (jl_b hN b0 b1 (k := 1) (by decide) (by decide)).1 (jl_b hN b0 b1 (k := 1) (by decide) (by decide)).2 ?_
  refine jm_aloadn d_L_law_663 rfl ?_
  refine jm_iload d_L_law_664 rfl ?_
  refine jm_iconst (v := 2) d_L_law_666 rfl (jm_okI (by decide) (by decide)) ?_
  refine jm_iadd d_L_law_667 ?_
  refine jm_sld d_L_law_668 (jl_b hN b0 b1 (k := 2) (by decide) (by decide)).1 (jl_b hN b0 b1 (k := 2) (by decide) (by decide)).2 ?_
  refine jm_invV (d := 60) (n1 := jm_N) (mc := 0) (ms := 0) (av := [jm_I _, jm_I _]) w_X11_thread l_L_89 d_L_law_669 rfl is_133 ⟨_, _, rfl⟩ ⟨by omega, by omega⟩ (Nat.le_of_ble_eq_true rfl) rfl ?_
  refine jm_Cl.mono h (fun o m2 h _ _ => ?_)
  obtain ⟨rfl, hJ⟩ := h
  exact jm_icmp_eq (tgt := 1335) d_L_law_672 (by decide) (fun _ => jm_wid (Nat.le_succ _) (Nat.le_add_right _ 6) (k m2 hJ)) (fun z => absurd rfl z)
theorem q_law_677 (hN : jm_sL E < 2147483648) (b0 : 0 ≤ v) (b1 : v + 6 ≤ (jm_sL E : Int)) (hc : cs + 1 ≤ C2) (hs : sl + 6 ≤ S2) (hI : jI μ) (k : ∀ ν, jI ν → jm_G E m_L_law (jm_rm 61 C2 S2) jm_N jm_N (cs + 1) (sl + 6) 1335 [some (jm_R (-2)), some (jm_R 0), some (jm_R 133), some (jm_R 164), some (jm_I v), none, none] [] ν Q) : jm_G E m_L_law (jm_rm 61 C2 S2) jm_N jm_N cs sl 677 [some (jm_R (-2)), some (jm_R 0), some (jm_R 133), some (jm_R 164), some (jm_I v), none, none] [] μ Q := by
  refine jm_aloadn d_L_law_677 rfl ?_
  refine jm_aloadn d_L_law_678 rfl ?_
  refine jm_iload d_L_law_679 rfl ?_
  refine jm_iconst (v := 1) d_L_law_681 rfl (jm_okI (by decide) (by decide)) ?_
  refine jm_iadd d_L_law_682 ?_
  refine jm_sld d_L_law_683 (jl_b hN b0 b1 (k := 1) (by decide) (by decide)).1 (jl_b hN b0 b1 (k := 1) (by decide) (by decide)).2 ?_
  refine jm_aloadn d_L_law_684 rfl ?_
  refine jm_iload d_L_law_685 rfl ?_
  refine jm_iconst (v := 2) d_L_law_687 rfl (jm_okI (by decide) (by decide)) ?_
  refine jm_iadd d_L_law_688 ?_
  refine jm_sld d_L_law_689 (jl_b hN b0 b1 (k := 2) (by decide) (by decide)).1 (jl_b hN b0 b1 (k := 2) (by decide) (by decide)).2 ?_
  refine jm_invV (d := 60) (n1 := jm_N) (mc := 0) (ms := 0) (av := [jm_I _, jm_I _]) w_X10_with l_L_90 d_L_law_690 rfl is_0 ⟨_, _, rfl⟩ ⟨by omega, by omega⟩ (Nat.le_of_ble_eq_true rfl) rfl ?_
  refine jm_Cl.mono (jS_with hI) (fun o m h hr _ => ?_)
  obtain ⟨r, rfl⟩ := jm_rokI hr
  have h := h r rfl
  refine jm_aloadn d_L_law_693 rfl ?_
  refine jm_aloadn d_L_law_694 rfl ?_
  refine jm_iload d_L_law_695 rfl ?_
  refine jm_iconst (v := 1) d_L_law_697 rfl (jm_okI (by decide) (by decide)) ?_
  refine jm_iadd d_L_law_698 ?_
  refine jm_sld d_L_law_699 (jl_b hN b0 b1 (k := 1) (by decide) (by decide)).1 (jl_b hN b0 b1 (k := 1) (by decide) (by decide)).2 ?_
  refine jm_aloadn d_L_law_700 rfl ?_
  refine jm_iload d_L_law_701 rfl ?_
  refine jm_iconst (v := 2) d_L_law_703 rfl (jm_okI (by decide) (by decide)) ?_
  refine jm_iadd d_L_law_704 ?_
  refine jm_sld d_L_law_705 (jl_b hN b0 b1 (k := 2) (by decide) (by decide)).1 (jl_b hN b0 b1 (k := 2) (by decide) (by decide)).2 ?_
  refine jm_invV (d := 60) (n1 := jm_N) (mc := 0) (ms := 0) (av := [jm_I _, jm_I _]) w_X11_with l_L_93 d_L_law_706 rfl is_133 ⟨_, _, rfl⟩ ⟨by omega, by omega⟩ (Nat.le_of_ble_eq_true rfl) rfl ?_
  refine jm_Cl.mono h (fun o m2 h _ _ => ?_)
  obtain ⟨rfl, hJ⟩ := h
  exact jm_icmp_eq (tgt := 1335) d_L_law_709 (by decide) (fun _ => jm_wid (Nat.le_succ _) (Nat.le_add_right _ 6) (k m2 hJ)) (fun z => absurd rfl z)
theorem q_law_714 (hN : jm_sL E < 2147483648) (b0 : 0 ≤ v) (b1 : v + 6 ≤ (jm_sL E : Int)) (hc : cs + 1 ≤ C2) (hs : sl + 6 ≤ S2) (hI : jI μ) (k : ∀ ν, jI ν → jm_G E m_L_law (jm_rm 61 C2 S2) jm_N jm_N (cs + 1) (sl + 6) 1335 [some (jm_R (-2)), some (jm_R 0), some (jm_R 133), some (jm_R 164), some (jm_I v), none, none] [] ν Q) : jm_G E m_L_law (jm_rm 61 C2 S2) jm_N jm_N cs sl 714 [some (jm_R (-2)), some (jm_R 0), some (jm_R 133), some (jm_R 164), some (jm_I v), none, none] [] μ Q := by
  refine jm_aloadn d_L_law_714 rfl ?_
  refine jm_aloadn d_L_law_715 rfl ?_
  refine jm_iload d_L_law_716 rfl ?_
  refine jm_iconst (v := 1) d_L_law_718 rfl (jm_okI (by decide) (by decide)) ?_
  refine jm_iadd d_L_law_719 ?_
  refine jm_sld d_L_law_720 (jl_b hN b0 b1 (k := 1) (by decide) (by decide)).1 (jl_b hN b0 b1 (k := 1) (by decide) (by decide)).2 ?_
  refine jm_aloadn d_L_law_721 rfl ?_
  refine jm_iload d_L_law_722 rfl ?_
  refine jm_iconst (v := 2) d_L_law_724 rfl (jm_okI (by decide) (by decide)) ?_
  refine jm_iadd d_L_law_725 ?_
  refine jm_sld d_L_law_726 (jl_b hN b0 b1 (k := 2) (by decide) (by decide)).1 (jl_b hN b0 b1 (k := 2) (by decide) (by decide)).2 ?_
  refine jm_aloadn d_L_law_727 rfl ?_
  refine jm_iload d_L_law_728 rfl ?_
  refine jm_iconst (v := 3) d_L_law_730 rfl (jm_okI (by decide) (by decide)) ?_
  refine jm_iadd d_L_law_731 ?_
  refine jm_sld d_L_law_732 (jl_b hN b0 b1 (k := 3) (by decide) (by decide)).1 (jl_b hN b0 b1 (k := 3) (by decide) (by decide)).2 ?_
  refine jm_invV (d := 60) (n1 := jm_N) (mc := 0) (ms := 0) (av := [jm_I _, jm_I _, jm_I _]) w_X10_promised l_L_94 d_L_law_733 rfl is_0 ⟨_, _, rfl⟩ ⟨by omega, by omega⟩ (Nat.le_of_ble_eq_true rfl) rfl ?_
  refine jm_Cl.mono (jS_promised hI) (fun o m h hr _ => ?_)
  obtain ⟨r, rfl⟩ := jm_rokI hr
  have h := h r rfl
  refine jm_aloadn d_L_law_736 rfl ?_
  refine jm_aloadn d_L_law_737 rfl ?_
  refine jm_iload d_L_law_738 rfl ?_
  refine jm_iconst (v := 1) d_L_law_740 rfl (jm_okI (by decide) (by decide)) ?_
  refine jm_iadd d_L_law_741 ?_
  refine jm_sld d_L_law_742 (jl_b hN b0 b1 (k := 1) (by decide) (by decide)).1 (jl_b hN b0 b1 (k := 1) (by decide) (by decide)).2 ?_
  refine jm_aloadn d_L_law_743 rfl ?_
  refine jm_iload d_L_law_744 rfl ?_
  refine jm_iconst (v := 2) d_L_law_746 rfl (jm_okI (by decide) (by decide)) ?_
  refine jm_iadd d_L_law_747 ?_
  refine jm_sld d_L_law_748 (jl_b hN b0 b1 (k := 2) (by decide) (by decide)).1 (jl_b hN b0 b1 (k := 2) (by decide) (by decide)).2 ?_
  refine jm_aloadn d_L_law_749 rfl ?_
  refine jm_iload d_L_law_750 rfl ?_
  refine jm_iconst (v := 3) d_L_law_752 rfl (jm_okI (by decide) (by decide)) ?_
  refine jm_iadd d_L_law_753 ?_
  refine jm_sld d_L_law_754 (jl_b hN b0 b1 (k := 3) (by decide) (by decide)).1 (jl_b hN b0 b1 (k := 3) (by decide) (by decide)).2 ?_
  refine jm_invV (d := 60) (n1 := jm_N) (mc := 0) (ms := 0) (av := [jm_I _, jm_I _, jm_I _]) w_X11_promised l_L_98 d_L_law_755 rfl is_133 ⟨_, _, rfl⟩ ⟨by omega, by omega⟩ (Nat.le_of_ble_eq_true rfl) rfl ?_
  refine jm_Cl.mono h (fun o m2 h _ _ => ?_)
  obtain ⟨rfl, hJ⟩ := h
  exact jm_icmp_eq (tgt := 1335) d_L_law_758 (by decide) (fun _ => jm_wid (Nat.le_succ _) (Nat.le_add_right _ 6) (k m2 hJ)) (fun z => absurd rfl z)
theorem q_law_763 (hN : jm_sL E < 2147483648) (b0 : 0 ≤ v) (b1 : v + 6 ≤ (jm_sL E : Int)) (hc : cs + 1 ≤ C2) (hs : sl + 6 ≤ S2) (hI : jI μ) (k : ∀ ν, jI ν → jm_G E m_L_law (jm_rm 61 C2 S2) jm_N jm_N (cs + 1) (sl + 6) 1335 [some (jm_R (-2)), some (jm_R 0), some (jm_R 133), some (jm_R 164), some (jm_I v), none, none] [] ν Q) : jm_G E m_L_law (jm_rm 61 C2 S2) jm_N jm_N cs sl 763 [some (jm_R (-2)), some (jm_R 0), some (jm_R 133), some (jm_R 164), some (jm_I v), none, none] [] μ Q := by
  refine jm_aloadn d_L_law_763 rfl ?_
  refine jm_invV (d := 60) (n1 := jm_N) (mc := 0) (ms := 0) (av := []) w_X10_minutes l_L_99 d_L_law_764 rfl is_0 ⟨_, _, rfl⟩ ⟨by omega, by omega⟩ (Nat.le_of_ble_eq_true rfl) rfl ?_
  refine jm_Cl.mono (jS_minutes hI) (fun o m h hr _ => ?_)
  obtain ⟨r, rfl⟩ := jm_rokI hr
  have h := h r rfl
  refine jm_aloadn d_L_law_767 rfl ?_
  refine jm_invV (d := 60) (n1 := jm_N) (mc := 0) (ms := 0) (av := []) w_X11_minutes l_L_102 d_L_law_768 rfl is_133 ⟨_, _, rfl⟩ ⟨by omega, by omega⟩ (Nat.le_of_ble_eq_true rfl) rfl ?_
  refine jm_Cl.mono h (fun o m2 h _ _ => ?_)
  obtain ⟨rfl, hJ⟩ := h
  exact jm_icmp_eq (tgt := 1335) d_L_law_771 (by decide) (fun _ => jm_wid (Nat.le_succ _) (Nat.le_add_right _ 6) (k m2 hJ)) (fun z => absurd rfl z)
theorem q_law_776 (hN : jm_sL E < 2147483648) (b0 : 0 ≤ v) (b1 : v + 6 ≤ (jm_sL E : Int)) (hc : cs + 1 ≤ C2) (hs : sl + 6 ≤ S2) (hI : jI μ) (k : ∀ ν, jI ν → jm_G E m_L_law (jm_rm 61 C2 S2) jm_N jm_N (cs + 1) (sl + 6) 1335 [some (jm_R (-2)), some (jm_R 0), some (jm_R 133), some (jm_R 164), some (jm_I v), none, none] [] ν Q) : jm_G E m_L_law (jm_rm 61 C2 S2) jm_N jm_N cs sl 776 [some (jm_R (-2)), some (jm_R 0), some (jm_R 133), some (jm_R 164), some (jm_I v), none, none] [] μ Q := by
  refine jm_aloadn d_L_law_776 rfl ?_
  refine jm_aloadn d_L_law_777 rfl ?_
  refine jm_iload d_L_law_778 rfl ?_
  refine jm_iconst (v := 1) d_L_law_780 rfl (jm_okI (by decide) (by decide)) ?_
  refine jm_iadd d_L_law_781 ?_
  refine jm_sld d_L_law_782 (jl_b hN b0 b1 (k := 1) (by decide) (by decide)).1 (jl_b hN b0 b1 (k := 1) (by decide) (by decide)).2 ?_
  refine jm_invV (d := 60) (n1 := jm_N) (mc := 0) (ms := 0) (av := [jm_I _]) w_X10_wholes l_L_103 d_L_law_783 rfl is_0 ⟨_, _, rfl⟩ ⟨by omega, by omega⟩ (Nat.le_of_ble_eq_true rfl) rfl ?_
  refine jm_Cl.mono (jS_wholes hI) (fun o m h hr _ => ?_)
  obtain ⟨r, rfl⟩ := jm_rokI hr
  have h := h r rfl
  refine jm_aloadn d_L_law_786 rfl ?_
  refine jm_aloadn d_L_law_787 rfl ?_
  refine jm_iload d_L_law_788 rfl ?_
  refine jm_iconst (v := 1) d_L_law_790 rfl (jm_okI (by decide) (by decide)) ?_
  refine jm_iadd d_L_law_791 ?_
  refine jm_sld d_L_law_792 (jl_b hN b0 b1 (k := 1) (by decide) (by decide)).1 (jl_b hN b0 b1 (k := 1) (by decide) (by decide)).2 ?_
  refine jm_invV (d := 60) (n1 := jm_N) (mc := 0) (ms := 0) (av := [jm_I _]) w_X11_wholes l_L_106 d_L_law_793 rfl is_133 ⟨_, _, rfl⟩ ⟨by omega, by omega⟩ (Nat.le_of_ble_eq_true rfl) rfl ?_
  refine jm_Cl.mono h (fun o m2 h _ _ => ?_)
  obtain ⟨rfl, hJ⟩ := h
  exact jm_icmp_eq (tgt := 1335) d_L_law_796 (by decide) (fun _ => jm_wid (Nat.le_succ _) (Nat.le_add_right _ 6) (k m2 hJ)) (fun z => absurd rfl z)
theorem q_law_801 (hN : jm_sL E < 2147483648) (b0 : 0 ≤ v) (b1 : v + 6 ≤ (jm_sL E : Int)) (hc : cs + 1 ≤ C2) (hs : sl + 6 ≤ S2) (hI : jI μ) (k : ∀ ν, jI ν → jm_G E m_L_law (jm_rm 61 C2 S2) jm_N jm_N (cs + 1) (sl + 6) 1335 [some (jm_R (-2)), some (jm_R 0), some (jm_R 133), some (jm_R 164), some (jm_I v), none, none] [] ν Q) : jm_G E m_L_law (jm_rm 61 C2 S2) jm_N jm_N cs sl 801 [some (jm_R (-2)), some (jm_R 0), some (jm_R 133), some (jm_R 164), some (jm_I v), none, none] [] μ Q := by
  refine jm_aloadn d_L_law_801 rfl ?_
  refine jm_aloadn d_L_law_802 rfl ?_
  refine jm_iload d_L_law_803 rfl ?_
  refine jm_iconst (v := 1) d_L_law_805 rfl (jm_okI (by decide) (by decide)) ?_
  refine jm_iadd d_L_law_806 ?_
  refine jm_sld d_L_law_807 (jl_b hN b0 b1 (k := 1) (by decide) (by decide)).1 (jl_b hN b0 b1 (k := 1) (by decide) (by decide)).2 ?_
  refine jm_aloadn d_L_law_808 rfl ?_
  refine jm_iload d_L_law_809 rfl ?_
  refine jm_iconst (v := 2) d_L_law_811 rfl (jm_okI (by decide) (by decide)) ?_
  refine jm_iadd d_L_law_812 ?_
  refine jm_sld d_L_law_813 (jl_b hN b0 b1 (k := 2) (by decide) (by decide)).1 (jl_b hN b0 b1 (k := 2) (by decide) (by decide)).2 ?_
  refine jm_invV (d := 60) (n1 := jm_N) (mc := 0) (ms := 0) (av := [jm_I _, jm_I _]) w_X10_sure l_L_107 d_L_law_814 rfl is_0 ⟨_, _, rfl⟩ ⟨by omega, by omega⟩ (Nat.le_of_ble_eq_true rfl) rfl ?_
  refine jm_Cl.mono (jS_sure hI) (fun o m h hr _ => ?_)
  obtain ⟨r, rfl⟩ := jm_rokI hr
  have h := h r rfl
  refine jm_aloadn d_L_law_817 rfl ?_
  refine jm_aloadn d_L_law_818 rfl ?_
  refine jm_iload d_L_law_819 rfl ?_
  refine jm_iconst (v := 1) d_L_law_821 rfl (jm_okI (by decide) (by decide)) ?_
  refine jm_iadd d_L_law_822 ?_
  refine jm_sld d_L_law_823 (jl_b hN b0 b1 (k := 1) (by decide) (by decide)).1 (jl_b hN b0 b1 (k := 1) (by decide) (by decide)).2 ?_
  refine jm_aloadn d_L_law_824 rfl ?_
  refine jm_iload d_L_law_825 rfl ?_
  refine jm_iconst (v := 2) d_L_law_827 rfl (jm_okI (by decide) (by decide)) ?_
  refine jm_iadd d_L_law_828 ?_
  refine jm_sld d_L_law_829 (jl_b hN b0 b1 (k := 2) (by decide) (by decide)).1 (jl_b hN b0 b1 (k := 2) (by decide) (by decide)).2 ?_
  refine jm_invV (d := 60) (n1 := jm_N) (mc := 0) (ms := 0) (av := [jm_I _, jm_I _]) w_X11_sure l_L_110 d_L_law_830 rfl is_133 ⟨_, _, rfl⟩ ⟨by omega, by omega⟩ (Nat.le_of_ble_eq_true rfl) rfl ?_
  refine jm_Cl.mono h (fun o m2 h _ _ => ?_)
  obtain ⟨rfl, hJ⟩ := h
  exact jm_icmp_eq (tgt := 1335) d_L_law_833 (by decide) (fun _ => jm_wid (Nat.le_succ _) (Nat.le_add_right _ 6) (k m2 hJ)) (fun z => absurd rfl z)
theorem q_law_838 (hN : jm_sL E < 2147483648) (b0 : 0 ≤ v) (b1 : v + 6 ≤ (jm_sL E : Int)) (hc : cs + 1 ≤ C2) (hs : sl + 6 ≤ S2) (hI : jI μ) (k : ∀ ν, jI ν → jm_G E m_L_law (jm_rm 61 C2 S2) jm_N jm_N (cs + 1) (sl + 6) 1335 [some (jm_R (-2)), some (jm_R 0), some (jm_R 133), some (jm_R 164), some (jm_I v), none, none] [] ν Q) : jm_G E m_L_law (jm_rm 61 C2 S2) jm_N jm_N cs sl 838 [some (jm_R (-2)), some (jm_R 0), some (jm_R 133), some (jm_R 164), some (jm_I v), none, none] [] μ Q := by
  refine jm_aloadn d_L_law_838 rfl ?_
  refine jm_invV (d := 60) (n1 := jm_N) (mc := 0) (ms := 0) (av := []) w_X10_hangs l_L_111 d_L_law_839 rfl is_0 ⟨_, _, rfl⟩ ⟨by omega, by omega⟩ (Nat.le_of_ble_eq_true rfl) rfl ?_
  refine jm_Cl.mono (jS_hangs hI) (fun o m h hr _ => ?_)
  obtain ⟨r, rfl⟩ := jm_rokI hr
  have h := h r rfl
  refine jm_aloadn d_L_law_842 rfl ?_
  refine jm_invV (d := 60) (n1 := jm_N) (mc := 0) (ms := 0) (av := []) w_X11_hangs l_L_114 d_L_law_843 rfl is_133 ⟨_, _, rfl⟩ ⟨by omega, by omega⟩ (Nat.le_of_ble_eq_true rfl) rfl ?_
  refine jm_Cl.mono h (fun o m2 h _ _ => ?_)
  obtain ⟨rfl, hJ⟩ := h
  exact jm_icmp_eq (tgt := 1335) d_L_law_846 (by decide) (fun _ => jm_wid (Nat.le_succ _) (Nat.le_add_right _ 6) (k m2 hJ)) (fun z => absurd rfl z)
theorem q_law_851 (hN : jm_sL E < 2147483648) (b0 : 0 ≤ v) (b1 : v + 6 ≤ (jm_sL E : Int)) (hc : cs + 1 ≤ C2) (hs : sl + 6 ≤ S2) (hI : jI μ) (k : ∀ ν, jI ν → jm_G E m_L_law (jm_rm 61 C2 S2) jm_N jm_N (cs + 1) (sl + 6) 1335 [some (jm_R (-2)), some (jm_R 0), some (jm_R 133), some (jm_R 164), some (jm_I v), none, none] [] ν Q) : jm_G E m_L_law (jm_rm 61 C2 S2) jm_N jm_N cs sl 851 [some (jm_R (-2)), some (jm_R 0), some (jm_R 133), some (jm_R 164), some (jm_I v), none, none] [] μ Q := by
  refine jm_aloadn d_L_law_851 rfl ?_
  refine jm_invV (d := 60) (n1 := jm_N) (mc := 0) (ms := 0) (av := []) w_X10_mend l_L_115 d_L_law_852 rfl is_0 ⟨_, _, rfl⟩ ⟨by omega, by omega⟩ (Nat.le_of_ble_eq_true rfl) rfl ?_
  refine jm_Cl.mono (jS_mend hI) (fun o m h hr _ => ?_)
  obtain ⟨r, rfl⟩ := jm_rokI hr
  have h := h r rfl
  refine jm_aloadn d_L_law_855 rfl ?_
  refine jm_invV (d := 60) (n1 := jm_N) (mc := 0) (ms := 0) (av := []) w_X11_mend l_L_118 d_L_law_856 rfl is_133 ⟨_, _, rfl⟩ ⟨by omega, by omega⟩ (Nat.le_of_ble_eq_true rfl) rfl ?_
  refine jm_Cl.mono h (fun o m2 h _ _ => ?_)
  obtain ⟨rfl, hJ⟩ := h
  exact jm_icmp_eq (tgt := 1335) d_L_law_859 (by decide) (fun _ => jm_wid (Nat.le_succ _) (Nat.le_add_right _ 6) (k m2 hJ)) (fun z => absurd rfl z)
theorem q_law_864 (hN : jm_sL E < 2147483648) (b0 : 0 ≤ v) (b1 : v + 6 ≤ (jm_sL E : Int)) (hc : cs + 1 ≤ C2) (hs : sl + 6 ≤ S2) (hI : jI μ) (k : ∀ ν, jI ν → jm_G E m_L_law (jm_rm 61 C2 S2) jm_N jm_N (cs + 1) (sl + 6) 1335 [some (jm_R (-2)), some (jm_R 0), some (jm_R 133), some (jm_R 164), some (jm_I v), none, none] [] ν Q) : jm_G E m_L_law (jm_rm 61 C2 S2) jm_N jm_N cs sl 864 [some (jm_R (-2)), some (jm_R 0), some (jm_R 133), some (jm_R 164), some (jm_I v), none, none] [] μ Q := by
  refine jm_aloadn d_L_law_864 rfl ?_
  refine jm_invV (d := 60) (n1 := jm_N) (mc := 0) (ms := 0) (av := []) w_X10_mended l_L_119 d_L_law_865 rfl is_0 ⟨_, _, rfl⟩ ⟨by omega, by omega⟩ (Nat.le_of_ble_eq_true rfl) rfl ?_
  refine jm_Cl.mono (jS_mended hI) (fun o m h hr _ => ?_)
  obtain ⟨r, rfl⟩ := jm_rokI hr
  have h := h r rfl
  refine jm_aloadn d_L_law_868 rfl ?_
  refine jm_invV (d := 60) (n1 := jm_N) (mc := 0) (ms := 0) (av := []) w_X11_mended l_L_122 d_L_law_869 rfl is_133 ⟨_, _, rfl⟩ ⟨by omega, by omega⟩ (Nat.le_of_ble_eq_true rfl) rfl ?_
  refine jm_Cl.mono h (fun o m2 h _ _ => ?_)
  obtain ⟨rfl, hJ⟩ := h
  exact jm_icmp_eq (tgt := 1335) d_L_law_872 (by decide) (fun _ => jm_wid (Nat.le_succ _) (Nat.le_add_right _ 6) (k m2 hJ)) (fun z => absurd rfl z)
theorem q_law_877 (hN : jm_sL E < 2147483648) (b0 : 0 ≤ v) (b1 : v + 6 ≤ (jm_sL E : Int)) (hc : cs + 1 ≤ C2) (hs : sl + 6 ≤ S2) (hI : jI μ) (k : ∀ ν, jI ν → jm_G E m_L_law (jm_rm 61 C2 S2) jm_N jm_N (cs + 1) (sl + 6) 1335 [some (jm_R (-2)), some (jm_R 0), some (jm_R 133), some (jm_R 164), some (jm_I v), none, none] [] ν Q) : jm_G E m_L_law (jm_rm 61 C2 S2) jm_N jm_N cs sl 877 [some (jm_R (-2)), some (jm_R 0), some (jm_R 133), some (jm_R 164), some (jm_I v), none, none] [] μ Q := by
  refine jm_aloadn d_L_law_877 rfl ?_
  refine jm_invV (d := 60) (n1 := jm_N) (mc := 0) (ms := 0) (av := []) w_X10_orders l_L_123 d_L_law_878 rfl is_0 ⟨_, _, rfl⟩ ⟨by omega, by omega⟩ (Nat.le_of_ble_eq_true rfl) rfl ?_
  refine jm_Cl.mono (jS_orders hI) (fun o m h hr _ => ?_)
  obtain ⟨r, rfl⟩ := jm_rokI hr
  have h := h r rfl
  refine jm_aloadn d_L_law_881 rfl ?_
  refine jm_invV (d := 60) (n1 := jm_N) (mc := 0) (ms := 0) (av := []) w_X11_orders l_L_126 d_L_law_882 rfl is_133 ⟨_, _, rfl⟩ ⟨by omega, by omega⟩ (Nat.le_of_ble_eq_true rfl) rfl ?_
  refine jm_Cl.mono h (fun o m2 h _ _ => ?_)
  obtain ⟨rfl, hJ⟩ := h
  exact jm_icmp_eq (tgt := 1335) d_L_law_885 (by decide) (fun _ => jm_wid (Nat.le_succ _) (Nat.le_add_right _ 6) (k m2 hJ)) (fun z => absurd rfl z)
theorem q_law_890 (hN : jm_sL E < 2147483648) (b0 : 0 ≤ v) (b1 : v + 6 ≤ (jm_sL E : Int)) (hc : cs + 1 ≤ C2) (hs : sl + 6 ≤ S2) (hI : jI μ) (k : ∀ ν, jI ν → jm_G E m_L_law (jm_rm 61 C2 S2) jm_N jm_N (cs + 1) (sl + 6) 1335 [some (jm_R (-2)), some (jm_R 0), some (jm_R 133), some (jm_R 164), some (jm_I v), none, none] [] ν Q) : jm_G E m_L_law (jm_rm 61 C2 S2) jm_N jm_N cs sl 890 [some (jm_R (-2)), some (jm_R 0), some (jm_R 133), some (jm_R 164), some (jm_I v), none, none] [] μ Q := by
  refine jm_aloadn d_L_law_890 rfl ?_
  refine jm_aloadn d_L_law_891 rfl ?_
  refine jm_iload d_L_law_892 rfl ?_
  refine jm_iconst (v := 1) d_L_law_894 rfl (jm_okI (by decide) (by decide)) ?_
  refine jm_iadd d_L_law_895 ?_
  refine jm_sld d_L_law_896 (jl_b hN b0 b1 (k := 1) (by decide) (by decide)).1 (jl_b hN b0 b1 (k := 1) (by decide) (by decide)).2 ?_
  refine jm_invV (d := 60) (n1 := jm_N) (mc := 0) (ms := 0) (av := [jm_I _]) w_X10_orderAt l_L_127 d_L_law_897 rfl is_0 ⟨_, _, rfl⟩ ⟨by omega, by omega⟩ (Nat.le_of_ble_eq_true rfl) rfl ?_
  refine jm_Cl.mono (jS_orderAt hI) (fun o m h hr _ => ?_)
  obtain ⟨r, rfl⟩ := jm_rokI hr
  have h := h r rfl
  refine jm_aloadn d_L_law_900 rfl ?_
  refine jm_aloadn d_L_law_901 rfl ?_
  refine jm_iload d_L_law_902 rfl ?_
  refine jm_iconst (v := 1) d_L_law_904 rfl (jm_okI (by decide) (by decide)) ?_
  refine jm_iadd d_L_law_905 ?_
  refine jm_sld d_L_law_906 (jl_b hN b0 b1 (k := 1) (by decide) (by decide)).1 (jl_b hN b0 b1 (k := 1) (by decide) (by decide)).2 ?_
  refine jm_invV (d := 60) (n1 := jm_N) (mc := 0) (ms := 0) (av := [jm_I _]) w_X11_orderAt l_L_130 d_L_law_907 rfl is_133 ⟨_, _, rfl⟩ ⟨by omega, by omega⟩ (Nat.le_of_ble_eq_true rfl) rfl ?_
  refine jm_Cl.mono h (fun o m2 h _ _ => ?_)
  obtain ⟨rfl, hJ⟩ := h
  exact jm_icmp_eq (tgt := 1335) d_L_law_910 (by decide) (fun _ => jm_wid (Nat.le_succ _) (Nat.le_add_right _ 6) (k m2 hJ)) (fun z => absurd rfl z)
theorem q_law_915 (hN : jm_sL E < 2147483648) (b0 : 0 ≤ v) (b1 : v + 6 ≤ (jm_sL E : Int)) (hc : cs + 1 ≤ C2) (hs : sl + 6 ≤ S2) (hI : jI μ) (k : ∀ ν, jI ν → jm_G E m_L_law (jm_rm 61 C2 S2) jm_N jm_N (cs + 1) (sl + 6) 1335 [some (jm_R (-2)), some (jm_R 0), some (jm_R 133), some (jm_R 164), some (jm_I v), none, none] [] ν Q) : jm_G E m_L_law (jm_rm 61 C2 S2) jm_N jm_N cs sl 915 [some (jm_R (-2)), some (jm_R 0), some (jm_R 133), some (jm_R 164), some (jm_I v), none, none] [] μ Q := by
  refine jm_aloadn d_L_law_915 rfl ?_
  refine jm_aloadn d_L_law_916 rfl ?_
  refine jm_iload d_L_law_917 rfl ?_
  refine jm_iconst (v := 1) d_L_law_919 rfl (jm_okI (by decide) (by decide)) ?_
  refine jm_iadd d_L_law_920 ?_
  refine jm_sld d_L_law_921 (jl_b hN b0 b1 (k := 1) (by decide) (by decide)).1 (jl_b hN b0 b1 (k := 1) (by decide) (by decide)).2 ?_
  refine jm_aloadn d_L_law_922 rfl ?_
  refine jm_iload d_L_law_923 rfl ?_
  refine jm_iconst (v := 2) d_L_law_925 rfl (jm_okI (by decide) (by decide)) ?_
  refine jm_iadd d_L_law_926 ?_
  refine jm_sld d_L_law_927 (jl_b hN b0 b1 (k := 2) (by decide) (by decide)).1 (jl_b hN b0 b1 (k := 2) (by decide) (by decide)).2 ?_
  refine jm_invV (d := 60) (n1 := jm_N) (mc := 0) (ms := 0) (av := [jm_I _, jm_I _]) w_X10_drawn l_L_131 d_L_law_928 rfl is_0 ⟨_, _, rfl⟩ ⟨by omega, by omega⟩ (Nat.le_of_ble_eq_true rfl) rfl ?_
  refine jm_Cl.mono (jS_drawn hI) (fun o m h hr _ => ?_)
  obtain ⟨r, rfl⟩ := jm_rokI hr
  have h := h r rfl
  refine jm_aloadn d_L_law_931 rfl ?_
  refine jm_aloadn d_L_law_932 rfl ?_
  refine jm_iload d_L_law_933 rfl ?_
  refine jm_iconst (v := 1) d_L_law_935 rfl (jm_okI (by decide) (by decide)) ?_
  refine jm_iadd d_L_law_936 ?_
  refine jm_sld d_L_law_937 (jl_b hN b0 b1 (k := 1) (by decide) (by decide)).1 (jl_b hN b0 b1 (k := 1) (by decide) (by decide)).2 ?_
  refine jm_aloadn d_L_law_938 rfl ?_
  refine jm_iload d_L_law_939 rfl ?_
  refine jm_iconst (v := 2) d_L_law_941 rfl (jm_okI (by decide) (by decide)) ?_
  refine jm_iadd d_L_law_942 ?_
  refine jm_sld d_L_law_943 (jl_b hN b0 b1 (k := 2) (by decide) (by decide)).1 (jl_b hN b0 b1 (k := 2) (by decide) (by decide)).2 ?_
  refine jm_invV (d := 60) (n1 := jm_N) (mc := 0) (ms := 0) (av := [jm_I _, jm_I _]) w_X11_drawn l_L_134 d_L_law_944 rfl is_133 ⟨_, _, rfl⟩ ⟨by omega, by omega⟩ (Nat.le_of_ble_eq_true rfl) rfl ?_
  refine jm_Cl.mono h (fun o m2 h _ _ => ?_)
  obtain ⟨rfl, hJ⟩ := h
  exact jm_icmp_eq (tgt := 1335) d_L_law_947 (by decide) (fun _ => jm_wid (Nat.le_succ _) (Nat.le_add_right _ 6) (k m2 hJ)) (fun z => absurd rfl z)
theorem q_law_952 (hN : jm_sL E < 2147483648) (b0 : 0 ≤ v) (b1 : v + 6 ≤ (jm_sL E : Int)) (hc : cs + 1 ≤ C2) (hs : sl + 6 ≤ S2) (hI : jI μ) (k : ∀ ν, jI ν → jm_G E m_L_law (jm_rm 61 C2 S2) jm_N jm_N (cs + 1) (sl + 6) 1335 [some (jm_R (-2)), some (jm_R 0), some (jm_R 133), some (jm_R 164), some (jm_I v), none, none] [] ν Q) : jm_G E m_L_law (jm_rm 61 C2 S2) jm_N jm_N cs sl 952 [some (jm_R (-2)), some (jm_R 0), some (jm_R 133), some (jm_R 164), some (jm_I v), none, none] [] μ Q := by
  refine jm_aloadn d_L_law_952 rfl ?_
  refine jm_aloadn d_L_law_953 rfl ?_
  refine jm_iload d_L_law_954 rfl ?_
  refine jm_iconst (v := 1) d_L_law_956 rfl (jm_okI (by decide) (by decide)) ?_
  refine jm_iadd d_L_law_957 ?_
  refine jm_sld d_L_law_958 (jl_b hN b0 b1 (k := 1) (by decide) (by decide)).1 (jl_b hN b0 b1 (k := 1) (by decide) (by decide)).2 ?_
  refine jm_aloadn d_L_law_959 rfl ?_
  refine jm_iload d_L_law_960 rfl ?_
  refine jm_iconst (v := 2) d_L_law_962 rfl (jm_okI (by decide) (by decide)) ?_
  refine jm_iadd d_L_law_963 ?_
  refine jm_sld d_L_law_964 (jl_b hN b0 b1 (k := 2) (by decide) (by decide)).1 (jl_b hN b0 b1 (k := 2) (by decide) (by decide)).2 ?_
  refine jm_invV (d := 60) (n1 := jm_N) (mc := 0) (ms := 0) (av := [jm_I _, jm_I _]) w_X10_spoke l_L_135 d_L_law_965 rfl is_0 ⟨_, _, rfl⟩ ⟨by omega, by omega⟩ (Nat.le_of_ble_eq_true rfl) rfl ?_
  refine jm_Cl.mono (jS_spoke hI) (fun o m h hr _ => ?_)
  obtain ⟨r, rfl⟩ := jm_rokI hr
  have h := h r rfl
  refine jm_aloadn d_L_law_968 rfl ?_
  refine jm_aloadn d_L_law_969 rfl ?_
  refine jm_iload d_L_law_970 rfl ?_
  refine jm_iconst (v := 1) d_L_law_972 rfl (jm_okI (by decide) (by decide)) ?_
  refine jm_iadd d_L_law_973 ?_
  refine jm_sld d_L_law_974 (jl_b hN b0 b1 (k := 1) (by decide) (by decide)).1 (jl_b hN b0 b1 (k := 1) (by decide) (by decide)).2 ?_
  refine jm_aloadn d_L_law_975 rfl ?_
  refine jm_iload d_L_law_976 rfl ?_
  refine jm_iconst (v := 2) d_L_law_978 rfl (jm_okI (by decide) (by decide)) ?_
  refine jm_iadd d_L_law_979 ?_
  refine jm_sld d_L_law_980 (jl_b hN b0 b1 (k := 2) (by decide) (by decide)).1 (jl_b hN b0 b1 (k := 2) (by decide) (by decide)).2 ?_
  refine jm_invV (d := 60) (n1 := jm_N) (mc := 0) (ms := 0) (av := [jm_I _, jm_I _]) w_X11_spoke l_L_138 d_L_law_981 rfl is_133 ⟨_, _, rfl⟩ ⟨by omega, by omega⟩ (Nat.le_of_ble_eq_true rfl) rfl ?_
  refine jm_Cl.mono h (fun o m2 h _ _ => ?_)
  obtain ⟨rfl, hJ⟩ := h
  exact jm_icmp_eq (tgt := 1335) d_L_law_984 (by decide) (fun _ => jm_wid (Nat.le_succ _) (Nat.le_add_right _ 6) (k m2 hJ)) (fun z => absurd rfl z)
theorem q_law_989 (hN : jm_sL E < 2147483648) (b0 : 0 ≤ v) (b1 : v + 6 ≤ (jm_sL E : Int)) (hc : cs + 1 ≤ C2) (hs : sl + 6 ≤ S2) (hI : jI μ) (k : ∀ ν, jI ν → jm_G E m_L_law (jm_rm 61 C2 S2) jm_N jm_N (cs + 1) (sl + 6) 1335 [some (jm_R (-2)), some (jm_R 0), some (jm_R 133), some (jm_R 164), some (jm_I v), none, none] [] ν Q) : jm_G E m_L_law (jm_rm 61 C2 S2) jm_N jm_N cs sl 989 [some (jm_R (-2)), some (jm_R 0), some (jm_R 133), some (jm_R 164), some (jm_I v), none, none] [] μ Q := by
  refine jm_aloadn d_L_law_989 rfl ?_
  refine jm_aloadn d_L_law_990 rfl ?_
  refine jm_iload d_L_law_991 rfl ?_
  refine jm_iconst (v := 1) d_L_law_993 rfl (jm_okI (by decide) (by decide)) ?_
  refine jm_iadd d_L_law_994 ?_
  refine jm_sld d_L_law_995 (jl_b hN b0 b1 (k := 1) (by decide) (by decide)).1 (jl_b hN b0 b1 (k := 1) (by decide) (by decide)).2 ?_
  refine jm_aloadn d_L_law_996 rfl ?_
  refine jm_iload d_L_law_997 rfl ?_
  refine jm_iconst (v := 2) d_L_law_999 rfl (jm_okI (by decide) (by decide)) ?_
  refine jm_iadd d_L_law_1000 ?_
  refine jm_sld d_L_law_1001 (jl_b hN b0 b1 (k := 2) (by decide) (by decide)).1 (jl_b hN b0 b1 (k := 2) (by decide) (by decide)).2 ?_
  refine jm_aloadn d_L_law_1002 rfl ?_
  refine jm_iload d_L_law_1003 rfl ?_
  refine jm_iconst (v := 3) d_L_law_1005 rfl (jm_okI (by decide) (by decide)) ?_
  refine jm_iadd d_L_law_1006 ?_
  refine jm_sld d_L_law_1007 (jl_b hN b0 b1 (k := 3) (by decide) (by decide)).1 (jl_b hN b0 b1 (k := 3) (by decide) (by decide)).2 ?_
  refine jm_invV (d := 60) (n1 := jm_N) (mc := 0) (ms := 0) (av := [jm_I _, jm_I _, jm_I _]) w_X10_road l_L_139 d_L_law_1008 rfl is_0 ⟨_, _, rfl⟩ ⟨by omega, by omega⟩ (Nat.le_of_ble_eq_true rfl) rfl ?_
  refine jm_Cl.mono (jS_road hI) (fun o m h hr _ => ?_)
  obtain ⟨r, rfl⟩ := jm_rokI hr
  have h := h r rfl
  refine jm_aloadn d_L_law_1011 rfl ?_
  refine jm_aloadn d_L_law_1012 rfl ?_
  refine jm_iload d_L_law_1013 rfl ?_
  refine jm_iconst (v := 1) d_L_law_1015 rfl (jm_okI (by decide) (by decide)) ?_
  refine jm_iadd d_L_law_1016 ?_
  refine jm_sld d_L_law_1017 (jl_b hN b0 b1 (k := 1) (by decide) (by decide)).1 (jl_b hN b0 b1 (k := 1) (by decide) (by decide)).2 ?_
  refine jm_aloadn d_L_law_1018 rfl ?_
  refine jm_iload d_L_law_1019 rfl ?_
  refine jm_iconst (v := 2) d_L_law_1021 rfl (jm_okI (by decide) (by decide)) ?_
  refine jm_iadd d_L_law_1022 ?_
  refine jm_sld d_L_law_1023 (jl_b hN b0 b1 (k := 2) (by decide) (by decide)).1 (jl_b hN b0 b1 (k := 2) (by decide) (by decide)).2 ?_
  refine jm_aloadn d_L_law_1024 rfl ?_
  refine jm_iload d_L_law_1025 rfl ?_
  refine jm_iconst (v := 3) d_L_law_1027 rfl (jm_okI (by decide) (by decide)) ?_
  refine jm_iadd d_L_law_1028 ?_
  refine jm_sld d_L_law_1029 (jl_b hN b0 b1 (k := 3) (by decide) (by decide)).1 (jl_b hN b0 b1 (k := 3) (by decide) (by decide)).2 ?_
  refine jm_invV (d := 60) (n1 := jm_N) (mc := 0) (ms := 0) (av := [jm_I _, jm_I _, jm_I _]) w_X11_road l_L_142 d_L_law_1030 rfl is_133 ⟨_, _, rfl⟩ ⟨by omega, by omega⟩ (Nat.le_of_ble_eq_true rfl) rfl ?_
  refine jm_Cl.mono h (fun o m2 h _ _ => ?_)
  obtain ⟨rfl, hJ⟩ := h
  exact jm_icmp_eq (tgt := 1335) d_L_law_1033 (by decide) (fun _ => jm_wid (Nat.le_succ _) (Nat.le_add_right _ 6) (k m2 hJ)) (fun z => absurd rfl z)
theorem q_law_1038 (hN : jm_sL E < 2147483648) (b0 : 0 ≤ v) (b1 : v + 6 ≤ (jm_sL E : Int)) (hc : cs + 1 ≤ C2) (hs : sl + 6 ≤ S2) (hI : jI μ) (k : ∀ ν, jI ν → jm_G E m_L_law (jm_rm 61 C2 S2) jm_N jm_N (cs + 1) (sl + 6) 1335 [some (jm_R (-2)), some (jm_R 0), some (jm_R 133), some (jm_R 164), some (jm_I v), none, none] [] ν Q) : jm_G E m_L_law (jm_rm 61 C2 S2) jm_N jm_N cs sl 1038 [some (jm_R (-2)), some (jm_R 0), some (jm_R 133), some (jm_R 164), some (jm_I v), none, none] [] μ Q := by
  refine jm_aloadn d_L_law_1038 rfl ?_
  refine jm_aloadn d_L_law_1039 rfl ?_
  refine jm_iload d_L_law_1040 rfl ?_
  refine jm_iconst (v := 1) d_L_law_1042 rfl (jm_okI (by decide) (by decide)) ?_
  refine jm_iadd d_L_law_1043 ?_
  refine jm_sld d_L_law_1044 (jl_b hN b0 b1 (k := 1) (by decide) (by decide)).1 (jl_b hN b0 b1 (k := 1) (by decide) (by decide)).2 ?_
  refine jm_aloadn d_L_law_1045 rfl ?_
  refine jm_iload d_L_law_1046 rfl ?_
  refine jm_iconst (v := 2) d_L_law_1048 rfl (jm_okI (by decide) (by decide)) ?_
  refine jm_iadd d_L_law_1049 ?_
  refine jm_sld d_L_law_1050 (jl_b hN b0 b1 (k := 2) (by decide) (by decide)).1 (jl_b hN b0 b1 (k := 2) (by decide) (by decide)).2 ?_
  refine jm_aloadn d_L_law_1051 rfl ?_
  refine jm_iload d_L_law_1052 rfl ?_
  refine jm_iconst (v := 3) d_L_law_1054 rfl (jm_okI (by decide) (by decide)) ?_
  refine jm_iadd d_L_law_1055 ?_
  refine jm_sld d_L_law_1056 (jl_b hN b0 b1 (k := 3) (by decide) (by decide)).1 (jl_b hN b0 b1 (k := 3) (by decide) (by decide)).2 ?_
  refine jm_aloadn d_L_law_1057 rfl ?_
  refine jm_iload d_L_law_1058 rfl ?_
  refine jm_iconst (v := 4) d_L_law_1060 rfl (jm_okI (by decide) (by decide)) ?_
  refine jm_iadd d_L_law_1061 ?_
  refine jm_sld d_L_law_1062 (jl_b hN b0 b1 (k := 4) (by decide) (by decide)).1 (jl_b hN b0 b1 (k := 4) (by decide) (by decide)).2 ?_
  refine jm_invV (d := 60) (n1 := jm_N) (mc := 0) (ms := 0) (av := [jm_I _, jm_I _, jm_I _, jm_I _]) w_X10_without l_L_143 d_L_law_1063 rfl is_0 ⟨_, _, rfl⟩ ⟨by omega, by omega⟩ (Nat.le_of_ble_eq_true rfl) rfl ?_
  refine jm_Cl.mono (jS_without hI) (fun o m h hr _ => ?_)
  obtain ⟨r, rfl⟩ := jm_rokI hr
  have h := h r rfl
  refine jm_aloadn d_L_law_1066 rfl ?_
  refine jm_aloadn d_L_law_1067 rfl ?_
  refine jm_iload d_L_law_1068 rfl ?_
  refine jm_iconst (v := 1) d_L_law_1070 rfl (jm_okI (by decide) (by decide)) ?_
  refine jm_iadd d_L_law_1071 ?_
  refine jm_sld d_L_law_1072 (jl_b hN b0 b1 (k := 1) (by decide) (by decide)).1 (jl_b hN b0 b1 (k := 1) (by decide) (by decide)).2 ?_
  refine jm_aloadn d_L_law_1073 rfl ?_
  refine jm_iload d_L_law_1074 rfl ?_
  refine jm_iconst (v := 2) d_L_law_1076 rfl (jm_okI (by decide) (by decide)) ?_
  refine jm_iadd d_L_law_1077 ?_
  refine jm_sld d_L_law_1078 (jl_b hN b0 b1 (k := 2) (by decide) (by decide)).1 (jl_b hN b0 b1 (k := 2) (by decide) (by decide)).2 ?_
  refine jm_aloadn d_L_law_1079 rfl ?_
  refine jm_iload d_L_law_1080 rfl ?_
  refine jm_iconst (v := 3) d_L_law_1082 rfl (jm_okI (by decide) (by decide)) ?_
  refine jm_iadd d_L_law_1083 ?_
  refine jm_sld d_L_law_1084 (jl_b hN b0 b1 (k := 3) (by decide) (by decide)).1 (jl_b hN b0 b1 (k := 3) (by decide) (by decide)).2 ?_
  refine jm_aloadn d_L_law_1085 rfl ?_
  refine jm_iload d_L_law_1086 rfl ?_
  refine jm_iconst (v := 4) d_L_law_1088 rfl (jm_okI (by decide) (by decide)) ?_
  refine jm_iadd d_L_law_1089 ?_
  refine jm_sld d_L_law_1090 (jl_b hN b0 b1 (k := 4) (by decide) (by decide)).1 (jl_b hN b0 b1 (k := 4) (by decide) (by decide)).2 ?_
  refine jm_invV (d := 60) (n1 := jm_N) (mc := 0) (ms := 0) (av := [jm_I _, jm_I _, jm_I _, jm_I _]) w_X11_without l_L_147 d_L_law_1091 rfl is_133 ⟨_, _, rfl⟩ ⟨by omega, by omega⟩ (Nat.le_of_ble_eq_true rfl) rfl ?_
  refine jm_Cl.mono h (fun o m2 h _ _ => ?_)
  obtain ⟨rfl, hJ⟩ := h
  exact jm_icmp_eq (tgt := 1335) d_L_law_1094 (by decide) (fun _ => jm_wid (Nat.le_succ _) (Nat.le_add_right _ 6) (k m2 hJ)) (fun z => absurd rfl z)
theorem q_law_1099 (hN : jm_sL E < 2147483648) (b0 : 0 ≤ v) (b1 : v + 6 ≤ (jm_sL E : Int)) (hc : cs + 1 ≤ C2) (hs : sl + 6 ≤ S2) (hI : jI μ) (k : ∀ ν, jI ν → jm_G E m_L_law (jm_rm 61 C2 S2) jm_N jm_N (cs + 1) (sl + 6) 1335 [some (jm_R (-2)), some (jm_R 0), some (jm_R 133), some (jm_R 164), some (jm_I v), none, none] [] ν Q) : jm_G E m_L_law (jm_rm 61 C2 S2) jm_N jm_N cs sl 1099 [some (jm_R (-2)), some (jm_R 0), some (jm_R 133), some (jm_R 164), some (jm_I v), none, none] [] μ Q := by
  refine jm_aloadn d_L_law_1099 rfl ?_
  refine jm_aloadn d_L_law_1100 rfl ?_
  refine jm_iload d_L_law_1101 rfl ?_
  refine jm_iconst (v := 1) d_L_law_1103 rfl (jm_okI (by decide) (by decide)) ?_
  refine jm_iadd d_L_law_1104 ?_
  refine jm_sld d_L_law_1105 (jl_b hN b0 b1 (k := 1) (by decide) (by decide)).1 (jl_b hN b0 b1 (k := 1) (by decide) (by decide)).2 ?_
  refine jm_aloadn d_L_law_1106 rfl ?_
  refine jm_iload d_L_law_1107 rfl ?_
  refine jm_iconst (v := 2) d_L_law_1109 rfl (jm_okI (by decide) (by decide)) ?_
  refine jm_iadd d_L_law_1110 ?_
  refine jm_sld d_L_law_1111 (jl_b hN b0 b1 (k := 2) (by decide) (by decide)).1 (jl_b hN b0 b1 (k := 2) (by decide) (by decide)).2 ?_
  refine jm_aloadn d_L_law_1112 rfl ?_
  refine jm_iload d_L_law_1113 rfl ?_
  refine jm_iconst (v := 3) d_L_law_1115 rfl (jm_okI (by decide) (by decide)) ?_
  refine jm_iadd d_L_law_1116 ?_
  refine jm_sld d_L_law_1117 (jl_b hN b0 b1 (k := 3) (by decide) (by decide)).1 (jl_b hN b0 b1 (k := 3) (by decide) (by decide)).2 ?_
  refine jm_aloadn d_L_law_1118 rfl ?_
  refine jm_iload d_L_law_1119 rfl ?_
  refine jm_iconst (v := 4) d_L_law_1121 rfl (jm_okI (by decide) (by decide)) ?_
  refine jm_iadd d_L_law_1122 ?_
  refine jm_sld d_L_law_1123 (jl_b hN b0 b1 (k := 4) (by decide) (by decide)).1 (jl_b hN b0 b1 (k := 4) (by decide) (by decide)).2 ?_
  refine jm_invV (d := 60) (n1 := jm_N) (mc := 0) (ms := 0) (av := [jm_I _, jm_I _, jm_I _, jm_I _]) w_X10_game l_L_148 d_L_law_1124 rfl is_0 ⟨_, _, rfl⟩ ⟨by omega, by omega⟩ (Nat.le_of_ble_eq_true rfl) rfl ?_
  refine jm_Cl.mono (jS_game hI) (fun o m h hr _ => ?_)
  obtain ⟨r, rfl⟩ := jm_rokI hr
  have h := h r rfl
  refine jm_aloadn d_L_law_1127 rfl ?_
  refine jm_aloadn d_L_law_1128 rfl ?_
  refine jm_iload d_L_law_1129 rfl ?_
  refine jm_iconst (v := 1) d_L_law_1131 rfl (jm_okI (by decide) (by decide)) ?_
  refine jm_iadd d_L_law_1132 ?_
  refine jm_sld d_L_law_1133 (jl_b hN b0 b1 (k := 1) (by decide) (by decide)).1 (jl_b hN b0 b1 (k := 1) (by decide) (by decide)).2 ?_
  refine jm_aloadn d_L_law_1134 rfl ?_
  refine jm_iload d_L_law_1135 rfl ?_
  refine jm_iconst (v := 2) d_L_law_1137 rfl (jm_okI (by decide) (by decide)) ?_
  refine jm_iadd d_L_law_1138 ?_
  refine jm_sld d_L_law_1139 (jl_b hN b0 b1 (k := 2) (by decide) (by decide)).1 (jl_b hN b0 b1 (k := 2) (by decide) (by decide)).2 ?_
  refine jm_aloadn d_L_law_1140 rfl ?_
  refine jm_iload d_L_law_1141 rfl ?_
  refine jm_iconst (v := 3) d_L_law_1143 rfl (jm_okI (by decide) (by decide)) ?_
  refine jm_iadd d_L_law_1144 ?_
  refine jm_sld d_L_law_1145 (jl_b hN b0 b1 (k := 3) (by decide) (by decide)).1 (jl_b hN b0 b1 (k := 3) (by decide) (by decide)).2 ?_
  refine jm_aloadn d_L_law_1146 rfl ?_
  refine jm_iload d_L_law_1147 rfl ?_
  refine jm_iconst (v := 4) d_L_law_1149 rfl (jm_okI (by decide) (by decide)) ?_
  refine jm_iadd d_L_law_1150 ?_
  refine jm_sld d_L_law_1151 (jl_b hN b0 b1 (k := 4) (by decide) (by decide)).1 (jl_b hN b0 b1 (k := 4) (by decide) (by decide)).2 ?_
  refine jm_invV (d := 60) (n1 := jm_N) (mc := 0) (ms := 0) (av := [jm_I _, jm_I _, jm_I _, jm_I _]) w_X11_game l_L_151 d_L_law_1152 rfl is_133 ⟨_, _, rfl⟩ ⟨by omega, by omega⟩ (Nat.le_of_ble_eq_true rfl) rfl ?_
  refine jm_Cl.mono h (fun o m2 h _ _ => ?_)
  obtain ⟨rfl, hJ⟩ := h
  exact jm_icmp_eq (tgt := 1335) d_L_law_1155 (by decide) (fun _ => jm_wid (Nat.le_succ _) (Nat.le_add_right _ 6) (k m2 hJ)) (fun z => absurd rfl z)
theorem q_law_1160 (hN : jm_sL E < 2147483648) (b0 : 0 ≤ v) (b1 : v + 6 ≤ (jm_sL E : Int)) (hc : cs + 1 ≤ C2) (hs : sl + 6 ≤ S2) (hI : jI μ) (k : ∀ ν, jI ν → jm_G E m_L_law (jm_rm 61 C2 S2) jm_N jm_N (cs + 1) (sl + 6) 1335 [some (jm_R (-2)), some (jm_R 0), some (jm_R 133), some (jm_R 164), some (jm_I v), none, none] [] ν Q) : jm_G E m_L_law (jm_rm 61 C2 S2) jm_N jm_N cs sl 1160 [some (jm_R (-2)), some (jm_R 0), some (jm_R 133), some (jm_R 164), some (jm_I v), none, none] [] μ Q := by
  refine jm_aloadn d_L_law_1160 rfl ?_
  refine jm_aloadn d_L_law_1161 rfl ?_
  refine jm_iload d_L_law_1162 rfl ?_
  refine jm_iconst (v := 1) d_L_law_1164 rfl (jm_okI (by decide) (by decide)) ?_
  refine jm_iadd d_L_law_1165 ?_
  refine jm_sld d_L_law_1166 (jl_b hN b0 b1 (k := 1) (by decide) (by decide)).1 (jl_b hN b0 b1 (k := 1) (by decide) (by decide)).2 ?_
  refine jm_invV (d := 60) (n1 := jm_N) (mc := 0) (ms := 0) (av := [jm_I _]) w_X10_found l_L_152 d_L_law_1167 rfl is_0 ⟨_, _, rfl⟩ ⟨by omega, by omega⟩ (Nat.le_of_ble_eq_true rfl) rfl ?_
  refine jm_Cl.mono (jS_found hI) (fun o m h hr _ => ?_)
  obtain ⟨r, rfl⟩ := jm_rokI hr
  have h := h r rfl
  refine jm_aloadn d_L_law_1170 rfl ?_
  refine jm_aloadn d_L_law_1171 rfl ?_
  refine jm_iload d_L_law_1172 rfl ?_
  refine jm_iconst (v := 1) d_L_law_1174 rfl (jm_okI (by decide) (by decide)) ?_
  refine jm_iadd d_L_law_1175 ?_
  refine jm_sld d_L_law_1176 (jl_b hN b0 b1 (k := 1) (by decide) (by decide)).1 (jl_b hN b0 b1 (k := 1) (by decide) (by decide)).2 ?_
  refine jm_invV (d := 60) (n1 := jm_N) (mc := 0) (ms := 0) (av := [jm_I _]) w_X11_found l_L_155 d_L_law_1177 rfl is_133 ⟨_, _, rfl⟩ ⟨by omega, by omega⟩ (Nat.le_of_ble_eq_true rfl) rfl ?_
  refine jm_Cl.mono h (fun o m2 h _ _ => ?_)
  obtain ⟨rfl, hJ⟩ := h
  exact jm_icmp_eq (tgt := 1335) d_L_law_1180 (by decide) (fun _ => jm_wid (Nat.le_succ _) (Nat.le_add_right _ 6) (k m2 hJ)) (fun z => absurd rfl z)
theorem q_law_1185 (hN : jm_sL E < 2147483648) (b0 : 0 ≤ v) (b1 : v + 6 ≤ (jm_sL E : Int)) (hc : cs + 1 ≤ C2) (hs : sl + 6 ≤ S2) (hI : jI μ) (k : ∀ ν, jI ν → jm_G E m_L_law (jm_rm 61 C2 S2) jm_N jm_N (cs + 1) (sl + 6) 1335 [some (jm_R (-2)), some (jm_R 0), some (jm_R 133), some (jm_R 164), some (jm_I v), none, none] [] ν Q) : jm_G E m_L_law (jm_rm 61 C2 S2) jm_N jm_N cs sl 1185 [some (jm_R (-2)), some (jm_R 0), some (jm_R 133), some (jm_R 164), some (jm_I v), none, none] [] μ Q := by
  refine jm_aloadn d_L_law_1185 rfl ?_
  refine jm_aloadn d_L_law_1186 rfl ?_
  refine jm_iload d_L_law_1187 rfl ?_
  refine jm_iconst (v := 1) d_L_law_1189 rfl (jm_okI (by decide) (by decide)) ?_
  refine jm_iadd d_L_law_1190 ?_
  refine jm_sld d_L_law_1191 (jl_b hN b0 b1 (k := 1) (by decide) (by decide)).1 (jl_b hN b0 b1 (k := 1) (by decide) (by decide)).2 ?_
  refine jm_aloadn d_L_law_1192 rfl ?_
  refine jm_iload d_L_law_1193 rfl ?_
  refine jm_iconst (v := 2) d_L_law_1195 rfl (jm_okI (by decide) (by decide)) ?_
  refine jm_iadd d_L_law_1196 ?_
  refine jm_sld d_L_law_1197 (jl_b hN b0 b1 (k := 2) (by decide) (by decide)).1 (jl_b hN b0 b1 (k := 2) (by decide) (by decide)).2 ?_
  refine jm_invV (d := 60) (n1 := jm_N) (mc := 0) (ms := 0) (av := [jm_I _, jm_I _]) w_X10_unlike l_L_156 d_L_law_1198 rfl is_0 ⟨_, _, rfl⟩ ⟨by omega, by omega⟩ (Nat.le_of_ble_eq_true rfl) rfl ?_
  refine jm_Cl.mono (jS_unlike hI) (fun o m h hr _ => ?_)
  obtain ⟨r, rfl⟩ := jm_rokI hr
  have h := h r rfl
  refine jm_aloadn d_L_law_1201 rfl ?_
  refine jm_aloadn d_L_law_1202 rfl ?_
  refine jm_iload d_L_law_1203 rfl ?_
  refine jm_iconst (v := 1) d_L_law_1205 rfl (jm_okI (by decide) (by decide)) ?_
  refine jm_iadd d_L_law_1206 ?_
  refine jm_sld d_L_law_1207 (jl_b hN b0 b1 (k := 1) (by decide) (by decide)).1 (jl_b hN b0 b1 (k := 1) (by decide) (by decide)).2 ?_
  refine jm_aloadn d_L_law_1208 rfl ?_
  refine jm_iload d_L_law_1209 rfl ?_
  refine jm_iconst (v := 2) d_L_law_1211 rfl (jm_okI (by decide) (by decide)) ?_
  refine jm_iadd d_L_law_1212 ?_
  refine jm_sld d_L_law_1213 (jl_b hN b0 b1 (k := 2) (by decide) (by decide)).1 (jl_b hN b0 b1 (k := 2) (by decide) (by decide)).2 ?_
  refine jm_invV (d := 60) (n1 := jm_N) (mc := 0) (ms := 0) (av := [jm_I _, jm_I _]) w_X11_unlike l_L_159 d_L_law_1214 rfl is_133 ⟨_, _, rfl⟩ ⟨by omega, by omega⟩ (Nat.le_of_ble_eq_true rfl) rfl ?_
  refine jm_Cl.mono h (fun o m2 h _ _ => ?_)
  obtain ⟨rfl, hJ⟩ := h
  exact jm_icmp_eq (tgt := 1335) d_L_law_1217 (by decide) (fun _ => jm_wid (Nat.le_succ _) (Nat.le_add_right _ 6) (k m2 hJ)) (fun z => absurd rfl z)
theorem q_law_1222 (hN : jm_sL E < 2147483648) (b0 : 0 ≤ v) (b1 : v + 6 ≤ (jm_sL E : Int)) (hc : cs + 1 ≤ C2) (hs : sl + 6 ≤ S2) (hI : jI μ) (k : ∀ ν, jI ν → jm_G E m_L_law (jm_rm 61 C2 S2) jm_N jm_N (cs + 1) (sl + 6) 1335 [some (jm_R (-2)), some (jm_R 0), some (jm_R 133), some (jm_R 164), some (jm_I v), none, none] [] ν Q) : jm_G E m_L_law (jm_rm 61 C2 S2) jm_N jm_N cs sl 1222 [some (jm_R (-2)), some (jm_R 0), some (jm_R 133), some (jm_R 164), some (jm_I v), none, none] [] μ Q := by
  refine jm_aloadn d_L_law_1222 rfl ?_
  refine jm_invV (d := 60) (n1 := jm_N) (mc := 0) (ms := 0) (av := []) w_X10_sentence l_L_160 d_L_law_1223 rfl is_0 ⟨_, _, rfl⟩ ⟨by omega, by omega⟩ (Nat.le_of_ble_eq_true rfl) rfl ?_
  refine jm_Cl.mono (jS_sentence hI) (fun o m h hr _ => ?_)
  obtain ⟨r, rfl⟩ := jm_rokI hr
  have h := h r rfl
  refine jm_aloadn d_L_law_1226 rfl ?_
  refine jm_invV (d := 60) (n1 := jm_N) (mc := 0) (ms := 0) (av := []) w_X11_sentence l_L_163 d_L_law_1227 rfl is_133 ⟨_, _, rfl⟩ ⟨by omega, by omega⟩ (Nat.le_of_ble_eq_true rfl) rfl ?_
  refine jm_Cl.mono h (fun o m2 h _ _ => ?_)
  obtain ⟨rfl, hJ⟩ := h
  exact jm_icmp_eq (tgt := 1335) d_L_law_1230 (by decide) (fun _ => jm_wid (Nat.le_succ _) (Nat.le_add_right _ 6) (k m2 hJ)) (fun z => absurd rfl z)
theorem q_law_1235 (hN : jm_sL E < 2147483648) (b0 : 0 ≤ v) (b1 : v + 6 ≤ (jm_sL E : Int)) (hc : cs + 1 ≤ C2) (hs : sl + 6 ≤ S2) (hI : jI μ) (k : ∀ ν, jI ν → jm_G E m_L_law (jm_rm 61 C2 S2) jm_N jm_N (cs + 1) (sl + 6) 1335 [some (jm_R (-2)), some (jm_R 0), some (jm_R 133), some (jm_R 164), some (jm_I v), none, none] [] ν Q) : jm_G E m_L_law (jm_rm 61 C2 S2) jm_N jm_N cs sl 1235 [some (jm_R (-2)), some (jm_R 0), some (jm_R 133), some (jm_R 164), some (jm_I v), none, none] [] μ Q := by
  refine jm_aloadn d_L_law_1235 rfl ?_
  refine jm_aloadn d_L_law_1236 rfl ?_
  refine jm_iload d_L_law_1237 rfl ?_
  refine jm_iconst (v := 1) d_L_law_1239 rfl (jm_okI (by decide) (by decide)) ?_
  refine jm_iadd d_L_law_1240 ?_
  refine jm_sld d_L_law_1241 (jl_b hN b0 b1 (k := 1) (by decide) (by decide)).1 (jl_b hN b0 b1 (k := 1) (by decide) (by decide)).2 ?_
  refine jm_invV (d := 60) (n1 := jm_N) (mc := 0) (ms := 0) (av := [jm_I _]) w_X10_said l_L_164 d_L_law_1242 rfl is_0 ⟨_, _, rfl⟩ ⟨by omega, by omega⟩ (Nat.le_of_ble_eq_true rfl) rfl ?_
  refine jm_Cl.mono (jS_said hI) (fun o m h hr _ => ?_)
  obtain ⟨r, rfl⟩ := jm_rokI hr
  have h := h r rfl
  refine jm_aloadn d_L_law_1245 rfl ?_
  refine jm_aloadn d_L_law_1246 rfl ?_
  refine jm_iload d_L_law_1247 rfl ?_
  refine jm_iconst (v := 1) d_L_law_1249 rfl (jm_okI (by decide) (by decide)) ?_
  refine jm_iadd d_L_law_1250 ?_
  refine jm_sld d_L_law_1251 (jl_b hN b0 b1 (k := 1) (by decide) (by decide)).1 (jl_b hN b0 b1 (k := 1) (by decide) (by decide)).2 ?_
  refine jm_invV (d := 60) (n1 := jm_N) (mc := 0) (ms := 0) (av := [jm_I _]) w_X11_said l_L_167 d_L_law_1252 rfl is_133 ⟨_, _, rfl⟩ ⟨by omega, by omega⟩ (Nat.le_of_ble_eq_true rfl) rfl ?_
  refine jm_Cl.mono h (fun o m2 h _ _ => ?_)
  obtain ⟨rfl, hJ⟩ := h
  exact jm_icmp_eq (tgt := 1335) d_L_law_1255 (by decide) (fun _ => jm_wid (Nat.le_succ _) (Nat.le_add_right _ 6) (k m2 hJ)) (fun z => absurd rfl z)
theorem q_law_1260 (hN : jm_sL E < 2147483648) (b0 : 0 ≤ v) (b1 : v + 6 ≤ (jm_sL E : Int)) (hc : cs + 1 ≤ C2) (hs : sl + 6 ≤ S2) (hI : jI μ) (k : ∀ ν, jI ν → jm_G E m_L_law (jm_rm 61 C2 S2) jm_N jm_N (cs + 1) (sl + 6) 1335 [some (jm_R (-2)), some (jm_R 0), some (jm_R 133), some (jm_R 164), some (jm_I v), none, none] [] ν Q) : jm_G E m_L_law (jm_rm 61 C2 S2) jm_N jm_N cs sl 1260 [some (jm_R (-2)), some (jm_R 0), some (jm_R 133), some (jm_R 164), some (jm_I v), none, none] [] μ Q := by
  refine jm_aloadn d_L_law_1260 rfl ?_
  refine jm_aloadn d_L_law_1261 rfl ?_
  refine jm_iload d_L_law_1262 rfl ?_
  refine jm_iconst (v := 1) d_L_law_1264 rfl (jm_okI (by decide) (by decide)) ?_
  refine jm_iadd d_L_law_1265 ?_
  refine jm_sld d_L_law_1266 (jl_b hN b0 b1 (k := 1) (by decide) (by decide)).1 (jl_b hN b0 b1 (k := 1) (by decide) (by decide)).2 ?_
  refine jm_invV (d := 60) (n1 := jm_N) (mc := 0) (ms := 0) (av := [jm_I _]) w_X10_image l_L_168 d_L_law_1267 rfl is_0 ⟨_, _, rfl⟩ ⟨by omega, by omega⟩ (Nat.le_of_ble_eq_true rfl) rfl ?_
  refine jm_Cl.mono (jS_image hI) (fun o m h hr _ => ?_)
  obtain ⟨r, rfl, -⟩ := jm_rokZ hr
  have h := h r rfl
  refine jm_aloadn d_L_law_1270 rfl ?_
  refine jm_aloadn d_L_law_1271 rfl ?_
  refine jm_iload d_L_law_1272 rfl ?_
  refine jm_iconst (v := 1) d_L_law_1274 rfl (jm_okI (by decide) (by decide)) ?_
  refine jm_iadd d_L_law_1275 ?_
  refine jm_sld d_L_law_1276 (jl_b hN b0 b1 (k := 1) (by decide) (by decide)).1 (jl_b hN b0 b1 (k := 1) (by decide) (by decide)).2 ?_
  refine jm_invV (d := 60) (n1 := jm_N) (mc := 0) (ms := 0) (av := [jm_I _]) w_X11_image l_L_171 d_L_law_1277 rfl is_133 ⟨_, _, rfl⟩ ⟨by omega, by omega⟩ (Nat.le_of_ble_eq_true rfl) rfl ?_
  refine jm_Cl.mono h (fun o m2 h _ _ => ?_)
  obtain ⟨rfl, hJ⟩ := h
  exact jm_icmp_eq (tgt := 1335) d_L_law_1280 (by decide) (fun _ => jm_wid (Nat.le_succ _) (Nat.le_add_right _ 6) (k m2 hJ)) (fun z => absurd rfl z)
theorem q_law_1285 (hN : jm_sL E < 2147483648) (b0 : 0 ≤ v) (b1 : v + 6 ≤ (jm_sL E : Int)) (hc : cs + 1 ≤ C2) (hs : sl + 6 ≤ S2) (hI : jI μ) (k : ∀ ν, jI ν → jm_G E m_L_law (jm_rm 61 C2 S2) jm_N jm_N (cs + 1) (sl + 6) 1335 [some (jm_R (-2)), some (jm_R 0), some (jm_R 133), some (jm_R 164), some (jm_I v), none, none] [] ν Q) : jm_G E m_L_law (jm_rm 61 C2 S2) jm_N jm_N cs sl 1285 [some (jm_R (-2)), some (jm_R 0), some (jm_R 133), some (jm_R 164), some (jm_I v), none, none] [] μ Q := by
  refine jm_aloadn d_L_law_1285 rfl ?_
  refine jm_aloadn d_L_law_1286 rfl ?_
  refine jm_iload d_L_law_1287 rfl ?_
  refine jm_iconst (v := 1) d_L_law_1289 rfl (jm_okI (by decide) (by decide)) ?_
  refine jm_iadd d_L_law_1290 ?_
  refine jm_sld d_L_law_1291 (jl_b hN b0 b1 (k := 1) (by decide) (by decide)).1 (jl_b hN b0 b1 (k := 1) (by decide) (by decide)).2 ?_
  refine jm_invV (d := 60) (n1 := jm_N) (mc := 0) (ms := 0) (av := [jm_I _]) w_X10_restore l_L_172 d_L_law_1292 rfl is_0 ⟨_, _, rfl⟩ ⟨by omega, by omega⟩ (Nat.le_of_ble_eq_true rfl) rfl ?_
  refine jm_Cl.mono (jS_restore hI) (fun o m h hr _ => ?_)
  obtain ⟨r, rfl, -⟩ := jm_rokZ hr
  have h := h r rfl
  refine jm_aloadn d_L_law_1295 rfl ?_
  refine jm_aloadn d_L_law_1296 rfl ?_
  refine jm_iload d_L_law_1297 rfl ?_
  refine jm_iconst (v := 1) d_L_law_1299 rfl (jm_okI (by decide) (by decide)) ?_
  refine jm_iadd d_L_law_1300 ?_
  refine jm_sld d_L_law_1301 (jl_b hN b0 b1 (k := 1) (by decide) (by decide)).1 (jl_b hN b0 b1 (k := 1) (by decide) (by decide)).2 ?_
  refine jm_invV (d := 60) (n1 := jm_N) (mc := 0) (ms := 0) (av := [jm_I _]) w_X11_restore l_L_175 d_L_law_1302 rfl is_133 ⟨_, _, rfl⟩ ⟨by omega, by omega⟩ (Nat.le_of_ble_eq_true rfl) rfl ?_
  refine jm_Cl.mono h (fun o m2 h _ _ => ?_)
  obtain ⟨rfl, hJ⟩ := h
  exact jm_icmp_eq (tgt := 1335) d_L_law_1305 (by decide) (fun _ => jm_wid (Nat.le_succ _) (Nat.le_add_right _ 6) (k m2 hJ)) (fun z => absurd rfl z)
theorem q_law_1310 (hN : jm_sL E < 2147483648) (b0 : 0 ≤ v) (b1 : v + 6 ≤ (jm_sL E : Int)) (hc : cs + 1 ≤ C2) (hs : sl + 6 ≤ S2) (hI : jI μ) (k : ∀ ν, jI ν → jm_G E m_L_law (jm_rm 61 C2 S2) jm_N jm_N (cs + 1) (sl + 6) 1335 [some (jm_R (-2)), some (jm_R 0), some (jm_R 133), some (jm_R 164), some (jm_I v), none, none] [] ν Q) : jm_G E m_L_law (jm_rm 61 C2 S2) jm_N jm_N cs sl 1310 [some (jm_R (-2)), some (jm_R 0), some (jm_R 133), some (jm_R 164), some (jm_I v), none, none] [] μ Q := by
  refine jm_aloadn d_L_law_1310 rfl ?_
  refine jm_aloadn d_L_law_1311 rfl ?_
  refine jm_iload d_L_law_1312 rfl ?_
  refine jm_iconst (v := 1) d_L_law_1314 rfl (jm_okI (by decide) (by decide)) ?_
  refine jm_iadd d_L_law_1315 ?_
  refine jm_sld d_L_law_1316 (jl_b hN b0 b1 (k := 1) (by decide) (by decide)).1 (jl_b hN b0 b1 (k := 1) (by decide) (by decide)).2 ?_
  refine jm_invV (d := 60) (n1 := jm_N) (mc := 0) (ms := 0) (av := [jm_I _]) w_X10_count l_L_176 d_L_law_1317 rfl is_0 ⟨_, _, rfl⟩ ⟨by omega, by omega⟩ (Nat.le_of_ble_eq_true rfl) rfl ?_
  refine jm_Cl.mono (jS_count hI) (fun o m h hr _ => ?_)
  obtain ⟨r, rfl⟩ := jm_rokI hr
  have h := h r rfl
  refine jm_aloadn d_L_law_1320 rfl ?_
  refine jm_aloadn d_L_law_1321 rfl ?_
  refine jm_iload d_L_law_1322 rfl ?_
  refine jm_iconst (v := 1) d_L_law_1324 rfl (jm_okI (by decide) (by decide)) ?_
  refine jm_iadd d_L_law_1325 ?_
  refine jm_sld d_L_law_1326 (jl_b hN b0 b1 (k := 1) (by decide) (by decide)).1 (jl_b hN b0 b1 (k := 1) (by decide) (by decide)).2 ?_
  refine jm_invV (d := 60) (n1 := jm_N) (mc := 0) (ms := 0) (av := [jm_I _]) w_X11_count l_L_179 d_L_law_1327 rfl is_133 ⟨_, _, rfl⟩ ⟨by omega, by omega⟩ (Nat.le_of_ble_eq_true rfl) rfl ?_
  refine jm_Cl.mono h (fun o m2 h _ _ => ?_)
  obtain ⟨rfl, hJ⟩ := h
  exact jm_icmp_eq (tgt := 1335) d_L_law_1330 (by decide) (fun _ => jm_wid (Nat.le_succ _) (Nat.le_add_right _ 6) (k m2 hJ)) (fun z => absurd rfl z)
end LW
