/-! the law's loop -/
section LP
variable {E : jm_E} {C2 S2 : Nat}
def jl_Q : Option jm_V → jm_M → Prop := fun o _ => o = some (jm_I 1)
theorem q_switch {v x : Int} {cs sl : Nat} {μ : jm_M} {Q : Option jm_V → jm_M → Prop} (hN : jm_sL E < 2147483648) (b0 : 0 ≤ v) (b1 : v + 6 ≤ (jm_sL E : Int)) (hc : cs + 1 ≤ C2) (hs : sl + 6 ≤ S2) (hI : jI μ) (k : ∀ ν, jI ν → jm_G E m_L_law (jm_rm 61 C2 S2) jm_N jm_N (cs + 1) (sl + 6) 1335 [some (jm_R (-2)), some (jm_R 0), some (jm_R 133), some (jm_R 164), some (jm_I v), none, none] [] ν Q) : jm_G E m_L_law (jm_rm 61 C2 S2) jm_N jm_N cs sl 40 [some (jm_R (-2)), some (jm_R 0), some (jm_R 133), some (jm_R 164), some (jm_I v), none, none] [jm_I x] μ Q := by
  by_cases c0 : x = 0
  · exact jm_table (tgt := 204) (off := 164) d_L_law_40 (by rw [c0]; decide) (by rw [c0]; decide) (by rw [c0]; rfl) (by decide) (q_law_204 hN b0 b1 hc hs hI k)
  by_cases c1 : x = 1
  · exact jm_table (tgt := 277) (off := 237) d_L_law_40 (by rw [c1]; decide) (by rw [c1]; decide) (by rw [c1]; rfl) (by decide) (q_law_277 hN b0 b1 hc hs hI k)
  by_cases c2 : x = 2
  · exact jm_table (tgt := 302) (off := 262) d_L_law_40 (by rw [c2]; decide) (by rw [c2]; decide) (by rw [c2]; rfl) (by decide) (q_law_302 hN b0 b1 hc hs hI k)
  by_cases c3 : x = 3
  · exact jm_table (tgt := 315) (off := 275) d_L_law_40 (by rw [c3]; decide) (by rw [c3]; decide) (by rw [c3]; rfl) (by decide) (q_law_315 hN b0 b1 hc hs hI k)
  by_cases c4 : x = 4
  · exact jm_table (tgt := 328) (off := 288) d_L_law_40 (by rw [c4]; decide) (by rw [c4]; decide) (by rw [c4]; rfl) (by decide) (q_law_328 hN b0 b1 hc hs hI k)
  by_cases c5 : x = 5
  · exact jm_table (tgt := 353) (off := 313) d_L_law_40 (by rw [c5]; decide) (by rw [c5]; decide) (by rw [c5]; rfl) (by decide) (q_law_353 hN b0 b1 hc hs hI k)
  by_cases c6 : x = 6
  · exact jm_table (tgt := 421) (off := 381) d_L_law_40 (by rw [c6]; decide) (by rw [c6]; decide) (by rw [c6]; rfl) (by decide) (q_law_421 hN b0 b1 hc hs hI k)
  by_cases c7 : x = 7
  · exact jm_table (tgt := 458) (off := 418) d_L_law_40 (by rw [c7]; decide) (by rw [c7]; decide) (by rw [c7]; rfl) (by decide) (q_law_458 hN b0 b1 hc hs hI k)
  by_cases c8 : x = 8
  · exact jm_table (tgt := 495) (off := 455) d_L_law_40 (by rw [c8]; decide) (by rw [c8]; decide) (by rw [c8]; rfl) (by decide) (q_law_495 hN b0 b1 hc hs hI k)
  by_cases c9 : x = 9
  · exact jm_table (tgt := 520) (off := 480) d_L_law_40 (by rw [c9]; decide) (by rw [c9]; decide) (by rw [c9]; rfl) (by decide) (q_law_520 hN b0 b1 hc hs hI k)
  by_cases c10 : x = 10
  · exact jm_table (tgt := 533) (off := 493) d_L_law_40 (by rw [c10]; decide) (by rw [c10]; decide) (by rw [c10]; rfl) (by decide) (q_law_533 hN b0 b1 hc hs hI k)
  by_cases c11 : x = 11
  · exact jm_table (tgt := 546) (off := 506) d_L_law_40 (by rw [c11]; decide) (by rw [c11]; decide) (by rw [c11]; rfl) (by decide) (q_law_546 hN b0 b1 hc hs hI k)
  by_cases c12 : x = 12
  · exact jm_table (tgt := 559) (off := 519) d_L_law_40 (by rw [c12]; decide) (by rw [c12]; decide) (by rw [c12]; rfl) (by decide) (q_law_559 hN b0 b1 hc hs hI k)
  by_cases c13 : x = 13
  · exact jm_table (tgt := 627) (off := 587) d_L_law_40 (by rw [c13]; decide) (by rw [c13]; decide) (by rw [c13]; rfl) (by decide) (q_law_627 hN b0 b1 hc hs hI k)
  by_cases c14 : x = 14
  · exact jm_table (tgt := 640) (off := 600) d_L_law_40 (by rw [c14]; decide) (by rw [c14]; decide) (by rw [c14]; rfl) (by decide) (q_law_640 hN b0 b1 hc hs hI k)
  by_cases c15 : x = 15
  · exact jm_table (tgt := 677) (off := 637) d_L_law_40 (by rw [c15]; decide) (by rw [c15]; decide) (by rw [c15]; rfl) (by decide) (q_law_677 hN b0 b1 hc hs hI k)
  by_cases c16 : x = 16
  · exact jm_table (tgt := 714) (off := 674) d_L_law_40 (by rw [c16]; decide) (by rw [c16]; decide) (by rw [c16]; rfl) (by decide) (q_law_714 hN b0 b1 hc hs hI k)
  by_cases c17 : x = 17
  · exact jm_table (tgt := 763) (off := 723) d_L_law_40 (by rw [c17]; decide) (by rw [c17]; decide) (by rw [c17]; rfl) (by decide) (q_law_763 hN b0 b1 hc hs hI k)
  by_cases c18 : x = 18
  · exact jm_table (tgt := 776) (off := 736) d_L_law_40 (by rw [c18]; decide) (by rw [c18]; decide) (by rw [c18]; rfl) (by decide) (q_law_776 hN b0 b1 hc hs hI k)
  by_cases c19 : x = 19
  · exact jm_table (tgt := 801) (off := 761) d_L_law_40 (by rw [c19]; decide) (by rw [c19]; decide) (by rw [c19]; rfl) (by decide) (q_law_801 hN b0 b1 hc hs hI k)
  by_cases c20 : x = 20
  · exact jm_table (tgt := 838) (off := 798) d_L_law_40 (by rw [c20]; decide) (by rw [c20]; decide) (by rw [c20]; rfl) (by decide) (q_law_838 hN b0 b1 hc hs hI k)
  by_cases c21 : x = 21
  · exact jm_table (tgt := 851) (off := 811) d_L_law_40 (by rw [c21]; decide) (by rw [c21]; decide) (by rw [c21]; rfl) (by decide) (q_law_851 hN b0 b1 hc hs hI k)
  by_cases c22 : x = 22
  · exact jm_table (tgt := 864) (off := 824) d_L_law_40 (by rw [c22]; decide) (by rw [c22]; decide) (by rw [c22]; rfl) (by decide) (q_law_864 hN b0 b1 hc hs hI k)
  by_cases c23 : x = 23
  · exact jm_table (tgt := 877) (off := 837) d_L_law_40 (by rw [c23]; decide) (by rw [c23]; decide) (by rw [c23]; rfl) (by decide) (q_law_877 hN b0 b1 hc hs hI k)
  by_cases c24 : x = 24
  · exact jm_table (tgt := 890) (off := 850) d_L_law_40 (by rw [c24]; decide) (by rw [c24]; decide) (by rw [c24]; rfl) (by decide) (q_law_890 hN b0 b1 hc hs hI k)
  by_cases c25 : x = 25
  · exact jm_table (tgt := 915) (off := 875) d_L_law_40 (by rw [c25]; decide) (by rw [c25]; decide) (by rw [c25]; rfl) (by decide) (q_law_915 hN b0 b1 hc hs hI k)
  by_cases c26 : x = 26
  · exact jm_table (tgt := 952) (off := 912) d_L_law_40 (by rw [c26]; decide) (by rw [c26]; decide) (by rw [c26]; rfl) (by decide) (q_law_952 hN b0 b1 hc hs hI k)
  by_cases c27 : x = 27
  · exact jm_table (tgt := 989) (off := 949) d_L_law_40 (by rw [c27]; decide) (by rw [c27]; decide) (by rw [c27]; rfl) (by decide) (q_law_989 hN b0 b1 hc hs hI k)
  by_cases c28 : x = 28
  · exact jm_table (tgt := 1038) (off := 998) d_L_law_40 (by rw [c28]; decide) (by rw [c28]; decide) (by rw [c28]; rfl) (by decide) (q_law_1038 hN b0 b1 hc hs hI k)
  by_cases c29 : x = 29
  · exact jm_table (tgt := 1099) (off := 1059) d_L_law_40 (by rw [c29]; decide) (by rw [c29]; decide) (by rw [c29]; rfl) (by decide) (q_law_1099 hN b0 b1 hc hs hI k)
  by_cases c30 : x = 30
  · exact jm_table (tgt := 1160) (off := 1120) d_L_law_40 (by rw [c30]; decide) (by rw [c30]; decide) (by rw [c30]; rfl) (by decide) (q_law_1160 hN b0 b1 hc hs hI k)
  by_cases c31 : x = 31
  · exact jm_table (tgt := 1185) (off := 1145) d_L_law_40 (by rw [c31]; decide) (by rw [c31]; decide) (by rw [c31]; rfl) (by decide) (q_law_1185 hN b0 b1 hc hs hI k)
  by_cases c32 : x = 32
  · exact jm_table (tgt := 1222) (off := 1182) d_L_law_40 (by rw [c32]; decide) (by rw [c32]; decide) (by rw [c32]; rfl) (by decide) (q_law_1222 hN b0 b1 hc hs hI k)
  by_cases c33 : x = 33
  · exact jm_table (tgt := 1235) (off := 1195) d_L_law_40 (by rw [c33]; decide) (by rw [c33]; decide) (by rw [c33]; rfl) (by decide) (q_law_1235 hN b0 b1 hc hs hI k)
  by_cases c34 : x = 34
  · exact jm_table (tgt := 1260) (off := 1220) d_L_law_40 (by rw [c34]; decide) (by rw [c34]; decide) (by rw [c34]; rfl) (by decide) (q_law_1260 hN b0 b1 hc hs hI k)
  by_cases c35 : x = 35
  · exact jm_table (tgt := 1285) (off := 1245) d_L_law_40 (by rw [c35]; decide) (by rw [c35]; decide) (by rw [c35]; rfl) (by decide) (q_law_1285 hN b0 b1 hc hs hI k)
  by_cases c36 : x = 36
  · exact jm_table (tgt := 1310) (off := 1270) d_L_law_40 (by rw [c36]; decide) (by rw [c36]; decide) (by rw [c36]; rfl) (by decide) (q_law_1310 hN b0 b1 hc hs hI k)
  exact jm_tableD (tgt := 1335) d_L_law_40 (jm_tb2 (jm_tb1 (jm_tb1 (jm_tb1 (jm_tb1 (jm_tb1 (jm_tb1 (jm_tb1 (jm_tb1 (jm_tb1 (jm_tb1 (jm_tb1 (jm_tb1 (jm_tb1 (jm_tb1 (jm_tb1 (jm_tb1 (jm_tb1 (jm_tb1 (jm_tb1 (jm_tb1 (jm_tb1 (jm_tb1 (jm_tb1 (jm_tb1 (jm_tb1 (jm_tb1 (jm_tb1 (jm_tb1 (jm_tb1 (jm_tb1 (jm_tb1 (jm_tb1 (jm_tb1 (jm_tb1 (jm_tb1 (jm_tb1 (jm_tb1 (jm_tb0 0) c0) c1) c2) c3) c4) c5) c6) c7) c8) c9) c10) c11) c12) c13) c14) c15) c16) c17) c18) c19) c20) c21) c22) c23) c24) c25) c26) c27) c28) c29) c30) c31) c32) c33) c34) c35) c36) rfl) (by decide) (jm_wid (Nat.le_succ _) (Nat.le_add_right _ 6) (k μ hI))
theorem q_loop (hN : jm_sL E < 2147483648) : ∀ (m : Nat) (v : Int) (cs sl : Nat) (μ : jm_M), jI μ → 0 ≤ v → (jm_sL E : Int) < v + 6 * m + 6 → cs + m ≤ C2 → sl + 6 * m ≤ S2 → jm_G E m_L_law (jm_rm 61 C2 S2) jm_N jm_N cs sl 23 [some (jm_R (-2)), some (jm_R 0), some (jm_R 133), some (jm_R 164), some (jm_I v), none, none] [] μ jl_Q := by
  intro m
  induction m with
  | zero =>
    intro v cs sl μ hI b0 b1 hc hs
    refine jm_iload d_L_law_23 rfl ?_
    refine jm_aloadn d_L_law_25 rfl ?_
    refine jm_slen hN d_L_law_26 ?_
    refine jm_bipush (v := 6) d_L_law_27 rfl (jm_okI (by decide) (by decide)) ?_
    refine jm_isub d_L_law_29 ?_
    rw [jm_wr_id (by omega) (by omega)]
    refine jm_icmp_gt (tgt := 1341) d_L_law_30 (by decide) (fun _ => ?_) (fun z => absurd (by omega) z)
    refine jm_iconst (v := 1) d_L_law_1341 rfl (jm_okI (by decide) (by decide)) ?_
    exact jm_ret (o := some (jm_I _)) d_L_law_1342 rfl ⟨by show cs ≤ C2; omega, by show sl ≤ S2; omega⟩ (jm_r_Z (by decide)) rfl rfl
  | succ m ih =>
    intro v cs sl μ hI b0 b1 hc hs
    refine jm_iload d_L_law_23 rfl ?_
    refine jm_aloadn d_L_law_25 rfl ?_
    refine jm_slen hN d_L_law_26 ?_
    refine jm_bipush (v := 6) d_L_law_27 rfl (jm_okI (by decide) (by decide)) ?_
    refine jm_isub d_L_law_29 ?_
    rw [jm_wr_id (by omega) (by omega)]
    refine jm_icmp_gt (tgt := 1341) d_L_law_30 (by decide) (fun _ => ?_) (fun z => ?_)
    · refine jm_iconst (v := 1) d_L_law_1341 rfl (jm_okI (by decide) (by decide)) ?_
      exact jm_ret (o := some (jm_I _)) d_L_law_1342 rfl ⟨by show cs ≤ C2; omega, by show sl ≤ S2; omega⟩ (jm_r_Z (by decide)) rfl rfl
    · refine jm_aloadn d_L_law_33 rfl ?_
      refine jm_iload d_L_law_34 rfl ?_
      refine jm_sld d_L_law_36 b0 (by omega) ?_
      refine jm_bipush (v := 63) d_L_law_37 rfl (jm_okI (by decide) (by decide)) ?_
      refine jm_iand d_L_law_39 ?_
      refine q_switch hN b0 (by omega) (by omega) (by omega) hI (fun ν hJ => ?_)
      refine jm_iinc (v := v + 6) (L' := [some (jm_R (-2)), some (jm_R 0), some (jm_R 133), some (jm_R 164), some (jm_I (v + 6)), none, none]) d_L_law_1335 rfl (jm_wr_id (by omega) (by omega)) (Nat.le_of_ble_eq_true rfl) rfl ?_
      refine jm_goto (tgt := 23) d_L_law_1338 (by decide) ?_
      exact ih (v + 6) (cs + 1) (sl + 6) ν hJ (by omega) (by omega) (by omega) (by omega)
end LP
