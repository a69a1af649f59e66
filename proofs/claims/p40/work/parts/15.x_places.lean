/-! places: what is an object, what a row, by program -/
theorem jm_cls {c : Nat} (P : Nat → Bool) (h : (List.range 137).all (fun p => !(jm_s p == (1, c)) || P p) = true) {a : Int} (hf : jm_is jm_N a 1 c) : ∃ k : Nat, a = k ∧ P k = true := by
  obtain ⟨h1, h2, h3, h4⟩ := hf
  obtain ⟨k, rfl⟩ := jm_nat h1
  refine ⟨k, rfl, ?_⟩
  rw [jm_sk_nat] at h3
  rw [jm_sn_nat] at h4
  have h5 := List.all_eq_true.mp h k (List.mem_range.mpr (by unfold jm_N at h2; omega))
  have h6 : jm_s k = (1, c) := Prod.ext h3 h4
  simpa [h6] using h5
theorem jm_up_lj {m : jm_M} {p i v q j : Int} (h : q ≠ p) : jm_up m p i v q j = m q j := by rw [jm_up_ne h]
theorem jm_ix_of {k t len : Nat} {i : Int} (hk : k < 137) (h : jm_s k = (t, len)) (h0 : 0 ≤ i) (h1 : i < (len : Int)) : jm_ix jm_N (k : Int) t i := by
  refine ⟨by omega, by unfold jm_N; omega, by rw [jm_sk_nat, h], h0, ?_⟩
  rw [jm_sn_nat, h]
  exact h1
theorem jm_is_of {k c : Nat} (hk : k < 137) (h : jm_s k = (1, c)) : jm_is jm_N (k : Int) 1 c := ⟨by omega, by unfold jm_N; omega, by rw [jm_sk_nat, h], by rw [jm_sn_nat, h]⟩
theorem jm_ia_of {k t len : Nat} (hk : k < 137) (h : jm_s k = (t, len)) (hl : len < 2147483648) : jm_ia jm_N (k : Int) t := ⟨by omega, by unfold jm_N; omega, by rw [jm_sk_nat, h], by rw [jm_sn_nat, h]; exact hl⟩
theorem jm_sn_of {k t len : Nat} (h : jm_s k = (t, len)) : jm_sn (k : Int) = len := by rw [jm_sn_nat, h]
theorem is_0 : jm_is jm_N 0 1 9 := jm_is_of (k := 0) (by decide) rfl
theorem is_1 : jm_is jm_N 1 1 7 := jm_is_of (k := 1) (by decide) rfl
theorem ixl_2 {i : Int} (h0 : 0 ≤ i) (h1 : i < 940) : jm_ix jm_N 2 4 i := jm_ix_of (k := 2) (by decide) rfl h0 h1
theorem is_3 : jm_is jm_N 3 1 5 := jm_is_of (k := 3) (by decide) rfl
theorem ixl_4 {i : Int} (h0 : 0 ≤ i) (h1 : i < 8) : jm_ix jm_N 4 3 i := jm_ix_of (k := 4) (by decide) rfl h0 h1
theorem ial_4 : jm_ia jm_N 4 3 := jm_ia_of (k := 4) (by decide) rfl (by decide)
theorem snl_4 : jm_sn 4 = 8 := jm_sn_of (k := 4) rfl
theorem ixl_5 {i : Int} (h0 : 0 ≤ i) (h1 : i < 8) : jm_ix jm_N 5 2 i := jm_ix_of (k := 5) (by decide) rfl h0 h1
theorem ial_5 : jm_ia jm_N 5 2 := jm_ia_of (k := 5) (by decide) rfl (by decide)
theorem snl_5 : jm_sn 5 = 8 := jm_sn_of (k := 5) rfl
theorem ixl_6 {i : Int} (h0 : 0 ≤ i) (h1 : i < 10) : jm_ix jm_N 6 3 i := jm_ix_of (k := 6) (by decide) rfl h0 h1
theorem ial_6 : jm_ia jm_N 6 3 := jm_ia_of (k := 6) (by decide) rfl (by decide)
theorem snl_6 : jm_sn 6 = 10 := jm_sn_of (k := 6) rfl
theorem ixl_7 {i : Int} (h0 : 0 ≤ i) (h1 : i < 10) : jm_ix jm_N 7 2 i := jm_ix_of (k := 7) (by decide) rfl h0 h1
theorem ial_7 : jm_ia jm_N 7 2 := jm_ia_of (k := 7) (by decide) rfl (by decide)
theorem snl_7 : jm_sn 7 = 10 := jm_sn_of (k := 7) rfl
theorem ixl_8 {i : Int} (h0 : 0 ≤ i) (h1 : i < 10) : jm_ix jm_N 8 2 i := jm_ix_of (k := 8) (by decide) rfl h0 h1
theorem ial_8 : jm_ia jm_N 8 2 := jm_ia_of (k := 8) (by decide) rfl (by decide)
theorem snl_8 : jm_sn 8 = 10 := jm_sn_of (k := 8) rfl
theorem ixl_9 {i : Int} (h0 : 0 ≤ i) (h1 : i < 10) : jm_ix jm_N 9 2 i := jm_ix_of (k := 9) (by decide) rfl h0 h1
theorem ial_9 : jm_ia jm_N 9 2 := jm_ia_of (k := 9) (by decide) rfl (by decide)
theorem snl_9 : jm_sn 9 = 10 := jm_sn_of (k := 9) rfl
theorem ixl_10 {i : Int} (h0 : 0 ≤ i) (h1 : i < 10) : jm_ix jm_N 10 2 i := jm_ix_of (k := 10) (by decide) rfl h0 h1
theorem ial_10 : jm_ia jm_N 10 2 := jm_ia_of (k := 10) (by decide) rfl (by decide)
theorem snl_10 : jm_sn 10 = 10 := jm_sn_of (k := 10) rfl
theorem ixl_11 {i : Int} (h0 : 0 ≤ i) (h1 : i < 6) : jm_ix jm_N 11 2 i := jm_ix_of (k := 11) (by decide) rfl h0 h1
theorem ial_11 : jm_ia jm_N 11 2 := jm_ia_of (k := 11) (by decide) rfl (by decide)
theorem snl_11 : jm_sn 11 = 6 := jm_sn_of (k := 11) rfl
theorem is_12 : jm_is jm_N 12 1 5 := jm_is_of (k := 12) (by decide) rfl
theorem ixl_13 {i : Int} (h0 : 0 ≤ i) (h1 : i < 8) : jm_ix jm_N 13 3 i := jm_ix_of (k := 13) (by decide) rfl h0 h1
theorem ial_13 : jm_ia jm_N 13 3 := jm_ia_of (k := 13) (by decide) rfl (by decide)
theorem snl_13 : jm_sn 13 = 8 := jm_sn_of (k := 13) rfl
theorem ixl_14 {i : Int} (h0 : 0 ≤ i) (h1 : i < 8) : jm_ix jm_N 14 2 i := jm_ix_of (k := 14) (by decide) rfl h0 h1
theorem ial_14 : jm_ia jm_N 14 2 := jm_ia_of (k := 14) (by decide) rfl (by decide)
theorem snl_14 : jm_sn 14 = 8 := jm_sn_of (k := 14) rfl
theorem ixl_15 {i : Int} (h0 : 0 ≤ i) (h1 : i < 10) : jm_ix jm_N 15 3 i := jm_ix_of (k := 15) (by decide) rfl h0 h1
theorem ial_15 : jm_ia jm_N 15 3 := jm_ia_of (k := 15) (by decide) rfl (by decide)
theorem snl_15 : jm_sn 15 = 10 := jm_sn_of (k := 15) rfl
theorem ixl_16 {i : Int} (h0 : 0 ≤ i) (h1 : i < 10) : jm_ix jm_N 16 2 i := jm_ix_of (k := 16) (by decide) rfl h0 h1
theorem ial_16 : jm_ia jm_N 16 2 := jm_ia_of (k := 16) (by decide) rfl (by decide)
theorem snl_16 : jm_sn 16 = 10 := jm_sn_of (k := 16) rfl
theorem ixl_17 {i : Int} (h0 : 0 ≤ i) (h1 : i < 10) : jm_ix jm_N 17 2 i := jm_ix_of (k := 17) (by decide) rfl h0 h1
theorem ial_17 : jm_ia jm_N 17 2 := jm_ia_of (k := 17) (by decide) rfl (by decide)
theorem snl_17 : jm_sn 17 = 10 := jm_sn_of (k := 17) rfl
theorem ixl_18 {i : Int} (h0 : 0 ≤ i) (h1 : i < 10) : jm_ix jm_N 18 2 i := jm_ix_of (k := 18) (by decide) rfl h0 h1
theorem ial_18 : jm_ia jm_N 18 2 := jm_ia_of (k := 18) (by decide) rfl (by decide)
theorem snl_18 : jm_sn 18 = 10 := jm_sn_of (k := 18) rfl
theorem ixl_19 {i : Int} (h0 : 0 ≤ i) (h1 : i < 10) : jm_ix jm_N 19 2 i := jm_ix_of (k := 19) (by decide) rfl h0 h1
theorem ial_19 : jm_ia jm_N 19 2 := jm_ia_of (k := 19) (by decide) rfl (by decide)
theorem snl_19 : jm_sn 19 = 10 := jm_sn_of (k := 19) rfl
theorem ixl_20 {i : Int} (h0 : 0 ≤ i) (h1 : i < 6) : jm_ix jm_N 20 2 i := jm_ix_of (k := 20) (by decide) rfl h0 h1
theorem ial_20 : jm_ia jm_N 20 2 := jm_ia_of (k := 20) (by decide) rfl (by decide)
theorem snl_20 : jm_sn 20 = 6 := jm_sn_of (k := 20) rfl
theorem is_21 : jm_is jm_N 21 1 6 := jm_is_of (k := 21) (by decide) rfl
theorem is_22 : jm_is jm_N 22 1 5 := jm_is_of (k := 22) (by decide) rfl
theorem ixl_23 {i : Int} (h0 : 0 ≤ i) (h1 : i < 8) : jm_ix jm_N 23 3 i := jm_ix_of (k := 23) (by decide) rfl h0 h1
theorem ial_23 : jm_ia jm_N 23 3 := jm_ia_of (k := 23) (by decide) rfl (by decide)
theorem snl_23 : jm_sn 23 = 8 := jm_sn_of (k := 23) rfl
theorem ixl_24 {i : Int} (h0 : 0 ≤ i) (h1 : i < 8) : jm_ix jm_N 24 2 i := jm_ix_of (k := 24) (by decide) rfl h0 h1
theorem ial_24 : jm_ia jm_N 24 2 := jm_ia_of (k := 24) (by decide) rfl (by decide)
theorem snl_24 : jm_sn 24 = 8 := jm_sn_of (k := 24) rfl
theorem ixl_25 {i : Int} (h0 : 0 ≤ i) (h1 : i < 10) : jm_ix jm_N 25 3 i := jm_ix_of (k := 25) (by decide) rfl h0 h1
theorem ial_25 : jm_ia jm_N 25 3 := jm_ia_of (k := 25) (by decide) rfl (by decide)
theorem snl_25 : jm_sn 25 = 10 := jm_sn_of (k := 25) rfl
theorem ixl_26 {i : Int} (h0 : 0 ≤ i) (h1 : i < 10) : jm_ix jm_N 26 2 i := jm_ix_of (k := 26) (by decide) rfl h0 h1
theorem ial_26 : jm_ia jm_N 26 2 := jm_ia_of (k := 26) (by decide) rfl (by decide)
theorem snl_26 : jm_sn 26 = 10 := jm_sn_of (k := 26) rfl
theorem ixl_27 {i : Int} (h0 : 0 ≤ i) (h1 : i < 10) : jm_ix jm_N 27 2 i := jm_ix_of (k := 27) (by decide) rfl h0 h1
theorem ial_27 : jm_ia jm_N 27 2 := jm_ia_of (k := 27) (by decide) rfl (by decide)
theorem snl_27 : jm_sn 27 = 10 := jm_sn_of (k := 27) rfl
theorem ixl_28 {i : Int} (h0 : 0 ≤ i) (h1 : i < 10) : jm_ix jm_N 28 2 i := jm_ix_of (k := 28) (by decide) rfl h0 h1
theorem ial_28 : jm_ia jm_N 28 2 := jm_ia_of (k := 28) (by decide) rfl (by decide)
theorem snl_28 : jm_sn 28 = 10 := jm_sn_of (k := 28) rfl
theorem ixl_29 {i : Int} (h0 : 0 ≤ i) (h1 : i < 10) : jm_ix jm_N 29 2 i := jm_ix_of (k := 29) (by decide) rfl h0 h1
theorem ial_29 : jm_ia jm_N 29 2 := jm_ia_of (k := 29) (by decide) rfl (by decide)
theorem snl_29 : jm_sn 29 = 10 := jm_sn_of (k := 29) rfl
theorem ixl_30 {i : Int} (h0 : 0 ≤ i) (h1 : i < 6) : jm_ix jm_N 30 2 i := jm_ix_of (k := 30) (by decide) rfl h0 h1
theorem ial_30 : jm_ia jm_N 30 2 := jm_ia_of (k := 30) (by decide) rfl (by decide)
theorem snl_30 : jm_sn 30 = 6 := jm_sn_of (k := 30) rfl
theorem ixl_31 {i : Int} (h0 : 0 ≤ i) (h1 : i < 400) : jm_ix jm_N 31 2 i := jm_ix_of (k := 31) (by decide) rfl h0 h1
theorem ial_31 : jm_ia jm_N 31 2 := jm_ia_of (k := 31) (by decide) rfl (by decide)
theorem snl_31 : jm_sn 31 = 400 := jm_sn_of (k := 31) rfl
theorem ixl_32 {i : Int} (h0 : 0 ≤ i) (h1 : i < 400) : jm_ix jm_N 32 2 i := jm_ix_of (k := 32) (by decide) rfl h0 h1
theorem ial_32 : jm_ia jm_N 32 2 := jm_ia_of (k := 32) (by decide) rfl (by decide)
theorem snl_32 : jm_sn 32 = 400 := jm_sn_of (k := 32) rfl
theorem ixl_33 {i : Int} (h0 : 0 ≤ i) (h1 : i < 400) : jm_ix jm_N 33 2 i := jm_ix_of (k := 33) (by decide) rfl h0 h1
theorem ial_33 : jm_ia jm_N 33 2 := jm_ia_of (k := 33) (by decide) rfl (by decide)
theorem snl_33 : jm_sn 33 = 400 := jm_sn_of (k := 33) rfl
theorem ixl_34 {i : Int} (h0 : 0 ≤ i) (h1 : i < 400) : jm_ix jm_N 34 2 i := jm_ix_of (k := 34) (by decide) rfl h0 h1
theorem ial_34 : jm_ia jm_N 34 2 := jm_ia_of (k := 34) (by decide) rfl (by decide)
theorem snl_34 : jm_sn 34 = 400 := jm_sn_of (k := 34) rfl
theorem ixl_35 {i : Int} (h0 : 0 ≤ i) (h1 : i < 400) : jm_ix jm_N 35 2 i := jm_ix_of (k := 35) (by decide) rfl h0 h1
theorem ial_35 : jm_ia jm_N 35 2 := jm_ia_of (k := 35) (by decide) rfl (by decide)
theorem snl_35 : jm_sn 35 = 400 := jm_sn_of (k := 35) rfl
theorem ixl_36 {i : Int} (h0 : 0 ≤ i) (h1 : i < 400) : jm_ix jm_N 36 2 i := jm_ix_of (k := 36) (by decide) rfl h0 h1
theorem ial_36 : jm_ia jm_N 36 2 := jm_ia_of (k := 36) (by decide) rfl (by decide)
theorem snl_36 : jm_sn 36 = 400 := jm_sn_of (k := 36) rfl
theorem is_37 : jm_is jm_N 37 1 6 := jm_is_of (k := 37) (by decide) rfl
theorem is_38 : jm_is jm_N 38 1 5 := jm_is_of (k := 38) (by decide) rfl
theorem ixl_39 {i : Int} (h0 : 0 ≤ i) (h1 : i < 8) : jm_ix jm_N 39 3 i := jm_ix_of (k := 39) (by decide) rfl h0 h1
theorem ial_39 : jm_ia jm_N 39 3 := jm_ia_of (k := 39) (by decide) rfl (by decide)
theorem snl_39 : jm_sn 39 = 8 := jm_sn_of (k := 39) rfl
theorem ixl_40 {i : Int} (h0 : 0 ≤ i) (h1 : i < 8) : jm_ix jm_N 40 2 i := jm_ix_of (k := 40) (by decide) rfl h0 h1
theorem ial_40 : jm_ia jm_N 40 2 := jm_ia_of (k := 40) (by decide) rfl (by decide)
theorem snl_40 : jm_sn 40 = 8 := jm_sn_of (k := 40) rfl
theorem ixl_41 {i : Int} (h0 : 0 ≤ i) (h1 : i < 10) : jm_ix jm_N 41 3 i := jm_ix_of (k := 41) (by decide) rfl h0 h1
theorem ial_41 : jm_ia jm_N 41 3 := jm_ia_of (k := 41) (by decide) rfl (by decide)
theorem snl_41 : jm_sn 41 = 10 := jm_sn_of (k := 41) rfl
theorem ixl_42 {i : Int} (h0 : 0 ≤ i) (h1 : i < 10) : jm_ix jm_N 42 2 i := jm_ix_of (k := 42) (by decide) rfl h0 h1
theorem ial_42 : jm_ia jm_N 42 2 := jm_ia_of (k := 42) (by decide) rfl (by decide)
theorem snl_42 : jm_sn 42 = 10 := jm_sn_of (k := 42) rfl
theorem ixl_43 {i : Int} (h0 : 0 ≤ i) (h1 : i < 10) : jm_ix jm_N 43 2 i := jm_ix_of (k := 43) (by decide) rfl h0 h1
theorem ial_43 : jm_ia jm_N 43 2 := jm_ia_of (k := 43) (by decide) rfl (by decide)
theorem snl_43 : jm_sn 43 = 10 := jm_sn_of (k := 43) rfl
theorem ixl_44 {i : Int} (h0 : 0 ≤ i) (h1 : i < 10) : jm_ix jm_N 44 2 i := jm_ix_of (k := 44) (by decide) rfl h0 h1
theorem ial_44 : jm_ia jm_N 44 2 := jm_ia_of (k := 44) (by decide) rfl (by decide)
theorem snl_44 : jm_sn 44 = 10 := jm_sn_of (k := 44) rfl
theorem ixl_45 {i : Int} (h0 : 0 ≤ i) (h1 : i < 10) : jm_ix jm_N 45 2 i := jm_ix_of (k := 45) (by decide) rfl h0 h1
theorem ial_45 : jm_ia jm_N 45 2 := jm_ia_of (k := 45) (by decide) rfl (by decide)
theorem snl_45 : jm_sn 45 = 10 := jm_sn_of (k := 45) rfl
theorem ixl_46 {i : Int} (h0 : 0 ≤ i) (h1 : i < 6) : jm_ix jm_N 46 2 i := jm_ix_of (k := 46) (by decide) rfl h0 h1
theorem ial_46 : jm_ia jm_N 46 2 := jm_ia_of (k := 46) (by decide) rfl (by decide)
theorem snl_46 : jm_sn 46 = 6 := jm_sn_of (k := 46) rfl
theorem ixl_47 {i : Int} (h0 : 0 ≤ i) (h1 : i < 400) : jm_ix jm_N 47 2 i := jm_ix_of (k := 47) (by decide) rfl h0 h1
theorem ial_47 : jm_ia jm_N 47 2 := jm_ia_of (k := 47) (by decide) rfl (by decide)
theorem snl_47 : jm_sn 47 = 400 := jm_sn_of (k := 47) rfl
theorem ixl_48 {i : Int} (h0 : 0 ≤ i) (h1 : i < 400) : jm_ix jm_N 48 2 i := jm_ix_of (k := 48) (by decide) rfl h0 h1
theorem ial_48 : jm_ia jm_N 48 2 := jm_ia_of (k := 48) (by decide) rfl (by decide)
theorem snl_48 : jm_sn 48 = 400 := jm_sn_of (k := 48) rfl
theorem ixl_49 {i : Int} (h0 : 0 ≤ i) (h1 : i < 400) : jm_ix jm_N 49 2 i := jm_ix_of (k := 49) (by decide) rfl h0 h1
theorem ial_49 : jm_ia jm_N 49 2 := jm_ia_of (k := 49) (by decide) rfl (by decide)
theorem snl_49 : jm_sn 49 = 400 := jm_sn_of (k := 49) rfl
theorem ixl_50 {i : Int} (h0 : 0 ≤ i) (h1 : i < 400) : jm_ix jm_N 50 2 i := jm_ix_of (k := 50) (by decide) rfl h0 h1
theorem ial_50 : jm_ia jm_N 50 2 := jm_ia_of (k := 50) (by decide) rfl (by decide)
theorem snl_50 : jm_sn 50 = 400 := jm_sn_of (k := 50) rfl
theorem ixl_51 {i : Int} (h0 : 0 ≤ i) (h1 : i < 400) : jm_ix jm_N 51 2 i := jm_ix_of (k := 51) (by decide) rfl h0 h1
theorem ial_51 : jm_ia jm_N 51 2 := jm_ia_of (k := 51) (by decide) rfl (by decide)
theorem snl_51 : jm_sn 51 = 400 := jm_sn_of (k := 51) rfl
theorem ixl_52 {i : Int} (h0 : 0 ≤ i) (h1 : i < 400) : jm_ix jm_N 52 2 i := jm_ix_of (k := 52) (by decide) rfl h0 h1
theorem ial_52 : jm_ia jm_N 52 2 := jm_ia_of (k := 52) (by decide) rfl (by decide)
theorem snl_52 : jm_sn 52 = 400 := jm_sn_of (k := 52) rfl
theorem is_53 : jm_is jm_N 53 1 6 := jm_is_of (k := 53) (by decide) rfl
theorem is_54 : jm_is jm_N 54 1 5 := jm_is_of (k := 54) (by decide) rfl
theorem ixl_55 {i : Int} (h0 : 0 ≤ i) (h1 : i < 8) : jm_ix jm_N 55 3 i := jm_ix_of (k := 55) (by decide) rfl h0 h1
theorem ial_55 : jm_ia jm_N 55 3 := jm_ia_of (k := 55) (by decide) rfl (by decide)
theorem snl_55 : jm_sn 55 = 8 := jm_sn_of (k := 55) rfl
theorem ixl_56 {i : Int} (h0 : 0 ≤ i) (h1 : i < 8) : jm_ix jm_N 56 2 i := jm_ix_of (k := 56) (by decide) rfl h0 h1
theorem ial_56 : jm_ia jm_N 56 2 := jm_ia_of (k := 56) (by decide) rfl (by decide)
theorem snl_56 : jm_sn 56 = 8 := jm_sn_of (k := 56) rfl
theorem ixl_57 {i : Int} (h0 : 0 ≤ i) (h1 : i < 10) : jm_ix jm_N 57 3 i := jm_ix_of (k := 57) (by decide) rfl h0 h1
theorem ial_57 : jm_ia jm_N 57 3 := jm_ia_of (k := 57) (by decide) rfl (by decide)
theorem snl_57 : jm_sn 57 = 10 := jm_sn_of (k := 57) rfl
theorem ixl_58 {i : Int} (h0 : 0 ≤ i) (h1 : i < 10) : jm_ix jm_N 58 2 i := jm_ix_of (k := 58) (by decide) rfl h0 h1
theorem ial_58 : jm_ia jm_N 58 2 := jm_ia_of (k := 58) (by decide) rfl (by decide)
theorem snl_58 : jm_sn 58 = 10 := jm_sn_of (k := 58) rfl
theorem ixl_59 {i : Int} (h0 : 0 ≤ i) (h1 : i < 10) : jm_ix jm_N 59 2 i := jm_ix_of (k := 59) (by decide) rfl h0 h1
theorem ial_59 : jm_ia jm_N 59 2 := jm_ia_of (k := 59) (by decide) rfl (by decide)
theorem snl_59 : jm_sn 59 = 10 := jm_sn_of (k := 59) rfl
theorem ixl_60 {i : Int} (h0 : 0 ≤ i) (h1 : i < 10) : jm_ix jm_N 60 2 i := jm_ix_of (k := 60) (by decide) rfl h0 h1
theorem ial_60 : jm_ia jm_N 60 2 := jm_ia_of (k := 60) (by decide) rfl (by decide)
theorem snl_60 : jm_sn 60 = 10 := jm_sn_of (k := 60) rfl
theorem ixl_61 {i : Int} (h0 : 0 ≤ i) (h1 : i < 10) : jm_ix jm_N 61 2 i := jm_ix_of (k := 61) (by decide) rfl h0 h1
theorem ial_61 : jm_ia jm_N 61 2 := jm_ia_of (k := 61) (by decide) rfl (by decide)
theorem snl_61 : jm_sn 61 = 10 := jm_sn_of (k := 61) rfl
theorem ixl_62 {i : Int} (h0 : 0 ≤ i) (h1 : i < 6) : jm_ix jm_N 62 2 i := jm_ix_of (k := 62) (by decide) rfl h0 h1
theorem ial_62 : jm_ia jm_N 62 2 := jm_ia_of (k := 62) (by decide) rfl (by decide)
theorem snl_62 : jm_sn 62 = 6 := jm_sn_of (k := 62) rfl
theorem ixl_63 {i : Int} (h0 : 0 ≤ i) (h1 : i < 8) : jm_ix jm_N 63 2 i := jm_ix_of (k := 63) (by decide) rfl h0 h1
theorem ial_63 : jm_ia jm_N 63 2 := jm_ia_of (k := 63) (by decide) rfl (by decide)
theorem snl_63 : jm_sn 63 = 8 := jm_sn_of (k := 63) rfl
theorem ixl_64 {i : Int} (h0 : 0 ≤ i) (h1 : i < 8) : jm_ix jm_N 64 2 i := jm_ix_of (k := 64) (by decide) rfl h0 h1
theorem ial_64 : jm_ia jm_N 64 2 := jm_ia_of (k := 64) (by decide) rfl (by decide)
theorem snl_64 : jm_sn 64 = 8 := jm_sn_of (k := 64) rfl
theorem ixl_65 {i : Int} (h0 : 0 ≤ i) (h1 : i < 8) : jm_ix jm_N 65 2 i := jm_ix_of (k := 65) (by decide) rfl h0 h1
theorem ial_65 : jm_ia jm_N 65 2 := jm_ia_of (k := 65) (by decide) rfl (by decide)
theorem snl_65 : jm_sn 65 = 8 := jm_sn_of (k := 65) rfl
theorem ixl_66 {i : Int} (h0 : 0 ≤ i) (h1 : i < 8) : jm_ix jm_N 66 2 i := jm_ix_of (k := 66) (by decide) rfl h0 h1
theorem ial_66 : jm_ia jm_N 66 2 := jm_ia_of (k := 66) (by decide) rfl (by decide)
theorem snl_66 : jm_sn 66 = 8 := jm_sn_of (k := 66) rfl
theorem ixl_67 {i : Int} (h0 : 0 ≤ i) (h1 : i < 8) : jm_ix jm_N 67 2 i := jm_ix_of (k := 67) (by decide) rfl h0 h1
theorem ial_67 : jm_ia jm_N 67 2 := jm_ia_of (k := 67) (by decide) rfl (by decide)
theorem snl_67 : jm_sn 67 = 8 := jm_sn_of (k := 67) rfl
theorem ixl_68 {i : Int} (h0 : 0 ≤ i) (h1 : i < 8) : jm_ix jm_N 68 2 i := jm_ix_of (k := 68) (by decide) rfl h0 h1
theorem ial_68 : jm_ia jm_N 68 2 := jm_ia_of (k := 68) (by decide) rfl (by decide)
theorem snl_68 : jm_sn 68 = 8 := jm_sn_of (k := 68) rfl
theorem is_69 : jm_is jm_N 69 1 1 := jm_is_of (k := 69) (by decide) rfl
theorem ixl_70 {i : Int} (h0 : 0 ≤ i) (h1 : i < 24) : jm_ix jm_N 70 2 i := jm_ix_of (k := 70) (by decide) rfl h0 h1
theorem ial_70 : jm_ia jm_N 70 2 := jm_ia_of (k := 70) (by decide) rfl (by decide)
theorem snl_70 : jm_sn 70 = 24 := jm_sn_of (k := 70) rfl
theorem ixl_71 {i : Int} (h0 : 0 ≤ i) (h1 : i < 24) : jm_ix jm_N 71 2 i := jm_ix_of (k := 71) (by decide) rfl h0 h1
theorem ial_71 : jm_ia jm_N 71 2 := jm_ia_of (k := 71) (by decide) rfl (by decide)
theorem snl_71 : jm_sn 71 = 24 := jm_sn_of (k := 71) rfl
theorem is_72 : jm_is jm_N 72 1 1 := jm_is_of (k := 72) (by decide) rfl
theorem ixl_73 {i : Int} (h0 : 0 ≤ i) (h1 : i < 24) : jm_ix jm_N 73 2 i := jm_ix_of (k := 73) (by decide) rfl h0 h1
theorem ial_73 : jm_ia jm_N 73 2 := jm_ia_of (k := 73) (by decide) rfl (by decide)
theorem snl_73 : jm_sn 73 = 24 := jm_sn_of (k := 73) rfl
theorem ixl_74 {i : Int} (h0 : 0 ≤ i) (h1 : i < 24) : jm_ix jm_N 74 2 i := jm_ix_of (k := 74) (by decide) rfl h0 h1
theorem ial_74 : jm_ia jm_N 74 2 := jm_ia_of (k := 74) (by decide) rfl (by decide)
theorem snl_74 : jm_sn 74 = 24 := jm_sn_of (k := 74) rfl
theorem is_75 : jm_is jm_N 75 1 4 := jm_is_of (k := 75) (by decide) rfl
theorem ixl_76 {i : Int} (h0 : 0 ≤ i) (h1 : i < 64) : jm_ix jm_N 76 2 i := jm_ix_of (k := 76) (by decide) rfl h0 h1
theorem ial_76 : jm_ia jm_N 76 2 := jm_ia_of (k := 76) (by decide) rfl (by decide)
theorem snl_76 : jm_sn 76 = 64 := jm_sn_of (k := 76) rfl
theorem ixl_77 {i : Int} (h0 : 0 ≤ i) (h1 : i < 64) : jm_ix jm_N 77 2 i := jm_ix_of (k := 77) (by decide) rfl h0 h1
theorem ial_77 : jm_ia jm_N 77 2 := jm_ia_of (k := 77) (by decide) rfl (by decide)
theorem snl_77 : jm_sn 77 = 64 := jm_sn_of (k := 77) rfl
theorem ixl_78 {i : Int} (h0 : 0 ≤ i) (h1 : i < 64) : jm_ix jm_N 78 2 i := jm_ix_of (k := 78) (by decide) rfl h0 h1
theorem ial_78 : jm_ia jm_N 78 2 := jm_ia_of (k := 78) (by decide) rfl (by decide)
theorem snl_78 : jm_sn 78 = 64 := jm_sn_of (k := 78) rfl
theorem is_79 : jm_is jm_N 79 1 4 := jm_is_of (k := 79) (by decide) rfl
theorem ixl_80 {i : Int} (h0 : 0 ≤ i) (h1 : i < 64) : jm_ix jm_N 80 2 i := jm_ix_of (k := 80) (by decide) rfl h0 h1
theorem ial_80 : jm_ia jm_N 80 2 := jm_ia_of (k := 80) (by decide) rfl (by decide)
theorem snl_80 : jm_sn 80 = 64 := jm_sn_of (k := 80) rfl
theorem ixl_81 {i : Int} (h0 : 0 ≤ i) (h1 : i < 64) : jm_ix jm_N 81 2 i := jm_ix_of (k := 81) (by decide) rfl h0 h1
theorem ial_81 : jm_ia jm_N 81 2 := jm_ia_of (k := 81) (by decide) rfl (by decide)
theorem snl_81 : jm_sn 81 = 64 := jm_sn_of (k := 81) rfl
theorem ixl_82 {i : Int} (h0 : 0 ≤ i) (h1 : i < 64) : jm_ix jm_N 82 2 i := jm_ix_of (k := 82) (by decide) rfl h0 h1
theorem ial_82 : jm_ia jm_N 82 2 := jm_ia_of (k := 82) (by decide) rfl (by decide)
theorem snl_82 : jm_sn 82 = 64 := jm_sn_of (k := 82) rfl
theorem is_83 : jm_is jm_N 83 1 0 := jm_is_of (k := 83) (by decide) rfl
theorem is_84 : jm_is jm_N 84 1 5 := jm_is_of (k := 84) (by decide) rfl
theorem ixl_85 {i : Int} (h0 : 0 ≤ i) (h1 : i < 8) : jm_ix jm_N 85 3 i := jm_ix_of (k := 85) (by decide) rfl h0 h1
theorem ial_85 : jm_ia jm_N 85 3 := jm_ia_of (k := 85) (by decide) rfl (by decide)
theorem snl_85 : jm_sn 85 = 8 := jm_sn_of (k := 85) rfl
theorem ixl_86 {i : Int} (h0 : 0 ≤ i) (h1 : i < 8) : jm_ix jm_N 86 2 i := jm_ix_of (k := 86) (by decide) rfl h0 h1
theorem ial_86 : jm_ia jm_N 86 2 := jm_ia_of (k := 86) (by decide) rfl (by decide)
theorem snl_86 : jm_sn 86 = 8 := jm_sn_of (k := 86) rfl
theorem ixl_87 {i : Int} (h0 : 0 ≤ i) (h1 : i < 10) : jm_ix jm_N 87 3 i := jm_ix_of (k := 87) (by decide) rfl h0 h1
theorem ial_87 : jm_ia jm_N 87 3 := jm_ia_of (k := 87) (by decide) rfl (by decide)
theorem snl_87 : jm_sn 87 = 10 := jm_sn_of (k := 87) rfl
theorem ixl_88 {i : Int} (h0 : 0 ≤ i) (h1 : i < 10) : jm_ix jm_N 88 2 i := jm_ix_of (k := 88) (by decide) rfl h0 h1
theorem ial_88 : jm_ia jm_N 88 2 := jm_ia_of (k := 88) (by decide) rfl (by decide)
theorem snl_88 : jm_sn 88 = 10 := jm_sn_of (k := 88) rfl
theorem ixl_89 {i : Int} (h0 : 0 ≤ i) (h1 : i < 10) : jm_ix jm_N 89 2 i := jm_ix_of (k := 89) (by decide) rfl h0 h1
theorem ial_89 : jm_ia jm_N 89 2 := jm_ia_of (k := 89) (by decide) rfl (by decide)
theorem snl_89 : jm_sn 89 = 10 := jm_sn_of (k := 89) rfl
theorem ixl_90 {i : Int} (h0 : 0 ≤ i) (h1 : i < 10) : jm_ix jm_N 90 2 i := jm_ix_of (k := 90) (by decide) rfl h0 h1
theorem ial_90 : jm_ia jm_N 90 2 := jm_ia_of (k := 90) (by decide) rfl (by decide)
theorem snl_90 : jm_sn 90 = 10 := jm_sn_of (k := 90) rfl
theorem ixl_91 {i : Int} (h0 : 0 ≤ i) (h1 : i < 10) : jm_ix jm_N 91 2 i := jm_ix_of (k := 91) (by decide) rfl h0 h1
theorem ial_91 : jm_ia jm_N 91 2 := jm_ia_of (k := 91) (by decide) rfl (by decide)
theorem snl_91 : jm_sn 91 = 10 := jm_sn_of (k := 91) rfl
theorem ixl_92 {i : Int} (h0 : 0 ≤ i) (h1 : i < 6) : jm_ix jm_N 92 2 i := jm_ix_of (k := 92) (by decide) rfl h0 h1
theorem ial_92 : jm_ia jm_N 92 2 := jm_ia_of (k := 92) (by decide) rfl (by decide)
theorem snl_92 : jm_sn 92 = 6 := jm_sn_of (k := 92) rfl
theorem ixl_93 {i : Int} (h0 : 0 ≤ i) (h1 : i < 400) : jm_ix jm_N 93 2 i := jm_ix_of (k := 93) (by decide) rfl h0 h1
theorem ial_93 : jm_ia jm_N 93 2 := jm_ia_of (k := 93) (by decide) rfl (by decide)
theorem snl_93 : jm_sn 93 = 400 := jm_sn_of (k := 93) rfl
theorem ixl_94 {i : Int} (h0 : 0 ≤ i) (h1 : i < 400) : jm_ix jm_N 94 2 i := jm_ix_of (k := 94) (by decide) rfl h0 h1
theorem ial_94 : jm_ia jm_N 94 2 := jm_ia_of (k := 94) (by decide) rfl (by decide)
theorem snl_94 : jm_sn 94 = 400 := jm_sn_of (k := 94) rfl
theorem is_95 : jm_is jm_N 95 1 1 := jm_is_of (k := 95) (by decide) rfl
theorem ixl_96 {i : Int} (h0 : 0 ≤ i) (h1 : i < 24) : jm_ix jm_N 96 2 i := jm_ix_of (k := 96) (by decide) rfl h0 h1
theorem ial_96 : jm_ia jm_N 96 2 := jm_ia_of (k := 96) (by decide) rfl (by decide)
theorem snl_96 : jm_sn 96 = 24 := jm_sn_of (k := 96) rfl
theorem ixl_97 {i : Int} (h0 : 0 ≤ i) (h1 : i < 24) : jm_ix jm_N 97 2 i := jm_ix_of (k := 97) (by decide) rfl h0 h1
theorem ial_97 : jm_ia jm_N 97 2 := jm_ia_of (k := 97) (by decide) rfl (by decide)
theorem snl_97 : jm_sn 97 = 24 := jm_sn_of (k := 97) rfl
theorem is_98 : jm_is jm_N 98 1 4 := jm_is_of (k := 98) (by decide) rfl
theorem ixl_99 {i : Int} (h0 : 0 ≤ i) (h1 : i < 64) : jm_ix jm_N 99 2 i := jm_ix_of (k := 99) (by decide) rfl h0 h1
theorem ial_99 : jm_ia jm_N 99 2 := jm_ia_of (k := 99) (by decide) rfl (by decide)
theorem snl_99 : jm_sn 99 = 64 := jm_sn_of (k := 99) rfl
theorem ixl_100 {i : Int} (h0 : 0 ≤ i) (h1 : i < 64) : jm_ix jm_N 100 2 i := jm_ix_of (k := 100) (by decide) rfl h0 h1
theorem ial_100 : jm_ia jm_N 100 2 := jm_ia_of (k := 100) (by decide) rfl (by decide)
theorem snl_100 : jm_sn 100 = 64 := jm_sn_of (k := 100) rfl
theorem ixl_101 {i : Int} (h0 : 0 ≤ i) (h1 : i < 64) : jm_ix jm_N 101 2 i := jm_ix_of (k := 101) (by decide) rfl h0 h1
theorem ial_101 : jm_ia jm_N 101 2 := jm_ia_of (k := 101) (by decide) rfl (by decide)
theorem snl_101 : jm_sn 101 = 64 := jm_sn_of (k := 101) rfl
theorem is_102 : jm_is jm_N 102 1 0 := jm_is_of (k := 102) (by decide) rfl
theorem is_103 : jm_is jm_N 103 1 5 := jm_is_of (k := 103) (by decide) rfl
theorem ixl_104 {i : Int} (h0 : 0 ≤ i) (h1 : i < 8) : jm_ix jm_N 104 3 i := jm_ix_of (k := 104) (by decide) rfl h0 h1
theorem ial_104 : jm_ia jm_N 104 3 := jm_ia_of (k := 104) (by decide) rfl (by decide)
theorem snl_104 : jm_sn 104 = 8 := jm_sn_of (k := 104) rfl
theorem ixl_105 {i : Int} (h0 : 0 ≤ i) (h1 : i < 8) : jm_ix jm_N 105 2 i := jm_ix_of (k := 105) (by decide) rfl h0 h1
theorem ial_105 : jm_ia jm_N 105 2 := jm_ia_of (k := 105) (by decide) rfl (by decide)
theorem snl_105 : jm_sn 105 = 8 := jm_sn_of (k := 105) rfl
theorem ixl_106 {i : Int} (h0 : 0 ≤ i) (h1 : i < 10) : jm_ix jm_N 106 3 i := jm_ix_of (k := 106) (by decide) rfl h0 h1
theorem ial_106 : jm_ia jm_N 106 3 := jm_ia_of (k := 106) (by decide) rfl (by decide)
theorem snl_106 : jm_sn 106 = 10 := jm_sn_of (k := 106) rfl
theorem ixl_107 {i : Int} (h0 : 0 ≤ i) (h1 : i < 10) : jm_ix jm_N 107 2 i := jm_ix_of (k := 107) (by decide) rfl h0 h1
theorem ial_107 : jm_ia jm_N 107 2 := jm_ia_of (k := 107) (by decide) rfl (by decide)
theorem snl_107 : jm_sn 107 = 10 := jm_sn_of (k := 107) rfl
theorem ixl_108 {i : Int} (h0 : 0 ≤ i) (h1 : i < 10) : jm_ix jm_N 108 2 i := jm_ix_of (k := 108) (by decide) rfl h0 h1
theorem ial_108 : jm_ia jm_N 108 2 := jm_ia_of (k := 108) (by decide) rfl (by decide)
theorem snl_108 : jm_sn 108 = 10 := jm_sn_of (k := 108) rfl
theorem ixl_109 {i : Int} (h0 : 0 ≤ i) (h1 : i < 10) : jm_ix jm_N 109 2 i := jm_ix_of (k := 109) (by decide) rfl h0 h1
theorem ial_109 : jm_ia jm_N 109 2 := jm_ia_of (k := 109) (by decide) rfl (by decide)
theorem snl_109 : jm_sn 109 = 10 := jm_sn_of (k := 109) rfl
theorem ixl_110 {i : Int} (h0 : 0 ≤ i) (h1 : i < 10) : jm_ix jm_N 110 2 i := jm_ix_of (k := 110) (by decide) rfl h0 h1
theorem ial_110 : jm_ia jm_N 110 2 := jm_ia_of (k := 110) (by decide) rfl (by decide)
theorem snl_110 : jm_sn 110 = 10 := jm_sn_of (k := 110) rfl
theorem ixl_111 {i : Int} (h0 : 0 ≤ i) (h1 : i < 6) : jm_ix jm_N 111 2 i := jm_ix_of (k := 111) (by decide) rfl h0 h1
theorem ial_111 : jm_ia jm_N 111 2 := jm_ia_of (k := 111) (by decide) rfl (by decide)
theorem snl_111 : jm_sn 111 = 6 := jm_sn_of (k := 111) rfl
theorem ixl_112 {i : Int} (h0 : 0 ≤ i) (h1 : i < 400) : jm_ix jm_N 112 2 i := jm_ix_of (k := 112) (by decide) rfl h0 h1
theorem ial_112 : jm_ia jm_N 112 2 := jm_ia_of (k := 112) (by decide) rfl (by decide)
theorem snl_112 : jm_sn 112 = 400 := jm_sn_of (k := 112) rfl
theorem ixl_113 {i : Int} (h0 : 0 ≤ i) (h1 : i < 400) : jm_ix jm_N 113 2 i := jm_ix_of (k := 113) (by decide) rfl h0 h1
theorem ial_113 : jm_ia jm_N 113 2 := jm_ia_of (k := 113) (by decide) rfl (by decide)
theorem snl_113 : jm_sn 113 = 400 := jm_sn_of (k := 113) rfl
theorem is_114 : jm_is jm_N 114 1 1 := jm_is_of (k := 114) (by decide) rfl
theorem ixl_115 {i : Int} (h0 : 0 ≤ i) (h1 : i < 24) : jm_ix jm_N 115 2 i := jm_ix_of (k := 115) (by decide) rfl h0 h1
theorem ial_115 : jm_ia jm_N 115 2 := jm_ia_of (k := 115) (by decide) rfl (by decide)
theorem snl_115 : jm_sn 115 = 24 := jm_sn_of (k := 115) rfl
theorem ixl_116 {i : Int} (h0 : 0 ≤ i) (h1 : i < 24) : jm_ix jm_N 116 2 i := jm_ix_of (k := 116) (by decide) rfl h0 h1
theorem ial_116 : jm_ia jm_N 116 2 := jm_ia_of (k := 116) (by decide) rfl (by decide)
theorem snl_116 : jm_sn 116 = 24 := jm_sn_of (k := 116) rfl
theorem is_117 : jm_is jm_N 117 1 4 := jm_is_of (k := 117) (by decide) rfl
theorem ixl_118 {i : Int} (h0 : 0 ≤ i) (h1 : i < 64) : jm_ix jm_N 118 2 i := jm_ix_of (k := 118) (by decide) rfl h0 h1
theorem ial_118 : jm_ia jm_N 118 2 := jm_ia_of (k := 118) (by decide) rfl (by decide)
theorem snl_118 : jm_sn 118 = 64 := jm_sn_of (k := 118) rfl
theorem ixl_119 {i : Int} (h0 : 0 ≤ i) (h1 : i < 64) : jm_ix jm_N 119 2 i := jm_ix_of (k := 119) (by decide) rfl h0 h1
theorem ial_119 : jm_ia jm_N 119 2 := jm_ia_of (k := 119) (by decide) rfl (by decide)
theorem snl_119 : jm_sn 119 = 64 := jm_sn_of (k := 119) rfl
theorem ixl_120 {i : Int} (h0 : 0 ≤ i) (h1 : i < 64) : jm_ix jm_N 120 2 i := jm_ix_of (k := 120) (by decide) rfl h0 h1
theorem ial_120 : jm_ia jm_N 120 2 := jm_ia_of (k := 120) (by decide) rfl (by decide)
theorem snl_120 : jm_sn 120 = 64 := jm_sn_of (k := 120) rfl
theorem is_121 : jm_is jm_N 121 1 3 := jm_is_of (k := 121) (by decide) rfl
theorem ixl_122 {i : Int} (h0 : 0 ≤ i) (h1 : i < 8) : jm_ix jm_N 122 2 i := jm_ix_of (k := 122) (by decide) rfl h0 h1
theorem ial_122 : jm_ia jm_N 122 2 := jm_ia_of (k := 122) (by decide) rfl (by decide)
theorem snl_122 : jm_sn 122 = 8 := jm_sn_of (k := 122) rfl
theorem ixl_123 {i : Int} (h0 : 0 ≤ i) (h1 : i < 8) : jm_ix jm_N 123 2 i := jm_ix_of (k := 123) (by decide) rfl h0 h1
theorem ial_123 : jm_ia jm_N 123 2 := jm_ia_of (k := 123) (by decide) rfl (by decide)
theorem snl_123 : jm_sn 123 = 8 := jm_sn_of (k := 123) rfl
theorem is_124 : jm_is jm_N 124 1 8 := jm_is_of (k := 124) (by decide) rfl
theorem ixl_125 {i : Int} (h0 : 0 ≤ i) (h1 : i < 24) : jm_ix jm_N 125 2 i := jm_ix_of (k := 125) (by decide) rfl h0 h1
theorem ial_125 : jm_ia jm_N 125 2 := jm_ia_of (k := 125) (by decide) rfl (by decide)
theorem snl_125 : jm_sn 125 = 24 := jm_sn_of (k := 125) rfl
theorem ixl_126 {i : Int} (h0 : 0 ≤ i) (h1 : i < 24) : jm_ix jm_N 126 2 i := jm_ix_of (k := 126) (by decide) rfl h0 h1
theorem ial_126 : jm_ia jm_N 126 2 := jm_ia_of (k := 126) (by decide) rfl (by decide)
theorem snl_126 : jm_sn 126 = 24 := jm_sn_of (k := 126) rfl
theorem ixl_127 {i : Int} (h0 : 0 ≤ i) (h1 : i < 24) : jm_ix jm_N 127 2 i := jm_ix_of (k := 127) (by decide) rfl h0 h1
theorem ial_127 : jm_ia jm_N 127 2 := jm_ia_of (k := 127) (by decide) rfl (by decide)
theorem snl_127 : jm_sn 127 = 24 := jm_sn_of (k := 127) rfl
theorem ixl_128 {i : Int} (h0 : 0 ≤ i) (h1 : i < 24) : jm_ix jm_N 128 2 i := jm_ix_of (k := 128) (by decide) rfl h0 h1
theorem ial_128 : jm_ia jm_N 128 2 := jm_ia_of (k := 128) (by decide) rfl (by decide)
theorem snl_128 : jm_sn 128 = 24 := jm_sn_of (k := 128) rfl
theorem ixl_129 {i : Int} (h0 : 0 ≤ i) (h1 : i < 24) : jm_ix jm_N 129 2 i := jm_ix_of (k := 129) (by decide) rfl h0 h1
theorem ial_129 : jm_ia jm_N 129 2 := jm_ia_of (k := 129) (by decide) rfl (by decide)
theorem snl_129 : jm_sn 129 = 24 := jm_sn_of (k := 129) rfl
theorem is_130 : jm_is jm_N 130 1 2 := jm_is_of (k := 130) (by decide) rfl
theorem ixl_131 {i : Int} (h0 : 0 ≤ i) (h1 : i < 7) : jm_ix jm_N 131 2 i := jm_ix_of (k := 131) (by decide) rfl h0 h1
theorem ial_131 : jm_ia jm_N 131 2 := jm_ia_of (k := 131) (by decide) rfl (by decide)
theorem snl_131 : jm_sn 131 = 7 := jm_sn_of (k := 131) rfl
theorem ixl_132 {i : Int} (h0 : 0 ≤ i) (h1 : i < 7) : jm_ix jm_N 132 2 i := jm_ix_of (k := 132) (by decide) rfl h0 h1
theorem ial_132 : jm_ia jm_N 132 2 := jm_ia_of (k := 132) (by decide) rfl (by decide)
theorem snl_132 : jm_sn 132 = 7 := jm_sn_of (k := 132) rfl
theorem ixl_133 {i : Int} (h0 : 0 ≤ i) (h1 : i < 64) : jm_ix jm_N 133 2 i := jm_ix_of (k := 133) (by decide) rfl h0 h1
theorem ial_133 : jm_ia jm_N 133 2 := jm_ia_of (k := 133) (by decide) rfl (by decide)
theorem snl_133 : jm_sn 133 = 64 := jm_sn_of (k := 133) rfl
theorem ixl_134 {i : Int} (h0 : 0 ≤ i) (h1 : i < 32) : jm_ix jm_N 134 2 i := jm_ix_of (k := 134) (by decide) rfl h0 h1
theorem ial_134 : jm_ia jm_N 134 2 := jm_ia_of (k := 134) (by decide) rfl (by decide)
theorem snl_134 : jm_sn 134 = 32 := jm_sn_of (k := 134) rfl
theorem ixl_135 {i : Int} (h0 : 0 ≤ i) (h1 : i < 16) : jm_ix jm_N 135 2 i := jm_ix_of (k := 135) (by decide) rfl h0 h1
theorem ial_135 : jm_ia jm_N 135 2 := jm_ia_of (k := 135) (by decide) rfl (by decide)
theorem snl_135 : jm_sn 135 = 16 := jm_sn_of (k := 135) rfl
theorem ixl_136 {i : Int} (h0 : 0 ≤ i) (h1 : i < 56) : jm_ix jm_N 136 2 i := jm_ix_of (k := 136) (by decide) rfl h0 h1
theorem ial_136 : jm_ia jm_N 136 2 := jm_ia_of (k := 136) (by decide) rfl (by decide)
theorem snl_136 : jm_sn 136 = 56 := jm_sn_of (k := 136) rfl
theorem fr_0_0 : ((0 : Int), (0 : Int), (1 : Int)) ∈ jm_frl := List.mem_of_getElem? (i := 0) rfl
theorem fr_0_1 : ((0 : Int), (1 : Int), (3 : Int)) ∈ jm_frl := List.mem_of_getElem? (i := 1) rfl
theorem fr_0_2 : ((0 : Int), (2 : Int), (12 : Int)) ∈ jm_frl := List.mem_of_getElem? (i := 2) rfl
theorem fr_0_3 : ((0 : Int), (3 : Int), (21 : Int)) ∈ jm_frl := List.mem_of_getElem? (i := 3) rfl
theorem fr_0_4 : ((0 : Int), (4 : Int), (37 : Int)) ∈ jm_frl := List.mem_of_getElem? (i := 4) rfl
theorem fr_0_5 : ((0 : Int), (5 : Int), (53 : Int)) ∈ jm_frl := List.mem_of_getElem? (i := 5) rfl
theorem fr_0_6 : ((0 : Int), (6 : Int), (69 : Int)) ∈ jm_frl := List.mem_of_getElem? (i := 6) rfl
theorem fr_0_7 : ((0 : Int), (7 : Int), (72 : Int)) ∈ jm_frl := List.mem_of_getElem? (i := 7) rfl
theorem fr_0_8 : ((0 : Int), (8 : Int), (75 : Int)) ∈ jm_frl := List.mem_of_getElem? (i := 8) rfl
theorem fr_0_9 : ((0 : Int), (9 : Int), (79 : Int)) ∈ jm_frl := List.mem_of_getElem? (i := 9) rfl
theorem fr_0_10 : ((0 : Int), (10 : Int), (83 : Int)) ∈ jm_frl := List.mem_of_getElem? (i := 10) rfl
theorem fr_0_11 : ((0 : Int), (11 : Int), (102 : Int)) ∈ jm_frl := List.mem_of_getElem? (i := 11) rfl
theorem fr_0_12 : ((0 : Int), (12 : Int), (121 : Int)) ∈ jm_frl := List.mem_of_getElem? (i := 12) rfl
theorem fr_0_13 : ((0 : Int), (13 : Int), (124 : Int)) ∈ jm_frl := List.mem_of_getElem? (i := 13) rfl
theorem fr_0_14 : ((0 : Int), (14 : Int), (130 : Int)) ∈ jm_frl := List.mem_of_getElem? (i := 14) rfl
theorem fr_1_0 : ((1 : Int), (0 : Int), (2 : Int)) ∈ jm_frl := List.mem_of_getElem? (i := 15) rfl
theorem fr_3_2 : ((3 : Int), (2 : Int), (4 : Int)) ∈ jm_frl := List.mem_of_getElem? (i := 16) rfl
theorem fr_3_3 : ((3 : Int), (3 : Int), (5 : Int)) ∈ jm_frl := List.mem_of_getElem? (i := 17) rfl
theorem fr_3_5 : ((3 : Int), (5 : Int), (6 : Int)) ∈ jm_frl := List.mem_of_getElem? (i := 18) rfl
theorem fr_3_6 : ((3 : Int), (6 : Int), (7 : Int)) ∈ jm_frl := List.mem_of_getElem? (i := 19) rfl
theorem fr_3_7 : ((3 : Int), (7 : Int), (8 : Int)) ∈ jm_frl := List.mem_of_getElem? (i := 20) rfl
theorem fr_3_8 : ((3 : Int), (8 : Int), (9 : Int)) ∈ jm_frl := List.mem_of_getElem? (i := 21) rfl
theorem fr_3_9 : ((3 : Int), (9 : Int), (10 : Int)) ∈ jm_frl := List.mem_of_getElem? (i := 22) rfl
theorem fr_3_12 : ((3 : Int), (12 : Int), (11 : Int)) ∈ jm_frl := List.mem_of_getElem? (i := 23) rfl
theorem fr_12_2 : ((12 : Int), (2 : Int), (13 : Int)) ∈ jm_frl := List.mem_of_getElem? (i := 24) rfl
theorem fr_12_3 : ((12 : Int), (3 : Int), (14 : Int)) ∈ jm_frl := List.mem_of_getElem? (i := 25) rfl
theorem fr_12_5 : ((12 : Int), (5 : Int), (15 : Int)) ∈ jm_frl := List.mem_of_getElem? (i := 26) rfl
theorem fr_12_6 : ((12 : Int), (6 : Int), (16 : Int)) ∈ jm_frl := List.mem_of_getElem? (i := 27) rfl
theorem fr_12_7 : ((12 : Int), (7 : Int), (17 : Int)) ∈ jm_frl := List.mem_of_getElem? (i := 28) rfl
theorem fr_12_8 : ((12 : Int), (8 : Int), (18 : Int)) ∈ jm_frl := List.mem_of_getElem? (i := 29) rfl
theorem fr_12_9 : ((12 : Int), (9 : Int), (19 : Int)) ∈ jm_frl := List.mem_of_getElem? (i := 30) rfl
theorem fr_12_12 : ((12 : Int), (12 : Int), (20 : Int)) ∈ jm_frl := List.mem_of_getElem? (i := 31) rfl
theorem fr_21_4 : ((21 : Int), (4 : Int), (31 : Int)) ∈ jm_frl := List.mem_of_getElem? (i := 32) rfl
theorem fr_21_5 : ((21 : Int), (5 : Int), (32 : Int)) ∈ jm_frl := List.mem_of_getElem? (i := 33) rfl
theorem fr_21_6 : ((21 : Int), (6 : Int), (33 : Int)) ∈ jm_frl := List.mem_of_getElem? (i := 34) rfl
theorem fr_21_7 : ((21 : Int), (7 : Int), (34 : Int)) ∈ jm_frl := List.mem_of_getElem? (i := 35) rfl
theorem fr_21_8 : ((21 : Int), (8 : Int), (35 : Int)) ∈ jm_frl := List.mem_of_getElem? (i := 36) rfl
theorem fr_21_9 : ((21 : Int), (9 : Int), (36 : Int)) ∈ jm_frl := List.mem_of_getElem? (i := 37) rfl
theorem fr_22_2 : ((22 : Int), (2 : Int), (23 : Int)) ∈ jm_frl := List.mem_of_getElem? (i := 38) rfl
theorem fr_22_3 : ((22 : Int), (3 : Int), (24 : Int)) ∈ jm_frl := List.mem_of_getElem? (i := 39) rfl
theorem fr_22_5 : ((22 : Int), (5 : Int), (25 : Int)) ∈ jm_frl := List.mem_of_getElem? (i := 40) rfl
theorem fr_22_6 : ((22 : Int), (6 : Int), (26 : Int)) ∈ jm_frl := List.mem_of_getElem? (i := 41) rfl
theorem fr_22_7 : ((22 : Int), (7 : Int), (27 : Int)) ∈ jm_frl := List.mem_of_getElem? (i := 42) rfl
theorem fr_22_8 : ((22 : Int), (8 : Int), (28 : Int)) ∈ jm_frl := List.mem_of_getElem? (i := 43) rfl
theorem fr_22_9 : ((22 : Int), (9 : Int), (29 : Int)) ∈ jm_frl := List.mem_of_getElem? (i := 44) rfl
theorem fr_22_12 : ((22 : Int), (12 : Int), (30 : Int)) ∈ jm_frl := List.mem_of_getElem? (i := 45) rfl
theorem fr_37_4 : ((37 : Int), (4 : Int), (47 : Int)) ∈ jm_frl := List.mem_of_getElem? (i := 46) rfl
theorem fr_37_5 : ((37 : Int), (5 : Int), (48 : Int)) ∈ jm_frl := List.mem_of_getElem? (i := 47) rfl
theorem fr_37_6 : ((37 : Int), (6 : Int), (49 : Int)) ∈ jm_frl := List.mem_of_getElem? (i := 48) rfl
theorem fr_37_7 : ((37 : Int), (7 : Int), (50 : Int)) ∈ jm_frl := List.mem_of_getElem? (i := 49) rfl
theorem fr_37_8 : ((37 : Int), (8 : Int), (51 : Int)) ∈ jm_frl := List.mem_of_getElem? (i := 50) rfl
theorem fr_37_9 : ((37 : Int), (9 : Int), (52 : Int)) ∈ jm_frl := List.mem_of_getElem? (i := 51) rfl
theorem fr_38_2 : ((38 : Int), (2 : Int), (39 : Int)) ∈ jm_frl := List.mem_of_getElem? (i := 52) rfl
theorem fr_38_3 : ((38 : Int), (3 : Int), (40 : Int)) ∈ jm_frl := List.mem_of_getElem? (i := 53) rfl
theorem fr_38_5 : ((38 : Int), (5 : Int), (41 : Int)) ∈ jm_frl := List.mem_of_getElem? (i := 54) rfl
theorem fr_38_6 : ((38 : Int), (6 : Int), (42 : Int)) ∈ jm_frl := List.mem_of_getElem? (i := 55) rfl
theorem fr_38_7 : ((38 : Int), (7 : Int), (43 : Int)) ∈ jm_frl := List.mem_of_getElem? (i := 56) rfl
theorem fr_38_8 : ((38 : Int), (8 : Int), (44 : Int)) ∈ jm_frl := List.mem_of_getElem? (i := 57) rfl
theorem fr_38_9 : ((38 : Int), (9 : Int), (45 : Int)) ∈ jm_frl := List.mem_of_getElem? (i := 58) rfl
theorem fr_38_12 : ((38 : Int), (12 : Int), (46 : Int)) ∈ jm_frl := List.mem_of_getElem? (i := 59) rfl
theorem fr_53_4 : ((53 : Int), (4 : Int), (63 : Int)) ∈ jm_frl := List.mem_of_getElem? (i := 60) rfl
theorem fr_53_5 : ((53 : Int), (5 : Int), (64 : Int)) ∈ jm_frl := List.mem_of_getElem? (i := 61) rfl
theorem fr_53_6 : ((53 : Int), (6 : Int), (65 : Int)) ∈ jm_frl := List.mem_of_getElem? (i := 62) rfl
theorem fr_53_7 : ((53 : Int), (7 : Int), (66 : Int)) ∈ jm_frl := List.mem_of_getElem? (i := 63) rfl
theorem fr_53_8 : ((53 : Int), (8 : Int), (67 : Int)) ∈ jm_frl := List.mem_of_getElem? (i := 64) rfl
theorem fr_53_9 : ((53 : Int), (9 : Int), (68 : Int)) ∈ jm_frl := List.mem_of_getElem? (i := 65) rfl
theorem fr_54_2 : ((54 : Int), (2 : Int), (55 : Int)) ∈ jm_frl := List.mem_of_getElem? (i := 66) rfl
theorem fr_54_3 : ((54 : Int), (3 : Int), (56 : Int)) ∈ jm_frl := List.mem_of_getElem? (i := 67) rfl
theorem fr_54_5 : ((54 : Int), (5 : Int), (57 : Int)) ∈ jm_frl := List.mem_of_getElem? (i := 68) rfl
theorem fr_54_6 : ((54 : Int), (6 : Int), (58 : Int)) ∈ jm_frl := List.mem_of_getElem? (i := 69) rfl
theorem fr_54_7 : ((54 : Int), (7 : Int), (59 : Int)) ∈ jm_frl := List.mem_of_getElem? (i := 70) rfl
theorem fr_54_8 : ((54 : Int), (8 : Int), (60 : Int)) ∈ jm_frl := List.mem_of_getElem? (i := 71) rfl
theorem fr_54_9 : ((54 : Int), (9 : Int), (61 : Int)) ∈ jm_frl := List.mem_of_getElem? (i := 72) rfl
theorem fr_54_12 : ((54 : Int), (12 : Int), (62 : Int)) ∈ jm_frl := List.mem_of_getElem? (i := 73) rfl
theorem fr_69_2 : ((69 : Int), (2 : Int), (70 : Int)) ∈ jm_frl := List.mem_of_getElem? (i := 74) rfl
theorem fr_69_3 : ((69 : Int), (3 : Int), (71 : Int)) ∈ jm_frl := List.mem_of_getElem? (i := 75) rfl
theorem fr_72_2 : ((72 : Int), (2 : Int), (73 : Int)) ∈ jm_frl := List.mem_of_getElem? (i := 76) rfl
theorem fr_72_3 : ((72 : Int), (3 : Int), (74 : Int)) ∈ jm_frl := List.mem_of_getElem? (i := 77) rfl
theorem fr_75_2 : ((75 : Int), (2 : Int), (76 : Int)) ∈ jm_frl := List.mem_of_getElem? (i := 78) rfl
theorem fr_75_3 : ((75 : Int), (3 : Int), (77 : Int)) ∈ jm_frl := List.mem_of_getElem? (i := 79) rfl
theorem fr_75_4 : ((75 : Int), (4 : Int), (78 : Int)) ∈ jm_frl := List.mem_of_getElem? (i := 80) rfl
theorem fr_79_2 : ((79 : Int), (2 : Int), (80 : Int)) ∈ jm_frl := List.mem_of_getElem? (i := 81) rfl
theorem fr_79_3 : ((79 : Int), (3 : Int), (81 : Int)) ∈ jm_frl := List.mem_of_getElem? (i := 82) rfl
theorem fr_79_4 : ((79 : Int), (4 : Int), (82 : Int)) ∈ jm_frl := List.mem_of_getElem? (i := 83) rfl
theorem fr_83_1 : ((83 : Int), (1 : Int), (84 : Int)) ∈ jm_frl := List.mem_of_getElem? (i := 84) rfl
theorem fr_83_3 : ((83 : Int), (3 : Int), (93 : Int)) ∈ jm_frl := List.mem_of_getElem? (i := 85) rfl
theorem fr_83_4 : ((83 : Int), (4 : Int), (94 : Int)) ∈ jm_frl := List.mem_of_getElem? (i := 86) rfl
theorem fr_83_5 : ((83 : Int), (5 : Int), (95 : Int)) ∈ jm_frl := List.mem_of_getElem? (i := 87) rfl
theorem fr_83_6 : ((83 : Int), (6 : Int), (98 : Int)) ∈ jm_frl := List.mem_of_getElem? (i := 88) rfl
theorem fr_84_2 : ((84 : Int), (2 : Int), (85 : Int)) ∈ jm_frl := List.mem_of_getElem? (i := 89) rfl
theorem fr_84_3 : ((84 : Int), (3 : Int), (86 : Int)) ∈ jm_frl := List.mem_of_getElem? (i := 90) rfl
theorem fr_84_5 : ((84 : Int), (5 : Int), (87 : Int)) ∈ jm_frl := List.mem_of_getElem? (i := 91) rfl
theorem fr_84_6 : ((84 : Int), (6 : Int), (88 : Int)) ∈ jm_frl := List.mem_of_getElem? (i := 92) rfl
theorem fr_84_7 : ((84 : Int), (7 : Int), (89 : Int)) ∈ jm_frl := List.mem_of_getElem? (i := 93) rfl
theorem fr_84_8 : ((84 : Int), (8 : Int), (90 : Int)) ∈ jm_frl := List.mem_of_getElem? (i := 94) rfl
theorem fr_84_9 : ((84 : Int), (9 : Int), (91 : Int)) ∈ jm_frl := List.mem_of_getElem? (i := 95) rfl
theorem fr_84_12 : ((84 : Int), (12 : Int), (92 : Int)) ∈ jm_frl := List.mem_of_getElem? (i := 96) rfl
theorem fr_95_2 : ((95 : Int), (2 : Int), (96 : Int)) ∈ jm_frl := List.mem_of_getElem? (i := 97) rfl
theorem fr_95_3 : ((95 : Int), (3 : Int), (97 : Int)) ∈ jm_frl := List.mem_of_getElem? (i := 98) rfl
theorem fr_98_2 : ((98 : Int), (2 : Int), (99 : Int)) ∈ jm_frl := List.mem_of_getElem? (i := 99) rfl
theorem fr_98_3 : ((98 : Int), (3 : Int), (100 : Int)) ∈ jm_frl := List.mem_of_getElem? (i := 100) rfl
theorem fr_98_4 : ((98 : Int), (4 : Int), (101 : Int)) ∈ jm_frl := List.mem_of_getElem? (i := 101) rfl
theorem fr_102_1 : ((102 : Int), (1 : Int), (103 : Int)) ∈ jm_frl := List.mem_of_getElem? (i := 102) rfl
theorem fr_102_3 : ((102 : Int), (3 : Int), (112 : Int)) ∈ jm_frl := List.mem_of_getElem? (i := 103) rfl
theorem fr_102_4 : ((102 : Int), (4 : Int), (113 : Int)) ∈ jm_frl := List.mem_of_getElem? (i := 104) rfl
theorem fr_102_5 : ((102 : Int), (5 : Int), (114 : Int)) ∈ jm_frl := List.mem_of_getElem? (i := 105) rfl
theorem fr_102_6 : ((102 : Int), (6 : Int), (117 : Int)) ∈ jm_frl := List.mem_of_getElem? (i := 106) rfl
theorem fr_103_2 : ((103 : Int), (2 : Int), (104 : Int)) ∈ jm_frl := List.mem_of_getElem? (i := 107) rfl
theorem fr_103_3 : ((103 : Int), (3 : Int), (105 : Int)) ∈ jm_frl := List.mem_of_getElem? (i := 108) rfl
theorem fr_103_5 : ((103 : Int), (5 : Int), (106 : Int)) ∈ jm_frl := List.mem_of_getElem? (i := 109) rfl
theorem fr_103_6 : ((103 : Int), (6 : Int), (107 : Int)) ∈ jm_frl := List.mem_of_getElem? (i := 110) rfl
theorem fr_103_7 : ((103 : Int), (7 : Int), (108 : Int)) ∈ jm_frl := List.mem_of_getElem? (i := 111) rfl
theorem fr_103_8 : ((103 : Int), (8 : Int), (109 : Int)) ∈ jm_frl := List.mem_of_getElem? (i := 112) rfl
theorem fr_103_9 : ((103 : Int), (9 : Int), (110 : Int)) ∈ jm_frl := List.mem_of_getElem? (i := 113) rfl
theorem fr_103_12 : ((103 : Int), (12 : Int), (111 : Int)) ∈ jm_frl := List.mem_of_getElem? (i := 114) rfl
theorem fr_114_2 : ((114 : Int), (2 : Int), (115 : Int)) ∈ jm_frl := List.mem_of_getElem? (i := 115) rfl
theorem fr_114_3 : ((114 : Int), (3 : Int), (116 : Int)) ∈ jm_frl := List.mem_of_getElem? (i := 116) rfl
theorem fr_117_2 : ((117 : Int), (2 : Int), (118 : Int)) ∈ jm_frl := List.mem_of_getElem? (i := 117) rfl
theorem fr_117_3 : ((117 : Int), (3 : Int), (119 : Int)) ∈ jm_frl := List.mem_of_getElem? (i := 118) rfl
theorem fr_117_4 : ((117 : Int), (4 : Int), (120 : Int)) ∈ jm_frl := List.mem_of_getElem? (i := 119) rfl
theorem fr_121_4 : ((121 : Int), (4 : Int), (122 : Int)) ∈ jm_frl := List.mem_of_getElem? (i := 120) rfl
theorem fr_121_5 : ((121 : Int), (5 : Int), (123 : Int)) ∈ jm_frl := List.mem_of_getElem? (i := 121) rfl
theorem fr_124_1 : ((124 : Int), (1 : Int), (125 : Int)) ∈ jm_frl := List.mem_of_getElem? (i := 122) rfl
theorem fr_124_2 : ((124 : Int), (2 : Int), (126 : Int)) ∈ jm_frl := List.mem_of_getElem? (i := 123) rfl
theorem fr_124_7 : ((124 : Int), (7 : Int), (127 : Int)) ∈ jm_frl := List.mem_of_getElem? (i := 124) rfl
theorem fr_124_8 : ((124 : Int), (8 : Int), (128 : Int)) ∈ jm_frl := List.mem_of_getElem? (i := 125) rfl
theorem fr_124_9 : ((124 : Int), (9 : Int), (129 : Int)) ∈ jm_frl := List.mem_of_getElem? (i := 126) rfl
theorem fr_130_4 : ((130 : Int), (4 : Int), (131 : Int)) ∈ jm_frl := List.mem_of_getElem? (i := 127) rfl
theorem fr_130_5 : ((130 : Int), (5 : Int), (132 : Int)) ∈ jm_frl := List.mem_of_getElem? (i := 128) rfl
theorem fc_5_2 {a : Int} (hf : jm_is jm_N a 1 5) : (a, (2 : Int), a + 1) ∈ jm_frl := by
  obtain ⟨k, rfl, h⟩ := jm_cls (fun p => decide (((p : Int), (2 : Int), (p : Int) + 1) ∈ jm_frl)) (by decide +kernel) hf
  exact of_decide_eq_true h
theorem xc_5_2 {a i : Int} (hf : jm_is jm_N a 1 5) (h0 : 0 ≤ i) (h1 : i < 8) : jm_ix jm_N (a + 1) 3 i := by
  obtain ⟨k, rfl, h⟩ := jm_cls (fun p => decide (p + 1 < 137) && (jm_s (p + 1) == (3, 8))) (by decide +kernel) hf
  simp only [Bool.and_eq_true, decide_eq_true_eq, beq_iff_eq] at h
  exact jm_ix_of h.1 h.2 h0 h1
theorem ac_5_2 {a : Int} (hf : jm_is jm_N a 1 5) : jm_ia jm_N (a + 1) 3 ∧ jm_sn (a + 1) = 8 := by
  obtain ⟨k, rfl, h⟩ := jm_cls (fun p => decide (p + 1 < 137) && (jm_s (p + 1) == (3, 8))) (by decide +kernel) hf
  simp only [Bool.and_eq_true, decide_eq_true_eq, beq_iff_eq] at h
  exact ⟨jm_ia_of h.1 h.2 (by decide), jm_sn_of h.2⟩
theorem fc_5_3 {a : Int} (hf : jm_is jm_N a 1 5) : (a, (3 : Int), a + 2) ∈ jm_frl := by
  obtain ⟨k, rfl, h⟩ := jm_cls (fun p => decide (((p : Int), (3 : Int), (p : Int) + 2) ∈ jm_frl)) (by decide +kernel) hf
  exact of_decide_eq_true h
theorem xc_5_3 {a i : Int} (hf : jm_is jm_N a 1 5) (h0 : 0 ≤ i) (h1 : i < 8) : jm_ix jm_N (a + 2) 2 i := by
  obtain ⟨k, rfl, h⟩ := jm_cls (fun p => decide (p + 2 < 137) && (jm_s (p + 2) == (2, 8))) (by decide +kernel) hf
  simp only [Bool.and_eq_true, decide_eq_true_eq, beq_iff_eq] at h
  exact jm_ix_of h.1 h.2 h0 h1
theorem ac_5_3 {a : Int} (hf : jm_is jm_N a 1 5) : jm_ia jm_N (a + 2) 2 ∧ jm_sn (a + 2) = 8 := by
  obtain ⟨k, rfl, h⟩ := jm_cls (fun p => decide (p + 2 < 137) && (jm_s (p + 2) == (2, 8))) (by decide +kernel) hf
  simp only [Bool.and_eq_true, decide_eq_true_eq, beq_iff_eq] at h
  exact ⟨jm_ia_of h.1 h.2 (by decide), jm_sn_of h.2⟩
theorem fc_5_5 {a : Int} (hf : jm_is jm_N a 1 5) : (a, (5 : Int), a + 3) ∈ jm_frl := by
  obtain ⟨k, rfl, h⟩ := jm_cls (fun p => decide (((p : Int), (5 : Int), (p : Int) + 3) ∈ jm_frl)) (by decide +kernel) hf
  exact of_decide_eq_true h
theorem xc_5_5 {a i : Int} (hf : jm_is jm_N a 1 5) (h0 : 0 ≤ i) (h1 : i < 10) : jm_ix jm_N (a + 3) 3 i := by
  obtain ⟨k, rfl, h⟩ := jm_cls (fun p => decide (p + 3 < 137) && (jm_s (p + 3) == (3, 10))) (by decide +kernel) hf
  simp only [Bool.and_eq_true, decide_eq_true_eq, beq_iff_eq] at h
  exact jm_ix_of h.1 h.2 h0 h1
theorem ac_5_5 {a : Int} (hf : jm_is jm_N a 1 5) : jm_ia jm_N (a + 3) 3 ∧ jm_sn (a + 3) = 10 := by
  obtain ⟨k, rfl, h⟩ := jm_cls (fun p => decide (p + 3 < 137) && (jm_s (p + 3) == (3, 10))) (by decide +kernel) hf
  simp only [Bool.and_eq_true, decide_eq_true_eq, beq_iff_eq] at h
  exact ⟨jm_ia_of h.1 h.2 (by decide), jm_sn_of h.2⟩
theorem fc_5_6 {a : Int} (hf : jm_is jm_N a 1 5) : (a, (6 : Int), a + 4) ∈ jm_frl := by
  obtain ⟨k, rfl, h⟩ := jm_cls (fun p => decide (((p : Int), (6 : Int), (p : Int) + 4) ∈ jm_frl)) (by decide +kernel) hf
  exact of_decide_eq_true h
theorem xc_5_6 {a i : Int} (hf : jm_is jm_N a 1 5) (h0 : 0 ≤ i) (h1 : i < 10) : jm_ix jm_N (a + 4) 2 i := by
  obtain ⟨k, rfl, h⟩ := jm_cls (fun p => decide (p + 4 < 137) && (jm_s (p + 4) == (2, 10))) (by decide +kernel) hf
  simp only [Bool.and_eq_true, decide_eq_true_eq, beq_iff_eq] at h
  exact jm_ix_of h.1 h.2 h0 h1
theorem ac_5_6 {a : Int} (hf : jm_is jm_N a 1 5) : jm_ia jm_N (a + 4) 2 ∧ jm_sn (a + 4) = 10 := by
  obtain ⟨k, rfl, h⟩ := jm_cls (fun p => decide (p + 4 < 137) && (jm_s (p + 4) == (2, 10))) (by decide +kernel) hf
  simp only [Bool.and_eq_true, decide_eq_true_eq, beq_iff_eq] at h
  exact ⟨jm_ia_of h.1 h.2 (by decide), jm_sn_of h.2⟩
theorem fc_5_7 {a : Int} (hf : jm_is jm_N a 1 5) : (a, (7 : Int), a + 5) ∈ jm_frl := by
  obtain ⟨k, rfl, h⟩ := jm_cls (fun p => decide (((p : Int), (7 : Int), (p : Int) + 5) ∈ jm_frl)) (by decide +kernel) hf
  exact of_decide_eq_true h
theorem xc_5_7 {a i : Int} (hf : jm_is jm_N a 1 5) (h0 : 0 ≤ i) (h1 : i < 10) : jm_ix jm_N (a + 5) 2 i := by
  obtain ⟨k, rfl, h⟩ := jm_cls (fun p => decide (p + 5 < 137) && (jm_s (p + 5) == (2, 10))) (by decide +kernel) hf
  simp only [Bool.and_eq_true, decide_eq_true_eq, beq_iff_eq] at h
  exact jm_ix_of h.1 h.2 h0 h1
theorem ac_5_7 {a : Int} (hf : jm_is jm_N a 1 5) : jm_ia jm_N (a + 5) 2 ∧ jm_sn (a + 5) = 10 := by
  obtain ⟨k, rfl, h⟩ := jm_cls (fun p => decide (p + 5 < 137) && (jm_s (p + 5) == (2, 10))) (by decide +kernel) hf
  simp only [Bool.and_eq_true, decide_eq_true_eq, beq_iff_eq] at h
  exact ⟨jm_ia_of h.1 h.2 (by decide), jm_sn_of h.2⟩
theorem fc_5_8 {a : Int} (hf : jm_is jm_N a 1 5) : (a, (8 : Int), a + 6) ∈ jm_frl := by
  obtain ⟨k, rfl, h⟩ := jm_cls (fun p => decide (((p : Int), (8 : Int), (p : Int) + 6) ∈ jm_frl)) (by decide +kernel) hf
  exact of_decide_eq_true h
theorem xc_5_8 {a i : Int} (hf : jm_is jm_N a 1 5) (h0 : 0 ≤ i) (h1 : i < 10) : jm_ix jm_N (a + 6) 2 i := by
  obtain ⟨k, rfl, h⟩ := jm_cls (fun p => decide (p + 6 < 137) && (jm_s (p + 6) == (2, 10))) (by decide +kernel) hf
  simp only [Bool.and_eq_true, decide_eq_true_eq, beq_iff_eq] at h
  exact jm_ix_of h.1 h.2 h0 h1
theorem ac_5_8 {a : Int} (hf : jm_is jm_N a 1 5) : jm_ia jm_N (a + 6) 2 ∧ jm_sn (a + 6) = 10 := by
  obtain ⟨k, rfl, h⟩ := jm_cls (fun p => decide (p + 6 < 137) && (jm_s (p + 6) == (2, 10))) (by decide +kernel) hf
  simp only [Bool.and_eq_true, decide_eq_true_eq, beq_iff_eq] at h
  exact ⟨jm_ia_of h.1 h.2 (by decide), jm_sn_of h.2⟩
theorem fc_5_9 {a : Int} (hf : jm_is jm_N a 1 5) : (a, (9 : Int), a + 7) ∈ jm_frl := by
  obtain ⟨k, rfl, h⟩ := jm_cls (fun p => decide (((p : Int), (9 : Int), (p : Int) + 7) ∈ jm_frl)) (by decide +kernel) hf
  exact of_decide_eq_true h
theorem xc_5_9 {a i : Int} (hf : jm_is jm_N a 1 5) (h0 : 0 ≤ i) (h1 : i < 10) : jm_ix jm_N (a + 7) 2 i := by
  obtain ⟨k, rfl, h⟩ := jm_cls (fun p => decide (p + 7 < 137) && (jm_s (p + 7) == (2, 10))) (by decide +kernel) hf
  simp only [Bool.and_eq_true, decide_eq_true_eq, beq_iff_eq] at h
  exact jm_ix_of h.1 h.2 h0 h1
theorem ac_5_9 {a : Int} (hf : jm_is jm_N a 1 5) : jm_ia jm_N (a + 7) 2 ∧ jm_sn (a + 7) = 10 := by
  obtain ⟨k, rfl, h⟩ := jm_cls (fun p => decide (p + 7 < 137) && (jm_s (p + 7) == (2, 10))) (by decide +kernel) hf
  simp only [Bool.and_eq_true, decide_eq_true_eq, beq_iff_eq] at h
  exact ⟨jm_ia_of h.1 h.2 (by decide), jm_sn_of h.2⟩
theorem fc_5_12 {a : Int} (hf : jm_is jm_N a 1 5) : (a, (12 : Int), a + 8) ∈ jm_frl := by
  obtain ⟨k, rfl, h⟩ := jm_cls (fun p => decide (((p : Int), (12 : Int), (p : Int) + 8) ∈ jm_frl)) (by decide +kernel) hf
  exact of_decide_eq_true h
theorem xc_5_12 {a i : Int} (hf : jm_is jm_N a 1 5) (h0 : 0 ≤ i) (h1 : i < 6) : jm_ix jm_N (a + 8) 2 i := by
  obtain ⟨k, rfl, h⟩ := jm_cls (fun p => decide (p + 8 < 137) && (jm_s (p + 8) == (2, 6))) (by decide +kernel) hf
  simp only [Bool.and_eq_true, decide_eq_true_eq, beq_iff_eq] at h
  exact jm_ix_of h.1 h.2 h0 h1
theorem ac_5_12 {a : Int} (hf : jm_is jm_N a 1 5) : jm_ia jm_N (a + 8) 2 ∧ jm_sn (a + 8) = 6 := by
  obtain ⟨k, rfl, h⟩ := jm_cls (fun p => decide (p + 8 < 137) && (jm_s (p + 8) == (2, 6))) (by decide +kernel) hf
  simp only [Bool.and_eq_true, decide_eq_true_eq, beq_iff_eq] at h
  exact ⟨jm_ia_of h.1 h.2 (by decide), jm_sn_of h.2⟩
theorem fc_6_4 {a : Int} (hf : jm_is jm_N a 1 6) : (a, (4 : Int), a + 10) ∈ jm_frl := by
  obtain ⟨k, rfl, h⟩ := jm_cls (fun p => decide (((p : Int), (4 : Int), (p : Int) + 10) ∈ jm_frl)) (by decide +kernel) hf
  exact of_decide_eq_true h
theorem xc_6_4 {a i : Int} (hf : jm_is jm_N a 1 6) (h0 : 0 ≤ i) (h1 : i < (jm_sn (a + 10) : Int)) : jm_ix jm_N (a + 10) 2 i := by
  obtain ⟨k, rfl, h⟩ := jm_cls (fun p => decide (p + 10 < 137) && decide (p + 10 < 137) && (jm_s (p + 10) == (2, (jm_s (p + 10)).2))) (by decide +kernel) hf
  simp only [Bool.and_eq_true, decide_eq_true_eq, beq_iff_eq] at h
  refine jm_ix_of h.1.1 h.2 h0 ?_
  have e : jm_sn ((k : Int) + 10) = (jm_s (k + 10)).2 := jm_sn_nat (k + 10)
  rw [e] at h1
  exact h1
theorem ac_6_4 {a : Int} (hf : jm_is jm_N a 1 6) : jm_ia jm_N (a + 10) 2 := by
  obtain ⟨k, rfl, h⟩ := jm_cls (fun p => decide (p + 10 < 137) && decide ((jm_s (p + 10)).2 < 2147483648) && (jm_s (p + 10) == (2, (jm_s (p + 10)).2))) (by decide +kernel) hf
  simp only [Bool.and_eq_true, decide_eq_true_eq, beq_iff_eq] at h
  exact jm_ia_of h.1.1 h.2 h.1.2
theorem fc_6_5 {a : Int} (hf : jm_is jm_N a 1 6) : (a, (5 : Int), a + 11) ∈ jm_frl := by
  obtain ⟨k, rfl, h⟩ := jm_cls (fun p => decide (((p : Int), (5 : Int), (p : Int) + 11) ∈ jm_frl)) (by decide +kernel) hf
  exact of_decide_eq_true h
theorem xc_6_5 {a i : Int} (hf : jm_is jm_N a 1 6) (h0 : 0 ≤ i) (h1 : i < (jm_sn (a + 10) : Int)) : jm_ix jm_N (a + 11) 2 i := by
  obtain ⟨k, rfl, h⟩ := jm_cls (fun p => decide (p + 11 < 137) && decide (p + 10 < 137) && (jm_s (p + 11) == (2, (jm_s (p + 10)).2))) (by decide +kernel) hf
  simp only [Bool.and_eq_true, decide_eq_true_eq, beq_iff_eq] at h
  refine jm_ix_of h.1.1 h.2 h0 ?_
  have e : jm_sn ((k : Int) + 10) = (jm_s (k + 10)).2 := jm_sn_nat (k + 10)
  rw [e] at h1
  exact h1
theorem ac_6_5 {a : Int} (hf : jm_is jm_N a 1 6) : jm_ia jm_N (a + 11) 2 := by
  obtain ⟨k, rfl, h⟩ := jm_cls (fun p => decide (p + 11 < 137) && decide ((jm_s (p + 11)).2 < 2147483648) && (jm_s (p + 11) == (2, (jm_s (p + 11)).2))) (by decide +kernel) hf
  simp only [Bool.and_eq_true, decide_eq_true_eq, beq_iff_eq] at h
  exact jm_ia_of h.1.1 h.2 h.1.2
theorem fc_6_6 {a : Int} (hf : jm_is jm_N a 1 6) : (a, (6 : Int), a + 12) ∈ jm_frl := by
  obtain ⟨k, rfl, h⟩ := jm_cls (fun p => decide (((p : Int), (6 : Int), (p : Int) + 12) ∈ jm_frl)) (by decide +kernel) hf
  exact of_decide_eq_true h
theorem xc_6_6 {a i : Int} (hf : jm_is jm_N a 1 6) (h0 : 0 ≤ i) (h1 : i < (jm_sn (a + 10) : Int)) : jm_ix jm_N (a + 12) 2 i := by
  obtain ⟨k, rfl, h⟩ := jm_cls (fun p => decide (p + 12 < 137) && decide (p + 10 < 137) && (jm_s (p + 12) == (2, (jm_s (p + 10)).2))) (by decide +kernel) hf
  simp only [Bool.and_eq_true, decide_eq_true_eq, beq_iff_eq] at h
  refine jm_ix_of h.1.1 h.2 h0 ?_
  have e : jm_sn ((k : Int) + 10) = (jm_s (k + 10)).2 := jm_sn_nat (k + 10)
  rw [e] at h1
  exact h1
theorem ac_6_6 {a : Int} (hf : jm_is jm_N a 1 6) : jm_ia jm_N (a + 12) 2 := by
  obtain ⟨k, rfl, h⟩ := jm_cls (fun p => decide (p + 12 < 137) && decide ((jm_s (p + 12)).2 < 2147483648) && (jm_s (p + 12) == (2, (jm_s (p + 12)).2))) (by decide +kernel) hf
  simp only [Bool.and_eq_true, decide_eq_true_eq, beq_iff_eq] at h
  exact jm_ia_of h.1.1 h.2 h.1.2
theorem fc_6_7 {a : Int} (hf : jm_is jm_N a 1 6) : (a, (7 : Int), a + 13) ∈ jm_frl := by
  obtain ⟨k, rfl, h⟩ := jm_cls (fun p => decide (((p : Int), (7 : Int), (p : Int) + 13) ∈ jm_frl)) (by decide +kernel) hf
  exact of_decide_eq_true h
theorem xc_6_7 {a i : Int} (hf : jm_is jm_N a 1 6) (h0 : 0 ≤ i) (h1 : i < (jm_sn (a + 10) : Int)) : jm_ix jm_N (a + 13) 2 i := by
  obtain ⟨k, rfl, h⟩ := jm_cls (fun p => decide (p + 13 < 137) && decide (p + 10 < 137) && (jm_s (p + 13) == (2, (jm_s (p + 10)).2))) (by decide +kernel) hf
  simp only [Bool.and_eq_true, decide_eq_true_eq, beq_iff_eq] at h
  refine jm_ix_of h.1.1 h.2 h0 ?_
  have e : jm_sn ((k : Int) + 10) = (jm_s (k + 10)).2 := jm_sn_nat (k + 10)
  rw [e] at h1
  exact h1
theorem ac_6_7 {a : Int} (hf : jm_is jm_N a 1 6) : jm_ia jm_N (a + 13) 2 := by
  obtain ⟨k, rfl, h⟩ := jm_cls (fun p => decide (p + 13 < 137) && decide ((jm_s (p + 13)).2 < 2147483648) && (jm_s (p + 13) == (2, (jm_s (p + 13)).2))) (by decide +kernel) hf
  simp only [Bool.and_eq_true, decide_eq_true_eq, beq_iff_eq] at h
  exact jm_ia_of h.1.1 h.2 h.1.2
theorem fc_6_8 {a : Int} (hf : jm_is jm_N a 1 6) : (a, (8 : Int), a + 14) ∈ jm_frl := by
  obtain ⟨k, rfl, h⟩ := jm_cls (fun p => decide (((p : Int), (8 : Int), (p : Int) + 14) ∈ jm_frl)) (by decide +kernel) hf
  exact of_decide_eq_true h
theorem xc_6_8 {a i : Int} (hf : jm_is jm_N a 1 6) (h0 : 0 ≤ i) (h1 : i < (jm_sn (a + 10) : Int)) : jm_ix jm_N (a + 14) 2 i := by
  obtain ⟨k, rfl, h⟩ := jm_cls (fun p => decide (p + 14 < 137) && decide (p + 10 < 137) && (jm_s (p + 14) == (2, (jm_s (p + 10)).2))) (by decide +kernel) hf
  simp only [Bool.and_eq_true, decide_eq_true_eq, beq_iff_eq] at h
  refine jm_ix_of h.1.1 h.2 h0 ?_
  have e : jm_sn ((k : Int) + 10) = (jm_s (k + 10)).2 := jm_sn_nat (k + 10)
  rw [e] at h1
  exact h1
theorem ac_6_8 {a : Int} (hf : jm_is jm_N a 1 6) : jm_ia jm_N (a + 14) 2 := by
  obtain ⟨k, rfl, h⟩ := jm_cls (fun p => decide (p + 14 < 137) && decide ((jm_s (p + 14)).2 < 2147483648) && (jm_s (p + 14) == (2, (jm_s (p + 14)).2))) (by decide +kernel) hf
  simp only [Bool.and_eq_true, decide_eq_true_eq, beq_iff_eq] at h
  exact jm_ia_of h.1.1 h.2 h.1.2
theorem fc_6_9 {a : Int} (hf : jm_is jm_N a 1 6) : (a, (9 : Int), a + 15) ∈ jm_frl := by
  obtain ⟨k, rfl, h⟩ := jm_cls (fun p => decide (((p : Int), (9 : Int), (p : Int) + 15) ∈ jm_frl)) (by decide +kernel) hf
  exact of_decide_eq_true h
theorem xc_6_9 {a i : Int} (hf : jm_is jm_N a 1 6) (h0 : 0 ≤ i) (h1 : i < (jm_sn (a + 10) : Int)) : jm_ix jm_N (a + 15) 2 i := by
  obtain ⟨k, rfl, h⟩ := jm_cls (fun p => decide (p + 15 < 137) && decide (p + 10 < 137) && (jm_s (p + 15) == (2, (jm_s (p + 10)).2))) (by decide +kernel) hf
  simp only [Bool.and_eq_true, decide_eq_true_eq, beq_iff_eq] at h
  refine jm_ix_of h.1.1 h.2 h0 ?_
  have e : jm_sn ((k : Int) + 10) = (jm_s (k + 10)).2 := jm_sn_nat (k + 10)
  rw [e] at h1
  exact h1
theorem ac_6_9 {a : Int} (hf : jm_is jm_N a 1 6) : jm_ia jm_N (a + 15) 2 := by
  obtain ⟨k, rfl, h⟩ := jm_cls (fun p => decide (p + 15 < 137) && decide ((jm_s (p + 15)).2 < 2147483648) && (jm_s (p + 15) == (2, (jm_s (p + 15)).2))) (by decide +kernel) hf
  simp only [Bool.and_eq_true, decide_eq_true_eq, beq_iff_eq] at h
  exact jm_ia_of h.1.1 h.2 h.1.2
theorem fc_1_2 {a : Int} (hf : jm_is jm_N a 1 1) : (a, (2 : Int), a + 1) ∈ jm_frl := by
  obtain ⟨k, rfl, h⟩ := jm_cls (fun p => decide (((p : Int), (2 : Int), (p : Int) + 1) ∈ jm_frl)) (by decide +kernel) hf
  exact of_decide_eq_true h
theorem xc_1_2 {a i : Int} (hf : jm_is jm_N a 1 1) (h0 : 0 ≤ i) (h1 : i < 24) : jm_ix jm_N (a + 1) 2 i := by
  obtain ⟨k, rfl, h⟩ := jm_cls (fun p => decide (p + 1 < 137) && (jm_s (p + 1) == (2, 24))) (by decide +kernel) hf
  simp only [Bool.and_eq_true, decide_eq_true_eq, beq_iff_eq] at h
  exact jm_ix_of h.1 h.2 h0 h1
theorem ac_1_2 {a : Int} (hf : jm_is jm_N a 1 1) : jm_ia jm_N (a + 1) 2 ∧ jm_sn (a + 1) = 24 := by
  obtain ⟨k, rfl, h⟩ := jm_cls (fun p => decide (p + 1 < 137) && (jm_s (p + 1) == (2, 24))) (by decide +kernel) hf
  simp only [Bool.and_eq_true, decide_eq_true_eq, beq_iff_eq] at h
  exact ⟨jm_ia_of h.1 h.2 (by decide), jm_sn_of h.2⟩
theorem fc_1_3 {a : Int} (hf : jm_is jm_N a 1 1) : (a, (3 : Int), a + 2) ∈ jm_frl := by
  obtain ⟨k, rfl, h⟩ := jm_cls (fun p => decide (((p : Int), (3 : Int), (p : Int) + 2) ∈ jm_frl)) (by decide +kernel) hf
  exact of_decide_eq_true h
theorem xc_1_3 {a i : Int} (hf : jm_is jm_N a 1 1) (h0 : 0 ≤ i) (h1 : i < 24) : jm_ix jm_N (a + 2) 2 i := by
  obtain ⟨k, rfl, h⟩ := jm_cls (fun p => decide (p + 2 < 137) && (jm_s (p + 2) == (2, 24))) (by decide +kernel) hf
  simp only [Bool.and_eq_true, decide_eq_true_eq, beq_iff_eq] at h
  exact jm_ix_of h.1 h.2 h0 h1
theorem ac_1_3 {a : Int} (hf : jm_is jm_N a 1 1) : jm_ia jm_N (a + 2) 2 ∧ jm_sn (a + 2) = 24 := by
  obtain ⟨k, rfl, h⟩ := jm_cls (fun p => decide (p + 2 < 137) && (jm_s (p + 2) == (2, 24))) (by decide +kernel) hf
  simp only [Bool.and_eq_true, decide_eq_true_eq, beq_iff_eq] at h
  exact ⟨jm_ia_of h.1 h.2 (by decide), jm_sn_of h.2⟩
theorem fc_4_2 {a : Int} (hf : jm_is jm_N a 1 4) : (a, (2 : Int), a + 1) ∈ jm_frl := by
  obtain ⟨k, rfl, h⟩ := jm_cls (fun p => decide (((p : Int), (2 : Int), (p : Int) + 1) ∈ jm_frl)) (by decide +kernel) hf
  exact of_decide_eq_true h
theorem xc_4_2 {a i : Int} (hf : jm_is jm_N a 1 4) (h0 : 0 ≤ i) (h1 : i < 64) : jm_ix jm_N (a + 1) 2 i := by
  obtain ⟨k, rfl, h⟩ := jm_cls (fun p => decide (p + 1 < 137) && (jm_s (p + 1) == (2, 64))) (by decide +kernel) hf
  simp only [Bool.and_eq_true, decide_eq_true_eq, beq_iff_eq] at h
  exact jm_ix_of h.1 h.2 h0 h1
theorem ac_4_2 {a : Int} (hf : jm_is jm_N a 1 4) : jm_ia jm_N (a + 1) 2 ∧ jm_sn (a + 1) = 64 := by
  obtain ⟨k, rfl, h⟩ := jm_cls (fun p => decide (p + 1 < 137) && (jm_s (p + 1) == (2, 64))) (by decide +kernel) hf
  simp only [Bool.and_eq_true, decide_eq_true_eq, beq_iff_eq] at h
  exact ⟨jm_ia_of h.1 h.2 (by decide), jm_sn_of h.2⟩
theorem fc_4_3 {a : Int} (hf : jm_is jm_N a 1 4) : (a, (3 : Int), a + 2) ∈ jm_frl := by
  obtain ⟨k, rfl, h⟩ := jm_cls (fun p => decide (((p : Int), (3 : Int), (p : Int) + 2) ∈ jm_frl)) (by decide +kernel) hf
  exact of_decide_eq_true h
theorem xc_4_3 {a i : Int} (hf : jm_is jm_N a 1 4) (h0 : 0 ≤ i) (h1 : i < 64) : jm_ix jm_N (a + 2) 2 i := by
  obtain ⟨k, rfl, h⟩ := jm_cls (fun p => decide (p + 2 < 137) && (jm_s (p + 2) == (2, 64))) (by decide +kernel) hf
  simp only [Bool.and_eq_true, decide_eq_true_eq, beq_iff_eq] at h
  exact jm_ix_of h.1 h.2 h0 h1
theorem ac_4_3 {a : Int} (hf : jm_is jm_N a 1 4) : jm_ia jm_N (a + 2) 2 ∧ jm_sn (a + 2) = 64 := by
  obtain ⟨k, rfl, h⟩ := jm_cls (fun p => decide (p + 2 < 137) && (jm_s (p + 2) == (2, 64))) (by decide +kernel) hf
  simp only [Bool.and_eq_true, decide_eq_true_eq, beq_iff_eq] at h
  exact ⟨jm_ia_of h.1 h.2 (by decide), jm_sn_of h.2⟩
theorem fc_4_4 {a : Int} (hf : jm_is jm_N a 1 4) : (a, (4 : Int), a + 3) ∈ jm_frl := by
  obtain ⟨k, rfl, h⟩ := jm_cls (fun p => decide (((p : Int), (4 : Int), (p : Int) + 3) ∈ jm_frl)) (by decide +kernel) hf
  exact of_decide_eq_true h
theorem xc_4_4 {a i : Int} (hf : jm_is jm_N a 1 4) (h0 : 0 ≤ i) (h1 : i < 64) : jm_ix jm_N (a + 3) 2 i := by
  obtain ⟨k, rfl, h⟩ := jm_cls (fun p => decide (p + 3 < 137) && (jm_s (p + 3) == (2, 64))) (by decide +kernel) hf
  simp only [Bool.and_eq_true, decide_eq_true_eq, beq_iff_eq] at h
  exact jm_ix_of h.1 h.2 h0 h1
theorem ac_4_4 {a : Int} (hf : jm_is jm_N a 1 4) : jm_ia jm_N (a + 3) 2 ∧ jm_sn (a + 3) = 64 := by
  obtain ⟨k, rfl, h⟩ := jm_cls (fun p => decide (p + 3 < 137) && (jm_s (p + 3) == (2, 64))) (by decide +kernel) hf
  simp only [Bool.and_eq_true, decide_eq_true_eq, beq_iff_eq] at h
  exact ⟨jm_ia_of h.1 h.2 (by decide), jm_sn_of h.2⟩
theorem fc_0_1 {a : Int} (hf : jm_is jm_N a 1 0) : (a, (1 : Int), a + 1) ∈ jm_frl := by
  obtain ⟨k, rfl, h⟩ := jm_cls (fun p => decide (((p : Int), (1 : Int), (p : Int) + 1) ∈ jm_frl)) (by decide +kernel) hf
  exact of_decide_eq_true h
theorem ic_0_1 {a : Int} (hf : jm_is jm_N a 1 0) : jm_is jm_N (a + 1) 1 5 := by
  obtain ⟨k, rfl, h⟩ := jm_cls (fun p => decide (p + 1 < 137) && (jm_s (p + 1) == (1, 5))) (by decide +kernel) hf
  simp only [Bool.and_eq_true, decide_eq_true_eq, beq_iff_eq] at h
  exact jm_is_of h.1 h.2
theorem fc_0_3 {a : Int} (hf : jm_is jm_N a 1 0) : (a, (3 : Int), a + 10) ∈ jm_frl := by
  obtain ⟨k, rfl, h⟩ := jm_cls (fun p => decide (((p : Int), (3 : Int), (p : Int) + 10) ∈ jm_frl)) (by decide +kernel) hf
  exact of_decide_eq_true h
theorem xc_0_3 {a i : Int} (hf : jm_is jm_N a 1 0) (h0 : 0 ≤ i) (h1 : i < 400) : jm_ix jm_N (a + 10) 2 i := by
  obtain ⟨k, rfl, h⟩ := jm_cls (fun p => decide (p + 10 < 137) && (jm_s (p + 10) == (2, 400))) (by decide +kernel) hf
  simp only [Bool.and_eq_true, decide_eq_true_eq, beq_iff_eq] at h
  exact jm_ix_of h.1 h.2 h0 h1
theorem ac_0_3 {a : Int} (hf : jm_is jm_N a 1 0) : jm_ia jm_N (a + 10) 2 ∧ jm_sn (a + 10) = 400 := by
  obtain ⟨k, rfl, h⟩ := jm_cls (fun p => decide (p + 10 < 137) && (jm_s (p + 10) == (2, 400))) (by decide +kernel) hf
  simp only [Bool.and_eq_true, decide_eq_true_eq, beq_iff_eq] at h
  exact ⟨jm_ia_of h.1 h.2 (by decide), jm_sn_of h.2⟩
theorem fc_0_4 {a : Int} (hf : jm_is jm_N a 1 0) : (a, (4 : Int), a + 11) ∈ jm_frl := by
  obtain ⟨k, rfl, h⟩ := jm_cls (fun p => decide (((p : Int), (4 : Int), (p : Int) + 11) ∈ jm_frl)) (by decide +kernel) hf
  exact of_decide_eq_true h
theorem xc_0_4 {a i : Int} (hf : jm_is jm_N a 1 0) (h0 : 0 ≤ i) (h1 : i < 400) : jm_ix jm_N (a + 11) 2 i := by
  obtain ⟨k, rfl, h⟩ := jm_cls (fun p => decide (p + 11 < 137) && (jm_s (p + 11) == (2, 400))) (by decide +kernel) hf
  simp only [Bool.and_eq_true, decide_eq_true_eq, beq_iff_eq] at h
  exact jm_ix_of h.1 h.2 h0 h1
theorem ac_0_4 {a : Int} (hf : jm_is jm_N a 1 0) : jm_ia jm_N (a + 11) 2 ∧ jm_sn (a + 11) = 400 := by
  obtain ⟨k, rfl, h⟩ := jm_cls (fun p => decide (p + 11 < 137) && (jm_s (p + 11) == (2, 400))) (by decide +kernel) hf
  simp only [Bool.and_eq_true, decide_eq_true_eq, beq_iff_eq] at h
  exact ⟨jm_ia_of h.1 h.2 (by decide), jm_sn_of h.2⟩
theorem fc_0_5 {a : Int} (hf : jm_is jm_N a 1 0) : (a, (5 : Int), a + 12) ∈ jm_frl := by
  obtain ⟨k, rfl, h⟩ := jm_cls (fun p => decide (((p : Int), (5 : Int), (p : Int) + 12) ∈ jm_frl)) (by decide +kernel) hf
  exact of_decide_eq_true h
theorem ic_0_5 {a : Int} (hf : jm_is jm_N a 1 0) : jm_is jm_N (a + 12) 1 1 := by
  obtain ⟨k, rfl, h⟩ := jm_cls (fun p => decide (p + 12 < 137) && (jm_s (p + 12) == (1, 1))) (by decide +kernel) hf
  simp only [Bool.and_eq_true, decide_eq_true_eq, beq_iff_eq] at h
  exact jm_is_of h.1 h.2
theorem fc_0_6 {a : Int} (hf : jm_is jm_N a 1 0) : (a, (6 : Int), a + 15) ∈ jm_frl := by
  obtain ⟨k, rfl, h⟩ := jm_cls (fun p => decide (((p : Int), (6 : Int), (p : Int) + 15) ∈ jm_frl)) (by decide +kernel) hf
  exact of_decide_eq_true h
theorem ic_0_6 {a : Int} (hf : jm_is jm_N a 1 0) : jm_is jm_N (a + 15) 1 4 := by
  obtain ⟨k, rfl, h⟩ := jm_cls (fun p => decide (p + 15 < 137) && (jm_s (p + 15) == (1, 4))) (by decide +kernel) hf
  simp only [Bool.and_eq_true, decide_eq_true_eq, beq_iff_eq] at h
  exact jm_is_of h.1 h.2
