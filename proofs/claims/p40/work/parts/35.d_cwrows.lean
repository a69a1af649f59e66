/-! kind and word, rows by program (mk35.py) -/
theorem d_X10_kind_0 : decode m_X10_kind.2.1 0 = .ok (.aload_n 0, 1) := by decide +kernel
theorem d_X10_kind_1 : decode m_X10_kind.2.1 1 = .ok (.getfield 19, 3) := by decide +kernel
theorem d_X10_kind_4 : decode m_X10_kind.2.1 4 = .ok (.iload_n 1, 1) := by decide +kernel
theorem d_X10_kind_5 : decode m_X10_kind.2.1 5 = .ok (.invokevirtual 132, 3) := by decide +kernel
theorem d_X10_kind_8 : decode m_X10_kind.2.1 8 = .ok (.ifCond .eq 12, 3) := by decide +kernel
theorem d_X10_kind_11 : decode m_X10_kind.2.1 11 = .ok (.iload_n 2, 1) := by decide +kernel
theorem d_X10_kind_12 : decode m_X10_kind.2.1 12 = .ok (.ifCond .lt 8, 3) := by decide +kernel
theorem d_X10_kind_15 : decode m_X10_kind.2.1 15 = .ok (.iload_n 2, 1) := by decide +kernel
theorem d_X10_kind_16 : decode m_X10_kind.2.1 16 = .ok (.iconst 3, 1) := by decide +kernel
theorem d_X10_kind_17 : decode m_X10_kind.2.1 17 = .ok (.if_icmp .le 11, 3) := by decide +kernel
theorem d_X10_kind_20 : decode m_X10_kind.2.1 20 = .ok (.new 135, 3) := by decide +kernel
theorem d_X10_kind_23 : decode m_X10_kind.2.1 23 = .ok (.dup, 1) := by decide +kernel
theorem d_X10_kind_24 : decode m_X10_kind.2.1 24 = .ok (.invokespecial 137, 3) := by decide +kernel
theorem d_X10_kind_27 : decode m_X10_kind.2.1 27 = .ok (.athrow, 1) := by decide +kernel
theorem d_X10_kind_28 : decode m_X10_kind.2.1 28 = .ok (.aload_n 0, 1) := by decide +kernel
theorem d_X10_kind_29 : decode m_X10_kind.2.1 29 = .ok (.getfield 19, 3) := by decide +kernel
theorem d_X10_kind_32 : decode m_X10_kind.2.1 32 = .ok (.iload_n 1, 1) := by decide +kernel
theorem d_X10_kind_33 : decode m_X10_kind.2.1 33 = .ok (.iload_n 2, 1) := by decide +kernel
theorem d_X10_kind_34 : decode m_X10_kind.2.1 34 = .ok (.invokevirtual 138, 3) := by decide +kernel
theorem d_X10_kind_37 : decode m_X10_kind.2.1 37 = .ok (.ireturn, 1) := by decide +kernel
theorem d_X10_word_0 : decode m_X10_word.2.1 0 = .ok (.aload_n 0, 1) := by decide +kernel
theorem d_X10_word_1 : decode m_X10_word.2.1 1 = .ok (.getfield 31, 3) := by decide +kernel
theorem d_X10_word_4 : decode m_X10_word.2.1 4 = .ok (.iload_n 1, 1) := by decide +kernel
theorem d_X10_word_5 : decode m_X10_word.2.1 5 = .ok (.invokevirtual 168, 3) := by decide +kernel
theorem d_X10_word_8 : decode m_X10_word.2.1 8 = .ok (.ifCond .eq 13, 3) := by decide +kernel
theorem d_X10_word_11 : decode m_X10_word.2.1 11 = .ok (.iload_n 2, 1) := by decide +kernel
theorem d_X10_word_12 : decode m_X10_word.2.1 12 = .ok (.ifCond .lt 9, 3) := by decide +kernel
theorem d_X10_word_15 : decode m_X10_word.2.1 15 = .ok (.iload_n 2, 1) := by decide +kernel
theorem d_X10_word_16 : decode m_X10_word.2.1 16 = .ok (.bipush 7, 2) := by decide +kernel
theorem d_X10_word_18 : decode m_X10_word.2.1 18 = .ok (.if_icmp .le 11, 3) := by decide +kernel
theorem d_X10_word_21 : decode m_X10_word.2.1 21 = .ok (.new 135, 3) := by decide +kernel
theorem d_X10_word_24 : decode m_X10_word.2.1 24 = .ok (.dup, 1) := by decide +kernel
theorem d_X10_word_25 : decode m_X10_word.2.1 25 = .ok (.invokespecial 137, 3) := by decide +kernel
theorem d_X10_word_28 : decode m_X10_word.2.1 28 = .ok (.athrow, 1) := by decide +kernel
theorem d_X10_word_29 : decode m_X10_word.2.1 29 = .ok (.aload_n 0, 1) := by decide +kernel
theorem d_X10_word_30 : decode m_X10_word.2.1 30 = .ok (.getfield 31, 3) := by decide +kernel
theorem d_X10_word_33 : decode m_X10_word.2.1 33 = .ok (.iload_n 1, 1) := by decide +kernel
theorem d_X10_word_34 : decode m_X10_word.2.1 34 = .ok (.iload_n 2, 1) := by decide +kernel
theorem d_X10_word_35 : decode m_X10_word.2.1 35 = .ok (.invokevirtual 171, 3) := by decide +kernel
theorem d_X10_word_38 : decode m_X10_word.2.1 38 = .ok (.ireturn, 1) := by decide +kernel
theorem d_L_kind_0 : decode m_L_kind.2.1 0 = .ok (.aload_n 0, 1) := by decide +kernel
theorem d_L_kind_1 : decode m_L_kind.2.1 1 = .ok (.iload_n 1, 1) := by decide +kernel
theorem d_L_kind_2 : decode m_L_kind.2.1 2 = .ok (.iload_n 2, 1) := by decide +kernel
theorem d_L_kind_3 : decode m_L_kind.2.1 3 = .ok (.invokevirtual 159, 3) := by decide +kernel
theorem d_L_kind_6 : decode m_L_kind.2.1 6 = .ok (.ireturn, 1) := by decide +kernel
theorem d_L_kind_7 : decode m_L_kind.2.1 7 = .ok (.astore_n 3, 1) := by decide +kernel
theorem d_L_kind_8 : decode m_L_kind.2.1 8 = .ok (.bipush (-7), 2) := by decide +kernel
theorem d_L_kind_10 : decode m_L_kind.2.1 10 = .ok (.ireturn, 1) := by decide +kernel
theorem d_L_word_0 : decode m_L_word.2.1 0 = .ok (.aload_n 0, 1) := by decide +kernel
theorem d_L_word_1 : decode m_L_word.2.1 1 = .ok (.iload_n 1, 1) := by decide +kernel
theorem d_L_word_2 : decode m_L_word.2.1 2 = .ok (.iload_n 2, 1) := by decide +kernel
theorem d_L_word_3 : decode m_L_word.2.1 3 = .ok (.invokevirtual 163, 3) := by decide +kernel
theorem d_L_word_6 : decode m_L_word.2.1 6 = .ok (.ireturn, 1) := by decide +kernel
theorem d_L_word_7 : decode m_L_word.2.1 7 = .ok (.astore_n 3, 1) := by decide +kernel
theorem d_L_word_8 : decode m_L_word.2.1 8 = .ok (.bipush (-7), 2) := by decide +kernel
theorem d_L_word_10 : decode m_L_word.2.1 10 = .ok (.ireturn, 1) := by decide +kernel
theorem cw_L_kind : Cond.codeWith m_L_kind.1 m_L_kind.2.1 m_L_kind.2.2.1 m_L_kind.2.2.2 [(0, 6, 7, 161)] ∈ jm_tbl := jm_tb (List.mem_append_right _ (List.mem_append_right _ (List.mem_append_right _ (List.mem_append_right _ (List.mem_append_left _ (List.mem_of_getElem? (i := 173) rfl)))))) rfl
theorem st_L_kind : Cond.static m_L_kind.1 ∈ jm_tbl := jm_tb (List.mem_append_right _ (List.mem_append_right _ (List.mem_append_right _ (List.mem_append_right _ (List.mem_append_left _ (List.mem_of_getElem? (i := 172) rfl)))))) rfl
theorem cw_L_word : Cond.codeWith m_L_word.1 m_L_word.2.1 m_L_word.2.2.1 m_L_word.2.2.2 [(0, 6, 7, 161)] ∈ jm_tbl := jm_tb (List.mem_append_right _ (List.mem_append_right _ (List.mem_append_right _ (List.mem_append_right _ (List.mem_append_right _ (List.mem_of_getElem? (i := 9) rfl)))))) rfl
theorem st_L_word : Cond.static m_L_word.1 ∈ jm_tbl := jm_tb (List.mem_append_right _ (List.mem_append_right _ (List.mem_append_right _ (List.mem_append_right _ (List.mem_append_right _ (List.mem_of_getElem? (i := 8) rfl)))))) rfl
theorem in_L : Cond.initialized RL ∈ jm_tbl := jm_tb (List.mem_append_right _ (List.mem_append_left _ (List.mem_of_getElem? (i := 0) rfl))) rfl
