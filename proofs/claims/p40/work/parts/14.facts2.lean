theorem w_X10_threads : jm_wV m_X10_threads 0 := ⟨⟨jm_tb (List.mem_of_getElem? (i := 526) (by decide +kernel)) rfl, jm_tb (List.mem_of_getElem? (i := 21) (by decide +kernel)) rfl, ⟨by decide +kernel, by decide +kernel, by decide +kernel⟩, (Nat.le_of_ble_eq_true rfl)⟩, jm_tb (List.mem_of_getElem? (i := 524) (by decide +kernel)) rfl, jm_tb (List.mem_of_getElem? (i := 525) (by decide +kernel)) rfl⟩
def m_X10_wholes : jm_Y := (yX10_wholes, cX10_wholes, 2, some .int)
theorem w_X10_wholes : jm_wV m_X10_wholes 1 := ⟨⟨jm_tb (List.mem_of_getElem? (i := 530) (by decide +kernel)) rfl, jm_tb (List.mem_of_getElem? (i := 21) (by decide +kernel)) rfl, ⟨by decide +kernel, by decide +kernel, by decide +kernel⟩, (Nat.le_of_ble_eq_true rfl)⟩, jm_tb (List.mem_of_getElem? (i := 528) (by decide +kernel)) rfl, jm_tb (List.mem_of_getElem? (i := 529) (by decide +kernel)) rfl⟩
def m_X10_mended : jm_Y := (yX10_mended, cX10_mended, 1, some .int)
theorem w_X10_mended : jm_wV m_X10_mended 0 := ⟨⟨jm_tb (List.mem_of_getElem? (i := 583) (by decide +kernel)) rfl, jm_tb (List.mem_of_getElem? (i := 21) (by decide +kernel)) rfl, ⟨by decide +kernel, by decide +kernel, by decide +kernel⟩, (Nat.le_of_ble_eq_true rfl)⟩, jm_tb (List.mem_of_getElem? (i := 581) (by decide +kernel)) rfl, jm_tb (List.mem_of_getElem? (i := 582) (by decide +kernel)) rfl⟩
def m_X10_orders : jm_Y := (yX10_orders, cX10_orders, 1, some .int)
theorem w_X10_orders : jm_wV m_X10_orders 0 := ⟨⟨jm_tb (List.mem_of_getElem? (i := 587) (by decide +kernel)) rfl, jm_tb (List.mem_of_getElem? (i := 21) (by decide +kernel)) rfl, ⟨by decide +kernel, by decide +kernel, by decide +kernel⟩, (Nat.le_of_ble_eq_true rfl)⟩, jm_tb (List.mem_of_getElem? (i := 585) (by decide +kernel)) rfl, jm_tb (List.mem_of_getElem? (i := 586) (by decide +kernel)) rfl⟩
def m_X10_drawn : jm_Y := (yX10_drawn, cX10_drawn, 6, some .int)
theorem w_X10_drawn : jm_wV m_X10_drawn 2 := ⟨⟨jm_tb (List.mem_of_getElem? (i := 607) (by decide +kernel)) rfl, jm_tb (List.mem_of_getElem? (i := 21) (by decide +kernel)) rfl, ⟨by decide +kernel, by decide +kernel, by decide +kernel⟩, (Nat.le_of_ble_eq_true rfl)⟩, jm_tb (List.mem_of_getElem? (i := 605) (by decide +kernel)) rfl, jm_tb (List.mem_of_getElem? (i := 606) (by decide +kernel)) rfl⟩
def m_X10_spoke : jm_Y := (yX10_spoke, cX10_spoke, 6, some .int)
theorem w_X10_spoke : jm_wV m_X10_spoke 2 := ⟨⟨jm_tb (List.mem_of_getElem? (i := 628) (by decide +kernel)) rfl, jm_tb (List.mem_of_getElem? (i := 21) (by decide +kernel)) rfl, ⟨by decide +kernel, by decide +kernel, by decide +kernel⟩, (Nat.le_of_ble_eq_true rfl)⟩, jm_tb (List.mem_of_getElem? (i := 626) (by decide +kernel)) rfl, jm_tb (List.mem_of_getElem? (i := 627) (by decide +kernel)) rfl⟩
def m_X10_said : jm_Y := (yX10_said, cX10_said, 4, some .int)
theorem w_X10_said : jm_wV m_X10_said 1 := ⟨⟨jm_tb (List.mem_of_getElem? (i := 638) (by decide +kernel)) rfl, jm_tb (List.mem_of_getElem? (i := 21) (by decide +kernel)) rfl, ⟨by decide +kernel, by decide +kernel, by decide +kernel⟩, (Nat.le_of_ble_eq_true rfl)⟩, jm_tb (List.mem_of_getElem? (i := 636) (by decide +kernel)) rfl, jm_tb (List.mem_of_getElem? (i := 637) (by decide +kernel)) rfl⟩
def m_X10_count : jm_Y := (yX10_count, cX10_count, 2, some .int)
theorem w_X10_count : jm_wV m_X10_count 1 := ⟨⟨jm_tb (List.mem_of_getElem? (i := 655) (by decide +kernel)) rfl, jm_tb (List.mem_of_getElem? (i := 21) (by decide +kernel)) rfl, ⟨by decide +kernel, by decide +kernel, by decide +kernel⟩, (Nat.le_of_ble_eq_true rfl)⟩, jm_tb (List.mem_of_getElem? (i := 653) (by decide +kernel)) rfl, jm_tb (List.mem_of_getElem? (i := 654) (by decide +kernel)) rfl⟩
def m_X10_afterReading : jm_Y := (yX10_afterReading, cX10_afterReading, 3, some .int)
theorem w_X10_afterReading : jm_wV m_X10_afterReading 2 := ⟨⟨jm_tb (List.mem_of_getElem? (i := 897) (by decide +kernel)) rfl, jm_tb (List.mem_of_getElem? (i := 21) (by decide +kernel)) rfl, ⟨by decide +kernel, by decide +kernel, by decide +kernel⟩, (Nat.le_of_ble_eq_true rfl)⟩, jm_tb (List.mem_of_getElem? (i := 896) (by decide +kernel)) rfl, jm_tb (List.mem_of_getElem? (i := 18) (by decide +kernel)) rfl⟩
def m_J6_bitCount_0f7a4 : jm_Y := (yJ6_bitCount_0f7a4, cJ6_bitCount_0f7a4, 1, some .int)
theorem w_J6_bitCount_0f7a4 : jm_wS m_J6_bitCount_0f7a4 1 := ⟨⟨jm_tb (List.mem_of_getElem? (i := 615) (by decide +kernel)) rfl, jm_tb (List.mem_of_getElem? (i := 35) (by decide +kernel)) rfl, ⟨by decide +kernel, by decide +kernel, by decide +kernel⟩, (Nat.le_of_ble_eq_true rfl)⟩, jm_tb (List.mem_of_getElem? (i := 614) (by decide +kernel)) rfl⟩
def m_J9_max_7cf53 : jm_Y := (yJ9_max_7cf53, cJ9_max_7cf53, 2, some .int)
theorem w_J9_max_7cf53 : jm_wS m_J9_max_7cf53 2 := ⟨⟨jm_tb (List.mem_of_getElem? (i := 183) (by decide +kernel)) rfl, jm_tb (List.mem_of_getElem? (i := 27) (by decide +kernel)) rfl, ⟨by decide +kernel, by decide +kernel, by decide +kernel⟩, (Nat.le_of_ble_eq_true rfl)⟩, jm_tb (List.mem_of_getElem? (i := 182) (by decide +kernel)) rfl⟩
def m_J9_min_7cf53 : jm_Y := (yJ9_min_7cf53, cJ9_min_7cf53, 2, some .int)
theorem w_J9_min_7cf53 : jm_wS m_J9_min_7cf53 2 := ⟨⟨jm_tb (List.mem_of_getElem? (i := 776) (by decide +kernel)) rfl, jm_tb (List.mem_of_getElem? (i := 27) (by decide +kernel)) rfl, ⟨by decide +kernel, by decide +kernel, by decide +kernel⟩, (Nat.le_of_ble_eq_true rfl)⟩, jm_tb (List.mem_of_getElem? (i := 775) (by decide +kernel)) rfl⟩
def m_J0_length_8abf5 : jm_Y := (yJ0_length_8abf5, cJ0_length_8abf5, 1, some .int)
theorem w_J0_length_8abf5 : jm_wV m_J0_length_8abf5 0 := ⟨⟨jm_tb (List.mem_of_getElem? (i := 666) (by decide +kernel)) rfl, jm_tb (List.mem_of_getElem? (i := 36) (by decide +kernel)) rfl, ⟨by decide +kernel, by decide +kernel, by decide +kernel⟩, (Nat.le_of_ble_eq_true rfl)⟩, jm_tb (List.mem_of_getElem? (i := 664) (by decide +kernel)) rfl, jm_tb (List.mem_of_getElem? (i := 665) (by decide +kernel)) rfl⟩
def m_J0_charAt_5068e : jm_Y := (yJ0_charAt_5068e, cJ0_charAt_5068e, 2, some .char)
theorem w_J0_charAt_5068e : jm_wV m_J0_charAt_5068e 1 := ⟨⟨jm_tb (List.mem_of_getElem? (i := 676) (by decide +kernel)) rfl, jm_tb (List.mem_of_getElem? (i := 36) (by decide +kernel)) rfl, ⟨by decide +kernel, by decide +kernel, by decide +kernel⟩, (Nat.le_of_ble_eq_true rfl)⟩, jm_tb (List.mem_of_getElem? (i := 674) (by decide +kernel)) rfl, jm_tb (List.mem_of_getElem? (i := 675) (by decide +kernel)) rfl⟩
def m_J0_coder_7d493 : jm_Y := (yJ0_coder_7d493, cJ0_coder_7d493, 1, some .byte)
theorem w_J0_coder_7d493 : jm_wV m_J0_coder_7d493 0 := ⟨⟨jm_tb (List.mem_of_getElem? (i := 670) (by decide +kernel)) rfl, jm_tb (List.mem_of_getElem? (i := 36) (by decide +kernel)) rfl, ⟨by decide +kernel, by decide +kernel, by decide +kernel⟩, (Nat.le_of_ble_eq_true rfl)⟩, jm_tb (List.mem_of_getElem? (i := 668) (by decide +kernel)) rfl, jm_tb (List.mem_of_getElem? (i := 669) (by decide +kernel)) rfl⟩
def m_J0_isLatin1_aae02 : jm_Y := (yJ0_isLatin1_aae02, cJ0_isLatin1_aae02, 1, some .boolean)
theorem w_J0_isLatin1_aae02 : jm_wV m_J0_isLatin1_aae02 0 := ⟨⟨jm_tb (List.mem_of_getElem? (i := 680) (by decide +kernel)) rfl, jm_tb (List.mem_of_getElem? (i := 36) (by decide +kernel)) rfl, ⟨by decide +kernel, by decide +kernel, by decide +kernel⟩, (Nat.le_of_ble_eq_true rfl)⟩, jm_tb (List.mem_of_getElem? (i := 678) (by decide +kernel)) rfl, jm_tb (List.mem_of_getElem? (i := 679) (by decide +kernel)) rfl⟩
def m_J0_checkIndex_df160 : jm_Y := (yJ0_checkIndex_df160, cJ0_checkIndex_df160, 2, none)
theorem w_J0_checkIndex_df160 : jm_wS m_J0_checkIndex_df160 2 := ⟨⟨jm_tb (List.mem_of_getElem? (i := 686) (by decide +kernel)) rfl, jm_tb (List.mem_of_getElem? (i := 36) (by decide +kernel)) rfl, ⟨by decide +kernel, by decide +kernel, by decide +kernel⟩, (Nat.le_of_ble_eq_true rfl)⟩, jm_tb (List.mem_of_getElem? (i := 685) (by decide +kernel)) rfl⟩
def m_J1_charAt_3b067 : jm_Y := (yJ1_charAt_3b067, cJ1_charAt_3b067, 2, some .char)
theorem w_J1_charAt_3b067 : jm_wS m_J1_charAt_3b067 2 := ⟨⟨jm_tb (List.mem_of_getElem? (i := 683) (by decide +kernel)) rfl, jm_tb (List.mem_of_getElem? (i := 37) (by decide +kernel)) rfl, ⟨by decide +kernel, by decide +kernel, by decide +kernel⟩, (Nat.le_of_ble_eq_true rfl)⟩, jm_tb (List.mem_of_getElem? (i := 682) (by decide +kernel)) rfl⟩
def m_J2_getChar_3b067 : jm_Y := (yJ2_getChar_3b067, cJ2_getChar_3b067, 2, some .char)
theorem w_J2_getChar_3b067 : jm_wS m_J2_getChar_3b067 2 := ⟨⟨jm_tb (List.mem_of_getElem? (i := 704) (by decide +kernel)) rfl, jm_tb (List.mem_of_getElem? (i := 39) (by decide +kernel)) rfl, ⟨by decide +kernel, by decide +kernel, by decide +kernel⟩, (Nat.le_of_ble_eq_true rfl)⟩, jm_tb (List.mem_of_getElem? (i := 703) (by decide +kernel)) rfl⟩
def m_J2_length_9d52b : jm_Y := (yJ2_length_9d52b, cJ2_length_9d52b, 1, some .int)
theorem w_J2_length_9d52b : jm_wS m_J2_length_9d52b 1 := ⟨⟨jm_tb (List.mem_of_getElem? (i := 700) (by decide +kernel)) rfl, jm_tb (List.mem_of_getElem? (i := 39) (by decide +kernel)) rfl, ⟨by decide +kernel, by decide +kernel, by decide +kernel⟩, (Nat.le_of_ble_eq_true rfl)⟩, jm_tb (List.mem_of_getElem? (i := 699) (by decide +kernel)) rfl⟩
def m_J2_charAt_3b067 : jm_Y := (yJ2_charAt_3b067, cJ2_charAt_3b067, 2, some .char)
theorem w_J2_charAt_3b067 : jm_wS m_J2_charAt_3b067 2 := ⟨⟨jm_tb (List.mem_of_getElem? (i := 694) (by decide +kernel)) rfl, jm_tb (List.mem_of_getElem? (i := 39) (by decide +kernel)) rfl, ⟨by decide +kernel, by decide +kernel, by decide +kernel⟩, (Nat.le_of_ble_eq_true rfl)⟩, jm_tb (List.mem_of_getElem? (i := 693) (by decide +kernel)) rfl⟩
def m_J2_checkIndex_2214a : jm_Y := (yJ2_checkIndex_2214a, cJ2_checkIndex_2214a, 2, none)
theorem w_J2_checkIndex_2214a : jm_wS m_J2_checkIndex_2214a 2 := ⟨⟨jm_tb (List.mem_of_getElem? (i := 697) (by decide +kernel)) rfl, jm_tb (List.mem_of_getElem? (i := 39) (by decide +kernel)) rfl, ⟨by decide +kernel, by decide +kernel, by decide +kernel⟩, (Nat.le_of_ble_eq_true rfl)⟩, jm_tb (List.mem_of_getElem? (i := 696) (by decide +kernel)) rfl⟩
def m_J3_checkIndex_8e157 : jm_Y := (yJ3_checkIndex_8e157, cJ3_checkIndex_8e157, 3, some .int)
theorem w_J3_checkIndex_8e157 : jm_wS m_J3_checkIndex_8e157 3 := ⟨⟨jm_tb (List.mem_of_getElem? (i := 691) (by decide +kernel)) rfl, jm_tb (List.mem_of_getElem? (i := 38) (by decide +kernel)) rfl, ⟨by decide +kernel, by decide +kernel, by decide +kernel⟩, (Nat.le_of_ble_eq_true rfl)⟩, jm_tb (List.mem_of_getElem? (i := 690) (by decide +kernel)) rfl⟩
def m_L_put : jm_Y := (yL_put, cL_put, 4, some .int)
theorem w_L_put : jm_wS m_L_put 3 := ⟨⟨jm_tb (List.mem_append_right _ (List.mem_append_right _ (List.mem_append_right _ (List.mem_append_left _ (List.mem_of_getElem? (i := 213) rfl))))) rfl, jm_tb (List.mem_of_getElem? (i := 20) (by decide +kernel)) rfl, ⟨by decide +kernel, by decide +kernel, by decide +kernel⟩, (Nat.le_of_ble_eq_true rfl)⟩, jm_tb (List.mem_of_getElem? (i := 712) (by decide +kernel)) rfl⟩
def m_L_add : jm_Y := (yL_add, cL_add, 5, some .int)
theorem w_L_add : jm_wS m_L_add 3 := ⟨⟨jm_tb (List.mem_append_right _ (List.mem_append_right _ (List.mem_append_right _ (List.mem_append_left _ (List.mem_of_getElem? (i := 162) rfl))))) rfl, jm_tb (List.mem_of_getElem? (i := 20) (by decide +kernel)) rfl, ⟨by decide +kernel, by decide +kernel, by decide +kernel⟩, (Nat.le_of_ble_eq_true rfl)⟩, jm_tb (List.mem_of_getElem? (i := 661) (by decide +kernel)) rfl⟩
def m_L_number : jm_Y := (yL_number, cL_number, 3, some .int)
theorem w_L_number : jm_wS m_L_number 3 := ⟨⟨jm_tb (List.mem_append_right _ (List.mem_append_right _ (List.mem_append_right _ (List.mem_append_left _ (List.mem_of_getElem? (i := 216) rfl))))) rfl, jm_tb (List.mem_of_getElem? (i := 20) (by decide +kernel)) rfl, ⟨by decide +kernel, by decide +kernel, by decide +kernel⟩, (Nat.le_of_ble_eq_true rfl)⟩, jm_tb (List.mem_of_getElem? (i := 715) (by decide +kernel)) rfl⟩
def m_L_more : jm_Y := (yL_more, cL_more, 5, some .int)
theorem w_L_more : jm_wS m_L_more 4 := ⟨⟨jm_tb (List.mem_append_right _ (List.mem_append_right _ (List.mem_append_right _ (List.mem_append_right _ (List.mem_append_left _ (List.mem_of_getElem? (i := 1) rfl)))))) rfl, jm_tb (List.mem_of_getElem? (i := 20) (by decide +kernel)) rfl, ⟨by decide +kernel, by decide +kernel, by decide +kernel⟩, (Nat.le_of_ble_eq_true rfl)⟩, jm_tb (List.mem_of_getElem? (i := 740) (by decide +kernel)) rfl⟩
def m_L_lies : jm_Y := (yL_lies, cL_lies, 3, some .boolean)
theorem w_L_lies : jm_wS m_L_lies 3 := ⟨⟨jm_tb (List.mem_append_right _ (List.mem_append_right _ (List.mem_append_right _ (List.mem_append_left _ (List.mem_of_getElem? (i := 234) rfl))))) rfl, jm_tb (List.mem_of_getElem? (i := 20) (by decide +kernel)) rfl, ⟨by decide +kernel, by decide +kernel, by decide +kernel⟩, (Nat.le_of_ble_eq_true rfl)⟩, jm_tb (List.mem_of_getElem? (i := 733) (by decide +kernel)) rfl⟩
def m_L_nameOf : jm_Y := (yL_nameOf, cL_nameOf, 1, some .int)
theorem w_L_nameOf : jm_wS m_L_nameOf 1 := ⟨⟨jm_tb (List.mem_append_right _ (List.mem_append_right _ (List.mem_append_right _ (List.mem_append_right _ (List.mem_append_left _ (List.mem_of_getElem? (i := 13) rfl)))))) rfl, jm_tb (List.mem_of_getElem? (i := 20) (by decide +kernel)) rfl, ⟨by decide +kernel, by decide +kernel, by decide +kernel⟩, (Nat.le_of_ble_eq_true rfl)⟩, jm_tb (List.mem_of_getElem? (i := 752) (by decide +kernel)) rfl⟩
def m_L_kindOf : jm_Y := (yL_kindOf, cL_kindOf, 1, some (.object "java/lang/String"))
theorem w_L_kindOf : jm_wS m_L_kindOf 1 := ⟨⟨jm_tb (List.mem_append_right _ (List.mem_append_right _ (List.mem_append_right _ (List.mem_append_left _ (List.mem_of_getElem? (i := 219) rfl))))) rfl, jm_tb (List.mem_of_getElem? (i := 20) (by decide +kernel)) rfl, ⟨by decide +kernel, by decide +kernel, by decide +kernel⟩, (Nat.le_of_ble_eq_true rfl)⟩, jm_tb (List.mem_of_getElem? (i := 718) (by decide +kernel)) rfl⟩
def m_L_told : jm_Y := (yL_told, cL_told, 12, some .boolean)
theorem w_L_told : jm_wS m_L_told 5 := ⟨⟨jm_tb (List.mem_append_right _ (List.mem_append_right _ (List.mem_append_right _ (List.mem_append_left _ (List.mem_of_getElem? (i := 158) rfl))))) rfl, jm_tb (List.mem_of_getElem? (i := 20) (by decide +kernel)) rfl, ⟨by decide +kernel, by decide +kernel, by decide +kernel⟩, (Nat.le_of_ble_eq_true rfl)⟩, jm_tb (List.mem_of_getElem? (i := 657) (by decide +kernel)) rfl⟩
def m_L_live : jm_Y := (yL_live, cL_live, 12, some .int)
theorem w_L_live : jm_wS m_L_live 4 := ⟨⟨jm_tb (List.mem_append_right _ (List.mem_append_right _ (List.mem_append_right _ (List.mem_append_right _ (List.mem_append_left _ (List.mem_of_getElem? (i := 164) rfl)))))) rfl, jm_tb (List.mem_of_getElem? (i := 20) (by decide +kernel)) rfl, ⟨by decide +kernel, by decide +kernel, by decide +kernel⟩, (Nat.le_of_ble_eq_true rfl)⟩, jm_tb (List.mem_of_getElem? (i := 903) (by decide +kernel)) rfl⟩
def m_L_state : jm_Y := (yL_state, cL_state, 4, some .int)
theorem w_L_state : jm_wS m_L_state 4 := ⟨⟨jm_tb (List.mem_append_right _ (List.mem_append_right _ (List.mem_append_right _ (List.mem_append_right _ (List.mem_append_left _ (List.mem_of_getElem? (i := 167) rfl)))))) rfl, jm_tb (List.mem_of_getElem? (i := 20) (by decide +kernel)) rfl, ⟨by decide +kernel, by decide +kernel, by decide +kernel⟩, (Nat.le_of_ble_eq_true rfl)⟩, jm_tb (List.mem_of_getElem? (i := 906) (by decide +kernel)) rfl⟩
def m_L_speak : jm_Y := (yL_speak, cL_speak, 10, some .int)
theorem w_L_speak : jm_wS m_L_speak 6 := ⟨⟨jm_tb (List.mem_append_right _ (List.mem_append_right _ (List.mem_append_right _ (List.mem_append_right _ (List.mem_append_left _ (List.mem_of_getElem? (i := 170) rfl)))))) rfl, jm_tb (List.mem_of_getElem? (i := 20) (by decide +kernel)) rfl, ⟨by decide +kernel, by decide +kernel, by decide +kernel⟩, (Nat.le_of_ble_eq_true rfl)⟩, jm_tb (List.mem_of_getElem? (i := 909) (by decide +kernel)) rfl⟩
def m_L_kind : jm_Y := (yL_kind, cL_kind, 4, some .int)
def m_L_word : jm_Y := (yL_word, cL_word, 4, some .int)
theorem l_L_104 : Cond.methodLink RL 104 yX10_init ∈ jm_tbl := jm_tb (List.mem_of_getElem? (i := 46) (by decide +kernel)) rfl
theorem l_X10_1 : Cond.methodLink RX10 1 Lib.objectInit ∈ jm_tbl := jm_tb (List.mem_of_getElem? (i := 49) (by decide +kernel)) rfl
theorem l_X7_3 : Cond.methodLink RX7 3 Lib.objectInit ∈ jm_tbl := jm_tb (List.mem_of_getElem? (i := 57) (by decide +kernel)) rfl
theorem l_X10_18 : Cond.methodLink RX10 18 yX5_init ∈ jm_tbl := jm_tb (List.mem_of_getElem? (i := 105) (by decide +kernel)) rfl
theorem l_X5_3 : Cond.methodLink RX5 3 Lib.objectInit ∈ jm_tbl := jm_tb (List.mem_of_getElem? (i := 108) (by decide +kernel)) rfl
theorem l_X10_28 : Cond.methodLink RX10 28 yX6_init ∈ jm_tbl := jm_tb (List.mem_of_getElem? (i := 177) (by decide +kernel)) rfl
theorem l_X6_3 : Cond.methodLink RX6 3 Lib.objectInit ∈ jm_tbl := jm_tb (List.mem_of_getElem? (i := 180) (by decide +kernel)) rfl
theorem l_X6_9 : Cond.methodLink RX6 9 yJ9_max_7cf53 ∈ jm_tbl := jm_tb (List.mem_of_getElem? (i := 181) (by decide +kernel)) rfl
theorem l_X6_17 : Cond.methodLink RX6 17 yX5_init ∈ jm_tbl := jm_tb (List.mem_of_getElem? (i := 185) (by decide +kernel)) rfl
theorem l_X1_3 : Cond.methodLink RX1 3 Lib.objectInit ∈ jm_tbl := jm_tb (List.mem_of_getElem? (i := 226) (by decide +kernel)) rfl
theorem l_X4_3 : Cond.methodLink RX4 3 Lib.objectInit ∈ jm_tbl := jm_tb (List.mem_of_getElem? (i := 249) (by decide +kernel)) rfl
theorem l_X0_1 : Cond.methodLink RX0 1 Lib.objectInit ∈ jm_tbl := jm_tb (List.mem_of_getElem? (i := 272) (by decide +kernel)) rfl
theorem l_X0_9 : Cond.methodLink RX0 9 yX5_init ∈ jm_tbl := jm_tb (List.mem_of_getElem? (i := 274) (by decide +kernel)) rfl
theorem l_X3_3 : Cond.methodLink RX3 3 Lib.objectInit ∈ jm_tbl := jm_tb (List.mem_of_getElem? (i := 304) (by decide +kernel)) rfl
theorem l_X9_3 : Cond.methodLink RX9 3 Lib.objectInit ∈ jm_tbl := jm_tb (List.mem_of_getElem? (i := 327) (by decide +kernel)) rfl
theorem l_X2_3 : Cond.methodLink RX2 3 Lib.objectInit ∈ jm_tbl := jm_tb (List.mem_of_getElem? (i := 364) (by decide +kernel)) rfl
theorem l_L_140 : Cond.methodLink RL 140 yX10_rank ∈ jm_tbl := jm_tb (List.mem_of_getElem? (i := 432) (by decide +kernel)) rfl
theorem l_X10_124 : Cond.methodLink RX10 124 yX5_hasWho ∈ jm_tbl := jm_tb (List.mem_of_getElem? (i := 436) (by decide +kernel)) rfl
theorem l_L_101 : Cond.methodLink RL 101 yX10_say ∈ jm_tbl := jm_tb (List.mem_of_getElem? (i := 440) (by decide +kernel)) rfl
theorem l_X10_142 : Cond.methodLink RX10 142 yX6_flaw ∈ jm_tbl := jm_tb (List.mem_of_getElem? (i := 444) (by decide +kernel)) rfl
theorem l_X6_73 : Cond.methodLink RX6 73 yX5_hasWho ∈ jm_tbl := jm_tb (List.mem_of_getElem? (i := 448) (by decide +kernel)) rfl
theorem l_X6_76 : Cond.methodLink RX6 76 yX5_hasKind ∈ jm_tbl := jm_tb (List.mem_of_getElem? (i := 449) (by decide +kernel)) rfl
theorem l_X6_79 : Cond.methodLink RX6 79 yX6_repeats ∈ jm_tbl := jm_tb (List.mem_of_getElem? (i := 453) (by decide +kernel)) rfl
theorem l_X6_82 : Cond.methodLink RX6 82 yX6_heardBy ∈ jm_tbl := jm_tb (List.mem_of_getElem? (i := 457) (by decide +kernel)) rfl
theorem l_X6_58 : Cond.methodLink RX6 58 yX5_reach ∈ jm_tbl := jm_tb (List.mem_of_getElem? (i := 461) (by decide +kernel)) rfl
theorem l_X6_61 : Cond.methodLink RX6 61 yX6_has ∈ jm_tbl := jm_tb (List.mem_of_getElem? (i := 465) (by decide +kernel)) rfl
theorem l_X6_65 : Cond.methodLink RX6 65 yX5_openingOf ∈ jm_tbl := jm_tb (List.mem_of_getElem? (i := 469) (by decide +kernel)) rfl
theorem l_X6_85 : Cond.methodLink RX6 85 yX5_doingOf ∈ jm_tbl := jm_tb (List.mem_of_getElem? (i := 473) (by decide +kernel)) rfl
theorem l_X6_88 : Cond.methodLink RX6 88 yX5_mayAnswer ∈ jm_tbl := jm_tb (List.mem_of_getElem? (i := 477) (by decide +kernel)) rfl
theorem l_X5_69 : Cond.methodLink RX5 69 yX5_hasKind ∈ jm_tbl := jm_tb (List.mem_of_getElem? (i := 481) (by decide +kernel)) rfl
theorem l_X6_92 : Cond.methodLink RX6 92 yX6_dueOf ∈ jm_tbl := jm_tb (List.mem_of_getElem? (i := 482) (by decide +kernel)) rfl
theorem l_X6_118 : Cond.methodLink RX6 118 yX5_spanOf ∈ jm_tbl := jm_tb (List.mem_of_getElem? (i := 486) (by decide +kernel)) rfl
theorem l_X6_95 : Cond.methodLink RX6 95 yX6_promisee ∈ jm_tbl := jm_tb (List.mem_of_getElem? (i := 490) (by decide +kernel)) rfl
theorem l_X10_145 : Cond.methodLink RX10 145 yX6_add ∈ jm_tbl := jm_tb (List.mem_of_getElem? (i := 494) (by decide +kernel)) rfl
theorem l_L_97 : Cond.methodLink RL 97 yX10_wrong ∈ jm_tbl := jm_tb (List.mem_of_getElem? (i := 498) (by decide +kernel)) rfl
theorem l_L_111 : Cond.methodLink RL 111 yX10_may ∈ jm_tbl := jm_tb (List.mem_of_getElem? (i := 502) (by decide +kernel)) rfl
theorem l_X10_149 : Cond.methodLink RX10 149 yX6_choices ∈ jm_tbl := jm_tb (List.mem_of_getElem? (i := 506) (by decide +kernel)) rfl
theorem l_X6_101 : Cond.methodLink RX6 101 yX6_flaw ∈ jm_tbl := jm_tb (List.mem_of_getElem? (i := 510) (by decide +kernel)) rfl
theorem l_L_108 : Cond.methodLink RL 108 yX10_undo ∈ jm_tbl := jm_tb (List.mem_of_getElem? (i := 511) (by decide +kernel)) rfl
theorem l_X10_156 : Cond.methodLink RX10 156 yX6_takeBack ∈ jm_tbl := jm_tb (List.mem_of_getElem? (i := 515) (by decide +kernel)) rfl
theorem l_L_114 : Cond.methodLink RL 114 yX10_why ∈ jm_tbl := jm_tb (List.mem_of_getElem? (i := 519) (by decide +kernel)) rfl
theorem l_L_105 : Cond.methodLink RL 105 yX10_threads ∈ jm_tbl := jm_tb (List.mem_of_getElem? (i := 523) (by decide +kernel)) rfl
theorem l_L_117 : Cond.methodLink RL 117 yX10_wholes ∈ jm_tbl := jm_tb (List.mem_of_getElem? (i := 527) (by decide +kernel)) rfl
theorem l_X10_186 : Cond.methodLink RX10 186 yX1_ways ∈ jm_tbl := jm_tb (List.mem_of_getElem? (i := 531) (by decide +kernel)) rfl
theorem l_X10_107 : Cond.methodLink RX10 107 yX6_begin ∈ jm_tbl := jm_tb (List.mem_of_getElem? (i := 536) (by decide +kernel)) rfl
theorem l_X10_192 : Cond.methodLink RX10 192 yX9_all ∈ jm_tbl := jm_tb (List.mem_of_getElem? (i := 540) (by decide +kernel)) rfl
theorem l_X9_29 : Cond.methodLink RX9 29 yX9_start ∈ jm_tbl := jm_tb (List.mem_of_getElem? (i := 544) (by decide +kernel)) rfl
theorem l_X9_37 : Cond.methodLink RX9 37 yX9_take ∈ jm_tbl := jm_tb (List.mem_of_getElem? (i := 549) (by decide +kernel)) rfl
theorem l_X9_56 : Cond.methodLink RX9 56 yX1_whoAt ∈ jm_tbl := jm_tb (List.mem_of_getElem? (i := 553) (by decide +kernel)) rfl
theorem l_X9_60 : Cond.methodLink RX9 60 yX1_kindAt ∈ jm_tbl := jm_tb (List.mem_of_getElem? (i := 557) (by decide +kernel)) rfl
theorem l_X9_41 : Cond.methodLink RX9 41 yX9_exchange ∈ jm_tbl := jm_tb (List.mem_of_getElem? (i := 561) (by decide +kernel)) rfl
theorem l_X9_45 : Cond.methodLink RX9 45 yX9_fill ∈ jm_tbl := jm_tb (List.mem_of_getElem? (i := 565) (by decide +kernel)) rfl
theorem l_X9_75 : Cond.methodLink RX9 75 yX9_markStates ∈ jm_tbl := jm_tb (List.mem_of_getElem? (i := 569) (by decide +kernel)) rfl
theorem l_X9_105 : Cond.methodLink RX9 105 yX6_stateOf ∈ jm_tbl := jm_tb (List.mem_of_getElem? (i := 573) (by decide +kernel)) rfl
theorem l_X9_93 : Cond.methodLink RX9 93 yX6_flaw ∈ jm_tbl := jm_tb (List.mem_of_getElem? (i := 577) (by decide +kernel)) rfl
theorem l_X9_97 : Cond.methodLink RX9 97 yX6_add ∈ jm_tbl := jm_tb (List.mem_of_getElem? (i := 578) (by decide +kernel)) rfl
theorem l_X9_101 : Cond.methodLink RX9 101 yX6_takeBack ∈ jm_tbl := jm_tb (List.mem_of_getElem? (i := 579) (by decide +kernel)) rfl
theorem l_L_120 : Cond.methodLink RL 120 yX10_mended ∈ jm_tbl := jm_tb (List.mem_of_getElem? (i := 580) (by decide +kernel)) rfl
theorem l_L_123 : Cond.methodLink RL 123 yX10_orders ∈ jm_tbl := jm_tb (List.mem_of_getElem? (i := 584) (by decide +kernel)) rfl
theorem l_X10_220 : Cond.methodLink RX10 220 yX2_arrange ∈ jm_tbl := jm_tb (List.mem_of_getElem? (i := 588) (by decide +kernel)) rfl
theorem l_X2_60 : Cond.methodLink RX2 60 yX2_orderFrom ∈ jm_tbl := jm_tb (List.mem_of_getElem? (i := 592) (by decide +kernel)) rfl
theorem l_X2_64 : Cond.methodLink RX2 64 arraycopyName ∈ jm_tbl := jm_tb (List.mem_of_getElem? (i := 596) (by decide +kernel)) rfl
theorem l_X2_37 : Cond.methodLink RX2 37 yX1_whoAt ∈ jm_tbl := jm_tb (List.mem_of_getElem? (i := 599) (by decide +kernel)) rfl
theorem l_X2_41 : Cond.methodLink RX2 41 yX1_kindAt ∈ jm_tbl := jm_tb (List.mem_of_getElem? (i := 600) (by decide +kernel)) rfl
theorem l_X2_44 : Cond.methodLink RX2 44 yX6_flaw ∈ jm_tbl := jm_tb (List.mem_of_getElem? (i := 601) (by decide +kernel)) rfl
theorem l_X2_50 : Cond.methodLink RX2 50 yX6_add ∈ jm_tbl := jm_tb (List.mem_of_getElem? (i := 602) (by decide +kernel)) rfl
theorem l_X2_54 : Cond.methodLink RX2 54 yX6_takeBack ∈ jm_tbl := jm_tb (List.mem_of_getElem? (i := 603) (by decide +kernel)) rfl
theorem l_L_132 : Cond.methodLink RL 132 yX10_drawn ∈ jm_tbl := jm_tb (List.mem_of_getElem? (i := 604) (by decide +kernel)) rfl
theorem l_X10_226 : Cond.methodLink RX10 226 yX6_nextOnes ∈ jm_tbl := jm_tb (List.mem_of_getElem? (i := 608) (by decide +kernel)) rfl
theorem l_X6_107 : Cond.methodLink RX6 107 yX6_choices ∈ jm_tbl := jm_tb (List.mem_of_getElem? (i := 612) (by decide +kernel)) rfl
theorem l_X6_110 : Cond.methodLink RX6 110 yJ6_bitCount_0f7a4 ∈ jm_tbl := jm_tb (List.mem_of_getElem? (i := 613) (by decide +kernel)) rfl
theorem l_X10_231 : Cond.methodLink RX10 231 yX6_addNext ∈ jm_tbl := jm_tb (List.mem_of_getElem? (i := 620) (by decide +kernel)) rfl
theorem l_X6_54 : Cond.methodLink RX6 54 yX6_add ∈ jm_tbl := jm_tb (List.mem_of_getElem? (i := 624) (by decide +kernel)) rfl
theorem l_L_129 : Cond.methodLink RL 129 yX10_spoke ∈ jm_tbl := jm_tb (List.mem_of_getElem? (i := 625) (by decide +kernel)) rfl
theorem l_X10_132 : Cond.methodLink RX10 132 yX5_hasKind ∈ jm_tbl := jm_tb (List.mem_of_getElem? (i := 629) (by decide +kernel)) rfl
theorem l_X10_171 : Cond.methodLink RX10 171 yX6_tell ∈ jm_tbl := jm_tb (List.mem_of_getElem? (i := 630) (by decide +kernel)) rfl
theorem l_X6_115 : Cond.methodLink RX6 115 yX6_stateOf ∈ jm_tbl := jm_tb (List.mem_of_getElem? (i := 634) (by decide +kernel)) rfl
theorem l_L_126 : Cond.methodLink RL 126 yX10_said ∈ jm_tbl := jm_tb (List.mem_of_getElem? (i := 635) (by decide +kernel)) rfl
theorem l_X10_284 : Cond.methodLink RX10 284 yX4_holds ∈ jm_tbl := jm_tb (List.mem_of_getElem? (i := 639) (by decide +kernel)) rfl
theorem l_X4_34 : Cond.methodLink RX4 34 yX4_isSo ∈ jm_tbl := jm_tb (List.mem_of_getElem? (i := 643) (by decide +kernel)) rfl
theorem l_X4_40 : Cond.methodLink RX4 40 yX6_tell ∈ jm_tbl := jm_tb (List.mem_of_getElem? (i := 647) (by decide +kernel)) rfl
theorem l_X4_44 : Cond.methodLink RX4 44 yX4_compares ∈ jm_tbl := jm_tb (List.mem_of_getElem? (i := 648) (by decide +kernel)) rfl
theorem l_X4_48 : Cond.methodLink RX4 48 yX6_stateOf ∈ jm_tbl := jm_tb (List.mem_of_getElem? (i := 651) (by decide +kernel)) rfl
theorem l_L_90 : Cond.methodLink RL 90 yX10_count ∈ jm_tbl := jm_tb (List.mem_of_getElem? (i := 652) (by decide +kernel)) rfl
theorem l_L_136 : Cond.methodLink RL 136 yL_told ∈ jm_tbl := jm_tb (List.mem_of_getElem? (i := 656) (by decide +kernel)) rfl
theorem l_L_53 : Cond.methodLink RL 53 yL_add ∈ jm_tbl := jm_tb (List.mem_of_getElem? (i := 660) (by decide +kernel)) rfl
theorem l_L_7 : Cond.methodLink RL 7 yJ0_length_8abf5 ∈ jm_tbl := jm_tb (List.mem_of_getElem? (i := 663) (by decide +kernel)) rfl
theorem l_J0_335 : Cond.methodLink RJ0 335 yJ0_coder_7d493 ∈ jm_tbl := jm_tb (List.mem_of_getElem? (i := 667) (by decide +kernel)) rfl
theorem l_L_13 : Cond.methodLink RL 13 yJ0_charAt_5068e ∈ jm_tbl := jm_tb (List.mem_of_getElem? (i := 673) (by decide +kernel)) rfl
theorem l_J0_492 : Cond.methodLink RJ0 492 yJ0_isLatin1_aae02 ∈ jm_tbl := jm_tb (List.mem_of_getElem? (i := 677) (by decide +kernel)) rfl
theorem l_J0_495 : Cond.methodLink RJ0 495 yJ1_charAt_3b067 ∈ jm_tbl := jm_tb (List.mem_of_getElem? (i := 681) (by decide +kernel)) rfl
theorem l_J1_9 : Cond.methodLink RJ1 9 yJ0_checkIndex_df160 ∈ jm_tbl := jm_tb (List.mem_of_getElem? (i := 684) (by decide +kernel)) rfl
theorem l_J0_1059 : Cond.methodLink RJ0 1059 yJ3_checkIndex_8e157 ∈ jm_tbl := jm_tb (List.mem_of_getElem? (i := 689) (by decide +kernel)) rfl
theorem l_J0_498 : Cond.methodLink RJ0 498 yJ2_charAt_3b067 ∈ jm_tbl := jm_tb (List.mem_of_getElem? (i := 692) (by decide +kernel)) rfl
theorem l_J2_67 : Cond.methodLink RJ2 67 yJ2_checkIndex_2214a ∈ jm_tbl := jm_tb (List.mem_of_getElem? (i := 695) (by decide +kernel)) rfl
theorem l_J2_48 : Cond.methodLink RJ2 48 yJ2_length_9d52b ∈ jm_tbl := jm_tb (List.mem_of_getElem? (i := 698) (by decide +kernel)) rfl
theorem l_J2_414 : Cond.methodLink RJ2 414 yJ0_checkIndex_df160 ∈ jm_tbl := jm_tb (List.mem_of_getElem? (i := 701) (by decide +kernel)) rfl
theorem l_J2_71 : Cond.methodLink RJ2 71 yJ2_getChar_3b067 ∈ jm_tbl := jm_tb (List.mem_of_getElem? (i := 702) (by decide +kernel)) rfl
theorem l_L_17 : Cond.methodLink RL 17 yL_put ∈ jm_tbl := jm_tb (List.mem_of_getElem? (i := 711) (by decide +kernel)) rfl
theorem l_L_57 : Cond.methodLink RL 57 yL_number ∈ jm_tbl := jm_tb (List.mem_of_getElem? (i := 714) (by decide +kernel)) rfl
theorem l_L_60 : Cond.methodLink RL 60 yL_kindOf ∈ jm_tbl := jm_tb (List.mem_of_getElem? (i := 717) (by decide +kernel)) rfl
theorem l_L_74 : Cond.methodLink RL 74 yL_lies ∈ jm_tbl := jm_tb (List.mem_of_getElem? (i := 732) (by decide +kernel)) rfl
theorem l_L_29 : Cond.methodLink RL 29 yX10_end ∈ jm_tbl := jm_tb (List.mem_of_getElem? (i := 735) (by decide +kernel)) rfl
theorem l_L_33 : Cond.methodLink RL 33 yL_more ∈ jm_tbl := jm_tb (List.mem_of_getElem? (i := 739) (by decide +kernel)) rfl
theorem l_L_23 : Cond.methodLink RL 23 yX10_feed ∈ jm_tbl := jm_tb (List.mem_of_getElem? (i := 742) (by decide +kernel)) rfl
theorem l_X10_96 : Cond.methodLink RX10 96 yX7_put ∈ jm_tbl := jm_tb (List.mem_of_getElem? (i := 746) (by decide +kernel)) rfl
theorem l_L_80 : Cond.methodLink RL 80 yL_nameOf ∈ jm_tbl := jm_tb (List.mem_of_getElem? (i := 751) (by decide +kernel)) rfl
theorem l_L_84 : Cond.methodLink RL 84 yX10_table ∈ jm_tbl := jm_tb (List.mem_of_getElem? (i := 754) (by decide +kernel)) rfl
theorem l_X10_99 : Cond.methodLink RX10 99 yX5_read ∈ jm_tbl := jm_tb (List.mem_of_getElem? (i := 758) (by decide +kernel)) rfl
theorem l_X5_83 : Cond.methodLink RX5 83 yX5_clear ∈ jm_tbl := jm_tb (List.mem_of_getElem? (i := 762) (by decide +kernel)) rfl
theorem l_X5_86 : Cond.methodLink RX5 86 yX7_open ∈ jm_tbl := jm_tb (List.mem_of_getElem? (i := 766) (by decide +kernel)) rfl
theorem l_X7_40 : Cond.methodLink RX7 40 yX7_advance ∈ jm_tbl := jm_tb (List.mem_of_getElem? (i := 770) (by decide +kernel)) rfl
theorem l_X7_43 : Cond.methodLink RX7 43 yJ9_min_7cf53 ∈ jm_tbl := jm_tb (List.mem_of_getElem? (i := 774) (by decide +kernel)) rfl
theorem l_X7_55 : Cond.methodLink RX7 55 yX7_isLetter ∈ jm_tbl := jm_tb (List.mem_of_getElem? (i := 777) (by decide +kernel)) rfl
theorem l_X7_59 : Cond.methodLink RX7 59 yX7_isDigit ∈ jm_tbl := jm_tb (List.mem_of_getElem? (i := 780) (by decide +kernel)) rfl
theorem l_X7_62 : Cond.methodLink RX7 62 yX7_readRun ∈ jm_tbl := jm_tb (List.mem_of_getElem? (i := 783) (by decide +kernel)) rfl
theorem l_X7_72 : Cond.methodLink RX7 72 yX8_withLetter ∈ jm_tbl := jm_tb (List.mem_of_getElem? (i := 787) (by decide +kernel)) rfl
