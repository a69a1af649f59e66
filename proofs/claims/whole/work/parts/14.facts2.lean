theorem w_X11_readOnce : jm_wV m_X11_readOnce 1 := ⟨⟨jm_tb (List.mem_of_getElem? (i := 1580) (by decide +kernel)) rfl, jm_tb (List.mem_of_getElem? (i := 112) (by decide +kernel)) rfl, ⟨by decide +kernel, by decide +kernel, by decide +kernel⟩, (Nat.le_of_ble_eq_true rfl)⟩, jm_tb (List.mem_of_getElem? (i := 1579) (by decide +kernel)) rfl, jm_tb (List.mem_of_getElem? (i := 52) (by decide +kernel)) rfl⟩
def m_X11_readLine : jm_Y := (yX11_readLine, cX11_readLine, 2, some .boolean)
theorem w_X11_readLine : jm_wV m_X11_readLine 0 := ⟨⟨jm_tb (List.mem_of_getElem? (i := 1517) (by decide +kernel)) rfl, jm_tb (List.mem_of_getElem? (i := 112) (by decide +kernel)) rfl, ⟨by decide +kernel, by decide +kernel, by decide +kernel⟩, (Nat.le_of_ble_eq_true rfl)⟩, jm_tb (List.mem_of_getElem? (i := 1516) (by decide +kernel)) rfl, jm_tb (List.mem_of_getElem? (i := 40) (by decide +kernel)) rfl⟩
def m_X11_table : jm_Y := (yX11_table, cX11_table, 3, some .int)
theorem w_X11_table : jm_wV m_X11_table 0 := ⟨⟨jm_tb (List.mem_of_getElem? (i := 1489) (by decide +kernel)) rfl, jm_tb (List.mem_of_getElem? (i := 112) (by decide +kernel)) rfl, ⟨by decide +kernel, by decide +kernel, by decide +kernel⟩, (Nat.le_of_ble_eq_true rfl)⟩, jm_tb (List.mem_of_getElem? (i := 1487) (by decide +kernel)) rfl, jm_tb (List.mem_of_getElem? (i := 1488) (by decide +kernel)) rfl⟩
def m_X11_fault : jm_Y := (yX11_fault, cX11_fault, 1, some .int)
theorem w_X11_fault : jm_wV m_X11_fault 0 := ⟨⟨jm_tb (List.mem_of_getElem? (i := 1592) (by decide +kernel)) rfl, jm_tb (List.mem_of_getElem? (i := 112) (by decide +kernel)) rfl, ⟨by decide +kernel, by decide +kernel, by decide +kernel⟩, (Nat.le_of_ble_eq_true rfl)⟩, jm_tb (List.mem_of_getElem? (i := 1590) (by decide +kernel)) rfl, jm_tb (List.mem_of_getElem? (i := 1591) (by decide +kernel)) rfl⟩
def m_X11_isWho : jm_Y := (yX11_isWho, cX11_isWho, 2, some .boolean)
theorem w_X11_isWho : jm_wV m_X11_isWho 1 := ⟨⟨jm_tb (List.mem_of_getElem? (i := 1600) (by decide +kernel)) rfl, jm_tb (List.mem_of_getElem? (i := 112) (by decide +kernel)) rfl, ⟨by decide +kernel, by decide +kernel, by decide +kernel⟩, (Nat.le_of_ble_eq_true rfl)⟩, jm_tb (List.mem_of_getElem? (i := 1599) (by decide +kernel)) rfl, jm_tb (List.mem_of_getElem? (i := 55) (by decide +kernel)) rfl⟩
def m_X11_isKind : jm_Y := (yX11_isKind, cX11_isKind, 2, some .boolean)
theorem w_X11_isKind : jm_wV m_X11_isKind 1 := ⟨⟨jm_tb (List.mem_of_getElem? (i := 1608) (by decide +kernel)) rfl, jm_tb (List.mem_of_getElem? (i := 112) (by decide +kernel)) rfl, ⟨by decide +kernel, by decide +kernel, by decide +kernel⟩, (Nat.le_of_ble_eq_true rfl)⟩, jm_tb (List.mem_of_getElem? (i := 1607) (by decide +kernel)) rfl, jm_tb (List.mem_of_getElem? (i := 56) (by decide +kernel)) rfl⟩
def m_X11_rank : jm_Y := (yX11_rank, cX11_rank, 2, some .int)
theorem w_X11_rank : jm_wV m_X11_rank 1 := ⟨⟨jm_tb (List.mem_of_getElem? (i := 1596) (by decide +kernel)) rfl, jm_tb (List.mem_of_getElem? (i := 112) (by decide +kernel)) rfl, ⟨by decide +kernel, by decide +kernel, by decide +kernel⟩, (Nat.le_of_ble_eq_true rfl)⟩, jm_tb (List.mem_of_getElem? (i := 1594) (by decide +kernel)) rfl, jm_tb (List.mem_of_getElem? (i := 1595) (by decide +kernel)) rfl⟩
def m_X11_kind : jm_Y := (yX11_kind, cX11_kind, 3, some .int)
theorem w_X11_kind : jm_wV m_X11_kind 2 := ⟨⟨jm_tb (List.mem_of_getElem? (i := 1604) (by decide +kernel)) rfl, jm_tb (List.mem_of_getElem? (i := 112) (by decide +kernel)) rfl, ⟨by decide +kernel, by decide +kernel, by decide +kernel⟩, (Nat.le_of_ble_eq_true rfl)⟩, jm_tb (List.mem_of_getElem? (i := 1602) (by decide +kernel)) rfl, jm_tb (List.mem_of_getElem? (i := 1603) (by decide +kernel)) rfl⟩
def m_X11_layRules : jm_Y := (yX11_layRules, cX11_layRules, 5, none)
theorem w_X11_layRules : jm_wV m_X11_layRules 3 := ⟨⟨jm_tb (List.mem_of_getElem? (i := 1628) (by decide +kernel)) rfl, jm_tb (List.mem_of_getElem? (i := 112) (by decide +kernel)) rfl, ⟨by decide +kernel, by decide +kernel, by decide +kernel⟩, (Nat.le_of_ble_eq_true rfl)⟩, jm_tb (List.mem_of_getElem? (i := 1627) (by decide +kernel)) rfl, jm_tb (List.mem_of_getElem? (i := 60) (by decide +kernel)) rfl⟩
def m_X11_rule : jm_Y := (yX11_rule, cX11_rule, 3, some .int)
theorem w_X11_rule : jm_wV m_X11_rule 2 := ⟨⟨jm_tb (List.mem_of_getElem? (i := 1644) (by decide +kernel)) rfl, jm_tb (List.mem_of_getElem? (i := 112) (by decide +kernel)) rfl, ⟨by decide +kernel, by decide +kernel, by decide +kernel⟩, (Nat.le_of_ble_eq_true rfl)⟩, jm_tb (List.mem_of_getElem? (i := 1643) (by decide +kernel)) rfl, jm_tb (List.mem_of_getElem? (i := 64) (by decide +kernel)) rfl⟩
def m_X11_ofKind : jm_Y := (yX11_ofKind, cX11_ofKind, 4, some .int)
theorem w_X11_ofKind : jm_wV m_X11_ofKind 3 := ⟨⟨jm_tb (List.mem_of_getElem? (i := 1640) (by decide +kernel)) rfl, jm_tb (List.mem_of_getElem? (i := 112) (by decide +kernel)) rfl, ⟨by decide +kernel, by decide +kernel, by decide +kernel⟩, (Nat.le_of_ble_eq_true rfl)⟩, jm_tb (List.mem_of_getElem? (i := 1639) (by decide +kernel)) rfl, jm_tb (List.mem_of_getElem? (i := 63) (by decide +kernel)) rfl⟩
def m_X11_answers : jm_Y := (yX11_answers, cX11_answers, 6, some .int)
theorem w_X11_answers : jm_wV m_X11_answers 3 := ⟨⟨jm_tb (List.mem_of_getElem? (i := 1636) (by decide +kernel)) rfl, jm_tb (List.mem_of_getElem? (i := 112) (by decide +kernel)) rfl, ⟨by decide +kernel, by decide +kernel, by decide +kernel⟩, (Nat.le_of_ble_eq_true rfl)⟩, jm_tb (List.mem_of_getElem? (i := 1635) (by decide +kernel)) rfl, jm_tb (List.mem_of_getElem? (i := 62) (by decide +kernel)) rfl⟩
def m_X11_wrongOf : jm_Y := (yX11_wrongOf, cX11_wrongOf, 9, some .int)
theorem w_X11_wrongOf : jm_wV m_X11_wrongOf 3 := ⟨⟨jm_tb (List.mem_of_getElem? (i := 1648) (by decide +kernel)) rfl, jm_tb (List.mem_of_getElem? (i := 112) (by decide +kernel)) rfl, ⟨by decide +kernel, by decide +kernel, by decide +kernel⟩, (Nat.le_of_ble_eq_true rfl)⟩, jm_tb (List.mem_of_getElem? (i := 1647) (by decide +kernel)) rfl, jm_tb (List.mem_of_getElem? (i := 65) (by decide +kernel)) rfl⟩
def m_X11_push : jm_Y := (yX11_push, cX11_push, 7, none)
theorem w_X11_push : jm_wV m_X11_push 3 := ⟨⟨jm_tb (List.mem_of_getElem? (i := 1632) (by decide +kernel)) rfl, jm_tb (List.mem_of_getElem? (i := 112) (by decide +kernel)) rfl, ⟨by decide +kernel, by decide +kernel, by decide +kernel⟩, (Nat.le_of_ble_eq_true rfl)⟩, jm_tb (List.mem_of_getElem? (i := 1631) (by decide +kernel)) rfl, jm_tb (List.mem_of_getElem? (i := 61) (by decide +kernel)) rfl⟩
def m_X11_pop : jm_Y := (yX11_pop, cX11_pop, 4, none)
theorem w_X11_pop : jm_wV m_X11_pop 1 := ⟨⟨jm_tb (List.mem_of_getElem? (i := 1757) (by decide +kernel)) rfl, jm_tb (List.mem_of_getElem? (i := 112) (by decide +kernel)) rfl, ⟨by decide +kernel, by decide +kernel, by decide +kernel⟩, (Nat.le_of_ble_eq_true rfl)⟩, jm_tb (List.mem_of_getElem? (i := 1756) (by decide +kernel)) rfl, jm_tb (List.mem_of_getElem? (i := 78) (by decide +kernel)) rfl⟩
def m_X11_stateOf : jm_Y := (yX11_stateOf, cX11_stateOf, 4, some .int)
theorem w_X11_stateOf : jm_wV m_X11_stateOf 2 := ⟨⟨jm_tb (List.mem_of_getElem? (i := 1684) (by decide +kernel)) rfl, jm_tb (List.mem_of_getElem? (i := 112) (by decide +kernel)) rfl, ⟨by decide +kernel, by decide +kernel, by decide +kernel⟩, (Nat.le_of_ble_eq_true rfl)⟩, jm_tb (List.mem_of_getElem? (i := 1683) (by decide +kernel)) rfl, jm_tb (List.mem_of_getElem? (i := 68) (by decide +kernel)) rfl⟩
def m_X11_lay : jm_Y := (yX11_lay, cX11_lay, 2, none)
theorem w_X11_lay : jm_wV m_X11_lay 0 := ⟨⟨jm_tb (List.mem_of_getElem? (i := 1624) (by decide +kernel)) rfl, jm_tb (List.mem_of_getElem? (i := 112) (by decide +kernel)) rfl, ⟨by decide +kernel, by decide +kernel, by decide +kernel⟩, (Nat.le_of_ble_eq_true rfl)⟩, jm_tb (List.mem_of_getElem? (i := 1623) (by decide +kernel)) rfl, jm_tb (List.mem_of_getElem? (i := 59) (by decide +kernel)) rfl⟩
def m_X11_tries : jm_Y := (yX11_tries, cX11_tries, 3, some .int)
theorem w_X11_tries : jm_wV m_X11_tries 2 := ⟨⟨jm_tb (List.mem_of_getElem? (i := 1620) (by decide +kernel)) rfl, jm_tb (List.mem_of_getElem? (i := 112) (by decide +kernel)) rfl, ⟨by decide +kernel, by decide +kernel, by decide +kernel⟩, (Nat.le_of_ble_eq_true rfl)⟩, jm_tb (List.mem_of_getElem? (i := 1619) (by decide +kernel)) rfl, jm_tb (List.mem_of_getElem? (i := 58) (by decide +kernel)) rfl⟩
def m_X11_say : jm_Y := (yX11_say, cX11_say, 4, some .int)
theorem w_X11_say : jm_wV m_X11_say 2 := ⟨⟨jm_tb (List.mem_of_getElem? (i := 1616) (by decide +kernel)) rfl, jm_tb (List.mem_of_getElem? (i := 112) (by decide +kernel)) rfl, ⟨by decide +kernel, by decide +kernel, by decide +kernel⟩, (Nat.le_of_ble_eq_true rfl)⟩, jm_tb (List.mem_of_getElem? (i := 1614) (by decide +kernel)) rfl, jm_tb (List.mem_of_getElem? (i := 1615) (by decide +kernel)) rfl⟩
def m_X11_keepWord : jm_Y := (yX11_keepWord, cX11_keepWord, 3, none)
theorem w_X11_keepWord : jm_wV m_X11_keepWord 2 := ⟨⟨jm_tb (List.mem_of_getElem? (i := 1652) (by decide +kernel)) rfl, jm_tb (List.mem_of_getElem? (i := 112) (by decide +kernel)) rfl, ⟨by decide +kernel, by decide +kernel, by decide +kernel⟩, (Nat.le_of_ble_eq_true rfl)⟩, jm_tb (List.mem_of_getElem? (i := 1651) (by decide +kernel)) rfl, jm_tb (List.mem_of_getElem? (i := 66) (by decide +kernel)) rfl⟩
def m_X11_wrong : jm_Y := (yX11_wrong, cX11_wrong, 3, some .int)
theorem w_X11_wrong : jm_wV m_X11_wrong 2 := ⟨⟨jm_tb (List.mem_of_getElem? (i := 1656) (by decide +kernel)) rfl, jm_tb (List.mem_of_getElem? (i := 112) (by decide +kernel)) rfl, ⟨by decide +kernel, by decide +kernel, by decide +kernel⟩, (Nat.le_of_ble_eq_true rfl)⟩, jm_tb (List.mem_of_getElem? (i := 1654) (by decide +kernel)) rfl, jm_tb (List.mem_of_getElem? (i := 1655) (by decide +kernel)) rfl⟩
def m_X11_may : jm_Y := (yX11_may, cX11_may, 4, some .int)
theorem w_X11_may : jm_wV m_X11_may 1 := ⟨⟨jm_tb (List.mem_of_getElem? (i := 1660) (by decide +kernel)) rfl, jm_tb (List.mem_of_getElem? (i := 112) (by decide +kernel)) rfl, ⟨by decide +kernel, by decide +kernel, by decide +kernel⟩, (Nat.le_of_ble_eq_true rfl)⟩, jm_tb (List.mem_of_getElem? (i := 1658) (by decide +kernel)) rfl, jm_tb (List.mem_of_getElem? (i := 1659) (by decide +kernel)) rfl⟩
def m_X11_undo : jm_Y := (yX11_undo, cX11_undo, 1, some .int)
theorem w_X11_undo : jm_wV m_X11_undo 0 := ⟨⟨jm_tb (List.mem_of_getElem? (i := 1664) (by decide +kernel)) rfl, jm_tb (List.mem_of_getElem? (i := 112) (by decide +kernel)) rfl, ⟨by decide +kernel, by decide +kernel, by decide +kernel⟩, (Nat.le_of_ble_eq_true rfl)⟩, jm_tb (List.mem_of_getElem? (i := 1662) (by decide +kernel)) rfl, jm_tb (List.mem_of_getElem? (i := 1663) (by decide +kernel)) rfl⟩
def m_X11_readWordSaid : jm_Y := (yX11_readWordSaid, cX11_readWordSaid, 5, some .boolean)
theorem w_X11_readWordSaid : jm_wV m_X11_readWordSaid 0 := ⟨⟨jm_tb (List.mem_of_getElem? (i := 1672) (by decide +kernel)) rfl, jm_tb (List.mem_of_getElem? (i := 112) (by decide +kernel)) rfl, ⟨by decide +kernel, by decide +kernel, by decide +kernel⟩, (Nat.le_of_ble_eq_true rfl)⟩, jm_tb (List.mem_of_getElem? (i := 1671) (by decide +kernel)) rfl, jm_tb (List.mem_of_getElem? (i := 67) (by decide +kernel)) rfl⟩
def m_X11_talk : jm_Y := (yX11_talk, cX11_talk, 2, some .int)
theorem w_X11_talk : jm_wV m_X11_talk 0 := ⟨⟨jm_tb (List.mem_of_getElem? (i := 1668) (by decide +kernel)) rfl, jm_tb (List.mem_of_getElem? (i := 112) (by decide +kernel)) rfl, ⟨by decide +kernel, by decide +kernel, by decide +kernel⟩, (Nat.le_of_ble_eq_true rfl)⟩, jm_tb (List.mem_of_getElem? (i := 1666) (by decide +kernel)) rfl, jm_tb (List.mem_of_getElem? (i := 1667) (by decide +kernel)) rfl⟩
def m_X11_why : jm_Y := (yX11_why, cX11_why, 1, some .int)
theorem w_X11_why : jm_wV m_X11_why 0 := ⟨⟨jm_tb (List.mem_of_getElem? (i := 1676) (by decide +kernel)) rfl, jm_tb (List.mem_of_getElem? (i := 112) (by decide +kernel)) rfl, ⟨by decide +kernel, by decide +kernel, by decide +kernel⟩, (Nat.le_of_ble_eq_true rfl)⟩, jm_tb (List.mem_of_getElem? (i := 1674) (by decide +kernel)) rfl, jm_tb (List.mem_of_getElem? (i := 1675) (by decide +kernel)) rfl⟩
def m_X11_isPromise : jm_Y := (yX11_isPromise, cX11_isPromise, 2, some .boolean)
theorem w_X11_isPromise : jm_wV m_X11_isPromise 1 := ⟨⟨jm_tb (List.mem_of_getElem? (i := 1688) (by decide +kernel)) rfl, jm_tb (List.mem_of_getElem? (i := 112) (by decide +kernel)) rfl, ⟨by decide +kernel, by decide +kernel, by decide +kernel⟩, (Nat.le_of_ble_eq_true rfl)⟩, jm_tb (List.mem_of_getElem? (i := 1687) (by decide +kernel)) rfl, jm_tb (List.mem_of_getElem? (i := 69) (by decide +kernel)) rfl⟩
def m_X11_word : jm_Y := (yX11_word, cX11_word, 3, some .int)
theorem w_X11_word : jm_wV m_X11_word 2 := ⟨⟨jm_tb (List.mem_of_getElem? (i := 1680) (by decide +kernel)) rfl, jm_tb (List.mem_of_getElem? (i := 112) (by decide +kernel)) rfl, ⟨by decide +kernel, by decide +kernel, by decide +kernel⟩, (Nat.le_of_ble_eq_true rfl)⟩, jm_tb (List.mem_of_getElem? (i := 1678) (by decide +kernel)) rfl, jm_tb (List.mem_of_getElem? (i := 1679) (by decide +kernel)) rfl⟩
def m_X11_threads : jm_Y := (yX11_threads, cX11_threads, 1, some .int)
theorem w_X11_threads : jm_wV m_X11_threads 0 := ⟨⟨jm_tb (List.mem_of_getElem? (i := 1692) (by decide +kernel)) rfl, jm_tb (List.mem_of_getElem? (i := 112) (by decide +kernel)) rfl, ⟨by decide +kernel, by decide +kernel, by decide +kernel⟩, (Nat.le_of_ble_eq_true rfl)⟩, jm_tb (List.mem_of_getElem? (i := 1690) (by decide +kernel)) rfl, jm_tb (List.mem_of_getElem? (i := 1691) (by decide +kernel)) rfl⟩
def m_X11_thread : jm_Y := (yX11_thread, cX11_thread, 5, some .int)
theorem w_X11_thread : jm_wV m_X11_thread 2 := ⟨⟨jm_tb (List.mem_of_getElem? (i := 1696) (by decide +kernel)) rfl, jm_tb (List.mem_of_getElem? (i := 112) (by decide +kernel)) rfl, ⟨by decide +kernel, by decide +kernel, by decide +kernel⟩, (Nat.le_of_ble_eq_true rfl)⟩, jm_tb (List.mem_of_getElem? (i := 1694) (by decide +kernel)) rfl, jm_tb (List.mem_of_getElem? (i := 1695) (by decide +kernel)) rfl⟩
def m_X11_with : jm_Y := (yX11_with, cX11_with, 5, some .int)
theorem w_X11_with : jm_wV m_X11_with 2 := ⟨⟨jm_tb (List.mem_of_getElem? (i := 1700) (by decide +kernel)) rfl, jm_tb (List.mem_of_getElem? (i := 112) (by decide +kernel)) rfl, ⟨by decide +kernel, by decide +kernel, by decide +kernel⟩, (Nat.le_of_ble_eq_true rfl)⟩, jm_tb (List.mem_of_getElem? (i := 1698) (by decide +kernel)) rfl, jm_tb (List.mem_of_getElem? (i := 1699) (by decide +kernel)) rfl⟩
def m_X11_promised : jm_Y := (yX11_promised, cX11_promised, 6, some .int)
theorem w_X11_promised : jm_wV m_X11_promised 3 := ⟨⟨jm_tb (List.mem_of_getElem? (i := 1704) (by decide +kernel)) rfl, jm_tb (List.mem_of_getElem? (i := 112) (by decide +kernel)) rfl, ⟨by decide +kernel, by decide +kernel, by decide +kernel⟩, (Nat.le_of_ble_eq_true rfl)⟩, jm_tb (List.mem_of_getElem? (i := 1702) (by decide +kernel)) rfl, jm_tb (List.mem_of_getElem? (i := 1703) (by decide +kernel)) rfl⟩
def m_X11_spoke : jm_Y := (yX11_spoke, cX11_spoke, 5, some .int)
theorem w_X11_spoke : jm_wV m_X11_spoke 2 := ⟨⟨jm_tb (List.mem_of_getElem? (i := 1708) (by decide +kernel)) rfl, jm_tb (List.mem_of_getElem? (i := 112) (by decide +kernel)) rfl, ⟨by decide +kernel, by decide +kernel, by decide +kernel⟩, (Nat.le_of_ble_eq_true rfl)⟩, jm_tb (List.mem_of_getElem? (i := 1706) (by decide +kernel)) rfl, jm_tb (List.mem_of_getElem? (i := 1707) (by decide +kernel)) rfl⟩
def m_X11_draw : jm_Y := (yX11_draw, cX11_draw, 2, some .int)
theorem w_X11_draw : jm_wV m_X11_draw 1 := ⟨⟨jm_tb (List.mem_of_getElem? (i := 1720) (by decide +kernel)) rfl, jm_tb (List.mem_of_getElem? (i := 112) (by decide +kernel)) rfl, ⟨by decide +kernel, by decide +kernel, by decide +kernel⟩, (Nat.le_of_ble_eq_true rfl)⟩, jm_tb (List.mem_of_getElem? (i := 1719) (by decide +kernel)) rfl, jm_tb (List.mem_of_getElem? (i := 71) (by decide +kernel)) rfl⟩
def m_X11_nextWord : jm_Y := (yX11_nextWord, cX11_nextWord, 5, some .int)
theorem w_X11_nextWord : jm_wV m_X11_nextWord 1 := ⟨⟨jm_tb (List.mem_of_getElem? (i := 1716) (by decide +kernel)) rfl, jm_tb (List.mem_of_getElem? (i := 112) (by decide +kernel)) rfl, ⟨by decide +kernel, by decide +kernel, by decide +kernel⟩, (Nat.le_of_ble_eq_true rfl)⟩, jm_tb (List.mem_of_getElem? (i := 1715) (by decide +kernel)) rfl, jm_tb (List.mem_of_getElem? (i := 70) (by decide +kernel)) rfl⟩
def m_X11_drawn : jm_Y := (yX11_drawn, cX11_drawn, 6, some .int)
theorem w_X11_drawn : jm_wV m_X11_drawn 2 := ⟨⟨jm_tb (List.mem_of_getElem? (i := 1712) (by decide +kernel)) rfl, jm_tb (List.mem_of_getElem? (i := 112) (by decide +kernel)) rfl, ⟨by decide +kernel, by decide +kernel, by decide +kernel⟩, (Nat.le_of_ble_eq_true rfl)⟩, jm_tb (List.mem_of_getElem? (i := 1710) (by decide +kernel)) rfl, jm_tb (List.mem_of_getElem? (i := 1711) (by decide +kernel)) rfl⟩
def m_X11_readTorn : jm_Y := (yX11_readTorn, cX11_readTorn, 4, some .boolean)
theorem w_X11_readTorn : jm_wV m_X11_readTorn 3 := ⟨⟨jm_tb (List.mem_of_getElem? (i := 1733) (by decide +kernel)) rfl, jm_tb (List.mem_of_getElem? (i := 112) (by decide +kernel)) rfl, ⟨by decide +kernel, by decide +kernel, by decide +kernel⟩, (Nat.le_of_ble_eq_true rfl)⟩, jm_tb (List.mem_of_getElem? (i := 1732) (by decide +kernel)) rfl, jm_tb (List.mem_of_getElem? (i := 73) (by decide +kernel)) rfl⟩
def m_X11_readMinute : jm_Y := (yX11_readMinute, cX11_readMinute, 2, some .boolean)
theorem w_X11_readMinute : jm_wV m_X11_readMinute 0 := ⟨⟨jm_tb (List.mem_of_getElem? (i := 1729) (by decide +kernel)) rfl, jm_tb (List.mem_of_getElem? (i := 112) (by decide +kernel)) rfl, ⟨by decide +kernel, by decide +kernel, by decide +kernel⟩, (Nat.le_of_ble_eq_true rfl)⟩, jm_tb (List.mem_of_getElem? (i := 1728) (by decide +kernel)) rfl, jm_tb (List.mem_of_getElem? (i := 72) (by decide +kernel)) rfl⟩
def m_X11_minutes : jm_Y := (yX11_minutes, cX11_minutes, 2, some .int)
theorem w_X11_minutes : jm_wV m_X11_minutes 0 := ⟨⟨jm_tb (List.mem_of_getElem? (i := 1725) (by decide +kernel)) rfl, jm_tb (List.mem_of_getElem? (i := 112) (by decide +kernel)) rfl, ⟨by decide +kernel, by decide +kernel, by decide +kernel⟩, (Nat.le_of_ble_eq_true rfl)⟩, jm_tb (List.mem_of_getElem? (i := 1723) (by decide +kernel)) rfl, jm_tb (List.mem_of_getElem? (i := 1724) (by decide +kernel)) rfl⟩
def m_X11_fill : jm_Y := (yX11_fill, cX11_fill, 4, none)
theorem w_X11_fill : jm_wV m_X11_fill 1 := ⟨⟨jm_tb (List.mem_of_getElem? (i := 1753) (by decide +kernel)) rfl, jm_tb (List.mem_of_getElem? (i := 112) (by decide +kernel)) rfl, ⟨by decide +kernel, by decide +kernel, by decide +kernel⟩, (Nat.le_of_ble_eq_true rfl)⟩, jm_tb (List.mem_of_getElem? (i := 1752) (by decide +kernel)) rfl, jm_tb (List.mem_of_getElem? (i := 77) (by decide +kernel)) rfl⟩
def m_X11_fillings : jm_Y := (yX11_fillings, cX11_fillings, 5, some .int)
theorem w_X11_fillings : jm_wV m_X11_fillings 2 := ⟨⟨jm_tb (List.mem_of_getElem? (i := 1741) (by decide +kernel)) rfl, jm_tb (List.mem_of_getElem? (i := 112) (by decide +kernel)) rfl, ⟨by decide +kernel, by decide +kernel, by decide +kernel⟩, (Nat.le_of_ble_eq_true rfl)⟩, jm_tb (List.mem_of_getElem? (i := 1740) (by decide +kernel)) rfl, jm_tb (List.mem_of_getElem? (i := 74) (by decide +kernel)) rfl⟩
def m_X11_layTorn : jm_Y := (yX11_layTorn, cX11_layTorn, 5, none)
theorem w_X11_layTorn : jm_wV m_X11_layTorn 2 := ⟨⟨jm_tb (List.mem_of_getElem? (i := 1749) (by decide +kernel)) rfl, jm_tb (List.mem_of_getElem? (i := 112) (by decide +kernel)) rfl, ⟨by decide +kernel, by decide +kernel, by decide +kernel⟩, (Nat.le_of_ble_eq_true rfl)⟩, jm_tb (List.mem_of_getElem? (i := 1748) (by decide +kernel)) rfl, jm_tb (List.mem_of_getElem? (i := 76) (by decide +kernel)) rfl⟩
def m_X11_beginFill : jm_Y := (yX11_beginFill, cX11_beginFill, 2, none)
theorem w_X11_beginFill : jm_wV m_X11_beginFill 0 := ⟨⟨jm_tb (List.mem_of_getElem? (i := 1745) (by decide +kernel)) rfl, jm_tb (List.mem_of_getElem? (i := 112) (by decide +kernel)) rfl, ⟨by decide +kernel, by decide +kernel, by decide +kernel⟩, (Nat.le_of_ble_eq_true rfl)⟩, jm_tb (List.mem_of_getElem? (i := 1744) (by decide +kernel)) rfl, jm_tb (List.mem_of_getElem? (i := 75) (by decide +kernel)) rfl⟩
def m_X11_wholes : jm_Y := (yX11_wholes, cX11_wholes, 4, some .int)
theorem w_X11_wholes : jm_wV m_X11_wholes 1 := ⟨⟨jm_tb (List.mem_of_getElem? (i := 1737) (by decide +kernel)) rfl, jm_tb (List.mem_of_getElem? (i := 112) (by decide +kernel)) rfl, ⟨by decide +kernel, by decide +kernel, by decide +kernel⟩, (Nat.le_of_ble_eq_true rfl)⟩, jm_tb (List.mem_of_getElem? (i := 1735) (by decide +kernel)) rfl, jm_tb (List.mem_of_getElem? (i := 1736) (by decide +kernel)) rfl⟩
def m_X11_sure : jm_Y := (yX11_sure, cX11_sure, 3, some .int)
theorem w_X11_sure : jm_wV m_X11_sure 2 := ⟨⟨jm_tb (List.mem_of_getElem? (i := 1761) (by decide +kernel)) rfl, jm_tb (List.mem_of_getElem? (i := 112) (by decide +kernel)) rfl, ⟨by decide +kernel, by decide +kernel, by decide +kernel⟩, (Nat.le_of_ble_eq_true rfl)⟩, jm_tb (List.mem_of_getElem? (i := 1759) (by decide +kernel)) rfl, jm_tb (List.mem_of_getElem? (i := 1760) (by decide +kernel)) rfl⟩
def m_X11_hangs : jm_Y := (yX11_hangs, cX11_hangs, 4, some .int)
theorem w_X11_hangs : jm_wV m_X11_hangs 0 := ⟨⟨jm_tb (List.mem_of_getElem? (i := 1765) (by decide +kernel)) rfl, jm_tb (List.mem_of_getElem? (i := 112) (by decide +kernel)) rfl, ⟨by decide +kernel, by decide +kernel, by decide +kernel⟩, (Nat.le_of_ble_eq_true rfl)⟩, jm_tb (List.mem_of_getElem? (i := 1763) (by decide +kernel)) rfl, jm_tb (List.mem_of_getElem? (i := 1764) (by decide +kernel)) rfl⟩
def m_X11_isWhole : jm_Y := (yX11_isWhole, cX11_isWhole, 2, some .boolean)
theorem w_X11_isWhole : jm_wV m_X11_isWhole 0 := ⟨⟨jm_tb (List.mem_of_getElem? (i := 1774) (by decide +kernel)) rfl, jm_tb (List.mem_of_getElem? (i := 112) (by decide +kernel)) rfl, ⟨by decide +kernel, by decide +kernel, by decide +kernel⟩, (Nat.le_of_ble_eq_true rfl)⟩, jm_tb (List.mem_of_getElem? (i := 1773) (by decide +kernel)) rfl, jm_tb (List.mem_of_getElem? (i := 79) (by decide +kernel)) rfl⟩
def m_X11_bits : jm_Y := (yX11_bits, cX11_bits, 3, some .int)
theorem w_X11_bits : jm_wS m_X11_bits 1 := ⟨⟨jm_tb (List.mem_of_getElem? (i := 1777) (by decide +kernel)) rfl, jm_tb (List.mem_of_getElem? (i := 112) (by decide +kernel)) rfl, ⟨by decide +kernel, by decide +kernel, by decide +kernel⟩, (Nat.le_of_ble_eq_true rfl)⟩, jm_tb (List.mem_of_getElem? (i := 1776) (by decide +kernel)) rfl⟩
def m_X11_isTalk : jm_Y := (yX11_isTalk, cX11_isTalk, 3, some .boolean)
theorem w_X11_isTalk : jm_wV m_X11_isTalk 1 := ⟨⟨jm_tb (List.mem_of_getElem? (i := 1781) (by decide +kernel)) rfl, jm_tb (List.mem_of_getElem? (i := 112) (by decide +kernel)) rfl, ⟨by decide +kernel, by decide +kernel, by decide +kernel⟩, (Nat.le_of_ble_eq_true rfl)⟩, jm_tb (List.mem_of_getElem? (i := 1780) (by decide +kernel)) rfl, jm_tb (List.mem_of_getElem? (i := 80) (by decide +kernel)) rfl⟩
def m_X11_mend : jm_Y := (yX11_mend, cX11_mend, 4, some .int)
theorem w_X11_mend : jm_wV m_X11_mend 0 := ⟨⟨jm_tb (List.mem_of_getElem? (i := 1770) (by decide +kernel)) rfl, jm_tb (List.mem_of_getElem? (i := 112) (by decide +kernel)) rfl, ⟨by decide +kernel, by decide +kernel, by decide +kernel⟩, (Nat.le_of_ble_eq_true rfl)⟩, jm_tb (List.mem_of_getElem? (i := 1768) (by decide +kernel)) rfl, jm_tb (List.mem_of_getElem? (i := 1769) (by decide +kernel)) rfl⟩
def m_X11_mended : jm_Y := (yX11_mended, cX11_mended, 1, some .int)
theorem w_X11_mended : jm_wV m_X11_mended 0 := ⟨⟨jm_tb (List.mem_of_getElem? (i := 1785) (by decide +kernel)) rfl, jm_tb (List.mem_of_getElem? (i := 112) (by decide +kernel)) rfl, ⟨by decide +kernel, by decide +kernel, by decide +kernel⟩, (Nat.le_of_ble_eq_true rfl)⟩, jm_tb (List.mem_of_getElem? (i := 1783) (by decide +kernel)) rfl, jm_tb (List.mem_of_getElem? (i := 1784) (by decide +kernel)) rfl⟩
def m_X11_tryOrders : jm_Y := (yX11_tryOrders, cX11_tryOrders, 5, none)
theorem w_X11_tryOrders : jm_wV m_X11_tryOrders 1 := ⟨⟨jm_tb (List.mem_of_getElem? (i := 1793) (by decide +kernel)) rfl, jm_tb (List.mem_of_getElem? (i := 112) (by decide +kernel)) rfl, ⟨by decide +kernel, by decide +kernel, by decide +kernel⟩, (Nat.le_of_ble_eq_true rfl)⟩, jm_tb (List.mem_of_getElem? (i := 1792) (by decide +kernel)) rfl, jm_tb (List.mem_of_getElem? (i := 81) (by decide +kernel)) rfl⟩
def m_X11_orders : jm_Y := (yX11_orders, cX11_orders, 1, some .int)
theorem w_X11_orders : jm_wV m_X11_orders 0 := ⟨⟨jm_tb (List.mem_of_getElem? (i := 1789) (by decide +kernel)) rfl, jm_tb (List.mem_of_getElem? (i := 112) (by decide +kernel)) rfl, ⟨by decide +kernel, by decide +kernel, by decide +kernel⟩, (Nat.le_of_ble_eq_true rfl)⟩, jm_tb (List.mem_of_getElem? (i := 1787) (by decide +kernel)) rfl, jm_tb (List.mem_of_getElem? (i := 1788) (by decide +kernel)) rfl⟩
def m_X11_orderAt : jm_Y := (yX11_orderAt, cX11_orderAt, 2, some .int)
theorem w_X11_orderAt : jm_wV m_X11_orderAt 1 := ⟨⟨jm_tb (List.mem_of_getElem? (i := 1797) (by decide +kernel)) rfl, jm_tb (List.mem_of_getElem? (i := 112) (by decide +kernel)) rfl, ⟨by decide +kernel, by decide +kernel, by decide +kernel⟩, (Nat.le_of_ble_eq_true rfl)⟩, jm_tb (List.mem_of_getElem? (i := 1795) (by decide +kernel)) rfl, jm_tb (List.mem_of_getElem? (i := 1796) (by decide +kernel)) rfl⟩
def m_X11_isSo : jm_Y := (yX11_isSo, cX11_isSo, 3, some .boolean)
theorem w_X11_isSo : jm_wV m_X11_isSo 2 := ⟨⟨jm_tb (List.mem_of_getElem? (i := 1817) (by decide +kernel)) rfl, jm_tb (List.mem_of_getElem? (i := 112) (by decide +kernel)) rfl, ⟨by decide +kernel, by decide +kernel, by decide +kernel⟩, (Nat.le_of_ble_eq_true rfl)⟩, jm_tb (List.mem_of_getElem? (i := 1816) (by decide +kernel)) rfl, jm_tb (List.mem_of_getElem? (i := 84) (by decide +kernel)) rfl⟩
def m_X11_leads : jm_Y := (yX11_leads, cX11_leads, 9, some .boolean)
theorem w_X11_leads : jm_wV m_X11_leads 5 := ⟨⟨jm_tb (List.mem_of_getElem? (i := 1813) (by decide +kernel)) rfl, jm_tb (List.mem_of_getElem? (i := 112) (by decide +kernel)) rfl, ⟨by decide +kernel, by decide +kernel, by decide +kernel⟩, (Nat.le_of_ble_eq_true rfl)⟩, jm_tb (List.mem_of_getElem? (i := 1812) (by decide +kernel)) rfl, jm_tb (List.mem_of_getElem? (i := 83) (by decide +kernel)) rfl⟩
def m_X11_isTooMany : jm_Y := (yX11_isTooMany, cX11_isTooMany, 6, some .boolean)
theorem w_X11_isTooMany : jm_wS m_X11_isTooMany 3 := ⟨⟨jm_tb (List.mem_of_getElem? (i := 1808) (by decide +kernel)) rfl, jm_tb (List.mem_of_getElem? (i := 112) (by decide +kernel)) rfl, ⟨by decide +kernel, by decide +kernel, by decide +kernel⟩, (Nat.le_of_ble_eq_true rfl)⟩, jm_tb (List.mem_of_getElem? (i := 1807) (by decide +kernel)) rfl⟩
def m_X11_roadOf : jm_Y := (yX11_roadOf, cX11_roadOf, 6, some .int)
theorem w_X11_roadOf : jm_wV m_X11_roadOf 4 := ⟨⟨jm_tb (List.mem_of_getElem? (i := 1805) (by decide +kernel)) rfl, jm_tb (List.mem_of_getElem? (i := 112) (by decide +kernel)) rfl, ⟨by decide +kernel, by decide +kernel, by decide +kernel⟩, (Nat.le_of_ble_eq_true rfl)⟩, jm_tb (List.mem_of_getElem? (i := 1804) (by decide +kernel)) rfl, jm_tb (List.mem_of_getElem? (i := 82) (by decide +kernel)) rfl⟩
def m_X11_road : jm_Y := (yX11_road, cX11_road, 6, some .int)
theorem w_X11_road : jm_wV m_X11_road 3 := ⟨⟨jm_tb (List.mem_of_getElem? (i := 1801) (by decide +kernel)) rfl, jm_tb (List.mem_of_getElem? (i := 112) (by decide +kernel)) rfl, ⟨by decide +kernel, by decide +kernel, by decide +kernel⟩, (Nat.le_of_ble_eq_true rfl)⟩, jm_tb (List.mem_of_getElem? (i := 1799) (by decide +kernel)) rfl, jm_tb (List.mem_of_getElem? (i := 1800) (by decide +kernel)) rfl⟩
def m_X11_without : jm_Y := (yX11_without, cX11_without, 5, some .int)
theorem w_X11_without : jm_wV m_X11_without 4 := ⟨⟨jm_tb (List.mem_of_getElem? (i := 1821) (by decide +kernel)) rfl, jm_tb (List.mem_of_getElem? (i := 112) (by decide +kernel)) rfl, ⟨by decide +kernel, by decide +kernel, by decide +kernel⟩, (Nat.le_of_ble_eq_true rfl)⟩, jm_tb (List.mem_of_getElem? (i := 1819) (by decide +kernel)) rfl, jm_tb (List.mem_of_getElem? (i := 1820) (by decide +kernel)) rfl⟩
def m_X11_play : jm_Y := (yX11_play, cX11_play, 10, some .int)
theorem w_X11_play : jm_wV m_X11_play 5 := ⟨⟨jm_tb (List.mem_of_getElem? (i := 1829) (by decide +kernel)) rfl, jm_tb (List.mem_of_getElem? (i := 112) (by decide +kernel)) rfl, ⟨by decide +kernel, by decide +kernel, by decide +kernel⟩, (Nat.le_of_ble_eq_true rfl)⟩, jm_tb (List.mem_of_getElem? (i := 1828) (by decide +kernel)) rfl, jm_tb (List.mem_of_getElem? (i := 85) (by decide +kernel)) rfl⟩
def m_X11_game : jm_Y := (yX11_game, cX11_game, 7, some .int)
theorem w_X11_game : jm_wV m_X11_game 4 := ⟨⟨jm_tb (List.mem_of_getElem? (i := 1825) (by decide +kernel)) rfl, jm_tb (List.mem_of_getElem? (i := 112) (by decide +kernel)) rfl, ⟨by decide +kernel, by decide +kernel, by decide +kernel⟩, (Nat.le_of_ble_eq_true rfl)⟩, jm_tb (List.mem_of_getElem? (i := 1823) (by decide +kernel)) rfl, jm_tb (List.mem_of_getElem? (i := 1824) (by decide +kernel)) rfl⟩
def m_X11_found : jm_Y := (yX11_found, cX11_found, 2, some .int)
theorem w_X11_found : jm_wV m_X11_found 1 := ⟨⟨jm_tb (List.mem_of_getElem? (i := 1833) (by decide +kernel)) rfl, jm_tb (List.mem_of_getElem? (i := 112) (by decide +kernel)) rfl, ⟨by decide +kernel, by decide +kernel, by decide +kernel⟩, (Nat.le_of_ble_eq_true rfl)⟩, jm_tb (List.mem_of_getElem? (i := 1831) (by decide +kernel)) rfl, jm_tb (List.mem_of_getElem? (i := 1832) (by decide +kernel)) rfl⟩
def m_X11_mayBeSaid : jm_Y := (yX11_mayBeSaid, cX11_mayBeSaid, 4, some .boolean)
theorem w_X11_mayBeSaid : jm_wV m_X11_mayBeSaid 3 := ⟨⟨jm_tb (List.mem_of_getElem? (i := 1845) (by decide +kernel)) rfl, jm_tb (List.mem_of_getElem? (i := 112) (by decide +kernel)) rfl, ⟨by decide +kernel, by decide +kernel, by decide +kernel⟩, (Nat.le_of_ble_eq_true rfl)⟩, jm_tb (List.mem_of_getElem? (i := 1844) (by decide +kernel)) rfl, jm_tb (List.mem_of_getElem? (i := 87) (by decide +kernel)) rfl⟩
def m_X11_parts : jm_Y := (yX11_parts, cX11_parts, 10, some .boolean)
theorem w_X11_parts : jm_wV m_X11_parts 4 := ⟨⟨jm_tb (List.mem_of_getElem? (i := 1841) (by decide +kernel)) rfl, jm_tb (List.mem_of_getElem? (i := 112) (by decide +kernel)) rfl, ⟨by decide +kernel, by decide +kernel, by decide +kernel⟩, (Nat.le_of_ble_eq_true rfl)⟩, jm_tb (List.mem_of_getElem? (i := 1840) (by decide +kernel)) rfl, jm_tb (List.mem_of_getElem? (i := 86) (by decide +kernel)) rfl⟩
def m_X11_unlike : jm_Y := (yX11_unlike, cX11_unlike, 7, some .int)
theorem w_X11_unlike : jm_wV m_X11_unlike 2 := ⟨⟨jm_tb (List.mem_of_getElem? (i := 1837) (by decide +kernel)) rfl, jm_tb (List.mem_of_getElem? (i := 112) (by decide +kernel)) rfl, ⟨by decide +kernel, by decide +kernel, by decide +kernel⟩, (Nat.le_of_ble_eq_true rfl)⟩, jm_tb (List.mem_of_getElem? (i := 1835) (by decide +kernel)) rfl, jm_tb (List.mem_of_getElem? (i := 1836) (by decide +kernel)) rfl⟩
def m_X11_lays : jm_Y := (yX11_lays, cX11_lays, 6, some .int)
theorem w_X11_lays : jm_wV m_X11_lays 4 := ⟨⟨jm_tb (List.mem_of_getElem? (i := 1873) (by decide +kernel)) rfl, jm_tb (List.mem_of_getElem? (i := 112) (by decide +kernel)) rfl, ⟨by decide +kernel, by decide +kernel, by decide +kernel⟩, (Nat.le_of_ble_eq_true rfl)⟩, jm_tb (List.mem_of_getElem? (i := 1872) (by decide +kernel)) rfl, jm_tb (List.mem_of_getElem? (i := 93) (by decide +kernel)) rfl⟩
def m_X11_readOr : jm_Y := (yX11_readOr, cX11_readOr, 2, some .boolean)
theorem w_X11_readOr : jm_wV m_X11_readOr 0 := ⟨⟨jm_tb (List.mem_of_getElem? (i := 1853) (by decide +kernel)) rfl, jm_tb (List.mem_of_getElem? (i := 112) (by decide +kernel)) rfl, ⟨by decide +kernel, by decide +kernel, by decide +kernel⟩, (Nat.le_of_ble_eq_true rfl)⟩, jm_tb (List.mem_of_getElem? (i := 1852) (by decide +kernel)) rfl, jm_tb (List.mem_of_getElem? (i := 88) (by decide +kernel)) rfl⟩
def m_X11_readAnd : jm_Y := (yX11_readAnd, cX11_readAnd, 2, some .boolean)
theorem w_X11_readAnd : jm_wV m_X11_readAnd 0 := ⟨⟨jm_tb (List.mem_of_getElem? (i := 1857) (by decide +kernel)) rfl, jm_tb (List.mem_of_getElem? (i := 112) (by decide +kernel)) rfl, ⟨by decide +kernel, by decide +kernel, by decide +kernel⟩, (Nat.le_of_ble_eq_true rfl)⟩, jm_tb (List.mem_of_getElem? (i := 1856) (by decide +kernel)) rfl, jm_tb (List.mem_of_getElem? (i := 89) (by decide +kernel)) rfl⟩
def m_X11_readOne : jm_Y := (yX11_readOne, cX11_readOne, 4, some .boolean)
theorem w_X11_readOne : jm_wV m_X11_readOne 0 := ⟨⟨jm_tb (List.mem_of_getElem? (i := 1861) (by decide +kernel)) rfl, jm_tb (List.mem_of_getElem? (i := 112) (by decide +kernel)) rfl, ⟨by decide +kernel, by decide +kernel, by decide +kernel⟩, (Nat.le_of_ble_eq_true rfl)⟩, jm_tb (List.mem_of_getElem? (i := 1860) (by decide +kernel)) rfl, jm_tb (List.mem_of_getElem? (i := 90) (by decide +kernel)) rfl⟩
def m_X11_readNot : jm_Y := (yX11_readNot, cX11_readNot, 1, some .boolean)
theorem w_X11_readNot : jm_wV m_X11_readNot 0 := ⟨⟨jm_tb (List.mem_of_getElem? (i := 1869) (by decide +kernel)) rfl, jm_tb (List.mem_of_getElem? (i := 112) (by decide +kernel)) rfl, ⟨by decide +kernel, by decide +kernel, by decide +kernel⟩, (Nat.le_of_ble_eq_true rfl)⟩, jm_tb (List.mem_of_getElem? (i := 1868) (by decide +kernel)) rfl, jm_tb (List.mem_of_getElem? (i := 92) (by decide +kernel)) rfl⟩
def m_X11_readBracket : jm_Y := (yX11_readBracket, cX11_readBracket, 1, some .boolean)
theorem w_X11_readBracket : jm_wV m_X11_readBracket 0 := ⟨⟨jm_tb (List.mem_of_getElem? (i := 1865) (by decide +kernel)) rfl, jm_tb (List.mem_of_getElem? (i := 112) (by decide +kernel)) rfl, ⟨by decide +kernel, by decide +kernel, by decide +kernel⟩, (Nat.le_of_ble_eq_true rfl)⟩, jm_tb (List.mem_of_getElem? (i := 1864) (by decide +kernel)) rfl, jm_tb (List.mem_of_getElem? (i := 91) (by decide +kernel)) rfl⟩
def m_X11_readNamed : jm_Y := (yX11_readNamed, cX11_readNamed, 3, some .boolean)
theorem w_X11_readNamed : jm_wV m_X11_readNamed 1 := ⟨⟨jm_tb (List.mem_of_getElem? (i := 1877) (by decide +kernel)) rfl, jm_tb (List.mem_of_getElem? (i := 112) (by decide +kernel)) rfl, ⟨by decide +kernel, by decide +kernel, by decide +kernel⟩, (Nat.le_of_ble_eq_true rfl)⟩, jm_tb (List.mem_of_getElem? (i := 1876) (by decide +kernel)) rfl, jm_tb (List.mem_of_getElem? (i := 94) (by decide +kernel)) rfl⟩
def m_X11_readCompare : jm_Y := (yX11_readCompare, cX11_readCompare, 3, some .boolean)
theorem w_X11_readCompare : jm_wV m_X11_readCompare 1 := ⟨⟨jm_tb (List.mem_of_getElem? (i := 1881) (by decide +kernel)) rfl, jm_tb (List.mem_of_getElem? (i := 112) (by decide +kernel)) rfl, ⟨by decide +kernel, by decide +kernel, by decide +kernel⟩, (Nat.le_of_ble_eq_true rfl)⟩, jm_tb (List.mem_of_getElem? (i := 1880) (by decide +kernel)) rfl, jm_tb (List.mem_of_getElem? (i := 95) (by decide +kernel)) rfl⟩
def m_X11_sentence : jm_Y := (yX11_sentence, cX11_sentence, 2, some .int)
theorem w_X11_sentence : jm_wV m_X11_sentence 0 := ⟨⟨jm_tb (List.mem_of_getElem? (i := 1849) (by decide +kernel)) rfl, jm_tb (List.mem_of_getElem? (i := 112) (by decide +kernel)) rfl, ⟨by decide +kernel, by decide +kernel, by decide +kernel⟩, (Nat.le_of_ble_eq_true rfl)⟩, jm_tb (List.mem_of_getElem? (i := 1847) (by decide +kernel)) rfl, jm_tb (List.mem_of_getElem? (i := 1848) (by decide +kernel)) rfl⟩
def m_X11_valueOf : jm_Y := (yX11_valueOf, cX11_valueOf, 4, some .int)
theorem w_X11_valueOf : jm_wV m_X11_valueOf 2 := ⟨⟨jm_tb (List.mem_of_getElem? (i := 1893) (by decide +kernel)) rfl, jm_tb (List.mem_of_getElem? (i := 112) (by decide +kernel)) rfl, ⟨by decide +kernel, by decide +kernel, by decide +kernel⟩, (Nat.le_of_ble_eq_true rfl)⟩, jm_tb (List.mem_of_getElem? (i := 1892) (by decide +kernel)) rfl, jm_tb (List.mem_of_getElem? (i := 97) (by decide +kernel)) rfl⟩
def m_X11_holds : jm_Y := (yX11_holds, cX11_holds, 7, some .boolean)
theorem w_X11_holds : jm_wV m_X11_holds 2 := ⟨⟨jm_tb (List.mem_of_getElem? (i := 1889) (by decide +kernel)) rfl, jm_tb (List.mem_of_getElem? (i := 112) (by decide +kernel)) rfl, ⟨by decide +kernel, by decide +kernel, by decide +kernel⟩, (Nat.le_of_ble_eq_true rfl)⟩, jm_tb (List.mem_of_getElem? (i := 1888) (by decide +kernel)) rfl, jm_tb (List.mem_of_getElem? (i := 96) (by decide +kernel)) rfl⟩
def m_X11_said : jm_Y := (yX11_said, cX11_said, 4, some .int)
theorem w_X11_said : jm_wV m_X11_said 1 := ⟨⟨jm_tb (List.mem_of_getElem? (i := 1885) (by decide +kernel)) rfl, jm_tb (List.mem_of_getElem? (i := 112) (by decide +kernel)) rfl, ⟨by decide +kernel, by decide +kernel, by decide +kernel⟩, (Nat.le_of_ble_eq_true rfl)⟩, jm_tb (List.mem_of_getElem? (i := 1883) (by decide +kernel)) rfl, jm_tb (List.mem_of_getElem? (i := 1884) (by decide +kernel)) rfl⟩
def m_X11_image : jm_Y := (yX11_image, cX11_image, 3, some .boolean)
theorem w_X11_image : jm_wV m_X11_image 1 := ⟨⟨jm_tb (List.mem_of_getElem? (i := 1897) (by decide +kernel)) rfl, jm_tb (List.mem_of_getElem? (i := 112) (by decide +kernel)) rfl, ⟨by decide +kernel, by decide +kernel, by decide +kernel⟩, (Nat.le_of_ble_eq_true rfl)⟩, jm_tb (List.mem_of_getElem? (i := 1895) (by decide +kernel)) rfl, jm_tb (List.mem_of_getElem? (i := 1896) (by decide +kernel)) rfl⟩
def m_X11_restore : jm_Y := (yX11_restore, cX11_restore, 3, some .boolean)
theorem w_X11_restore : jm_wV m_X11_restore 1 := ⟨⟨jm_tb (List.mem_of_getElem? (i := 1901) (by decide +kernel)) rfl, jm_tb (List.mem_of_getElem? (i := 112) (by decide +kernel)) rfl, ⟨by decide +kernel, by decide +kernel, by decide +kernel⟩, (Nat.le_of_ble_eq_true rfl)⟩, jm_tb (List.mem_of_getElem? (i := 1899) (by decide +kernel)) rfl, jm_tb (List.mem_of_getElem? (i := 1900) (by decide +kernel)) rfl⟩
def m_X11_count : jm_Y := (yX11_count, cX11_count, 2, some .int)
theorem w_X11_count : jm_wV m_X11_count 1 := ⟨⟨jm_tb (List.mem_of_getElem? (i := 1905) (by decide +kernel)) rfl, jm_tb (List.mem_of_getElem? (i := 112) (by decide +kernel)) rfl, ⟨by decide +kernel, by decide +kernel, by decide +kernel⟩, (Nat.le_of_ble_eq_true rfl)⟩, jm_tb (List.mem_of_getElem? (i := 1903) (by decide +kernel)) rfl, jm_tb (List.mem_of_getElem? (i := 1904) (by decide +kernel)) rfl⟩
def m_J6_bitCount_0f7a4 : jm_Y := (yJ6_bitCount_0f7a4, cJ6_bitCount_0f7a4, 1, some .int)
theorem w_J6_bitCount_0f7a4 : jm_wS m_J6_bitCount_0f7a4 1 := ⟨⟨jm_tb (List.mem_of_getElem? (i := 995) (by decide +kernel)) rfl, jm_tb (List.mem_of_getElem? (i := 118) (by decide +kernel)) rfl, ⟨by decide +kernel, by decide +kernel, by decide +kernel⟩, (Nat.le_of_ble_eq_true rfl)⟩, jm_tb (List.mem_of_getElem? (i := 994) (by decide +kernel)) rfl⟩
def m_J9_max_7cf53 : jm_Y := (yJ9_max_7cf53, cJ9_max_7cf53, 2, some .int)
theorem w_J9_max_7cf53 : jm_wS m_J9_max_7cf53 2 := ⟨⟨jm_tb (List.mem_of_getElem? (i := 267) (by decide +kernel)) rfl, jm_tb (List.mem_of_getElem? (i := 105) (by decide +kernel)) rfl, ⟨by decide +kernel, by decide +kernel, by decide +kernel⟩, (Nat.le_of_ble_eq_true rfl)⟩, jm_tb (List.mem_of_getElem? (i := 266) (by decide +kernel)) rfl⟩
def m_J9_min_7cf53 : jm_Y := (yJ9_min_7cf53, cJ9_min_7cf53, 2, some .int)
theorem w_J9_min_7cf53 : jm_wS m_J9_min_7cf53 2 := ⟨⟨jm_tb (List.mem_of_getElem? (i := 565) (by decide +kernel)) rfl, jm_tb (List.mem_of_getElem? (i := 105) (by decide +kernel)) rfl, ⟨by decide +kernel, by decide +kernel, by decide +kernel⟩, (Nat.le_of_ble_eq_true rfl)⟩, jm_tb (List.mem_of_getElem? (i := 564) (by decide +kernel)) rfl⟩
def m_L_kind : jm_Y := (yL_kind, cL_kind, 5, some .int)
def m_L_word : jm_Y := (yL_word, cL_word, 5, some .int)
theorem l_L_18 : Cond.methodLink RL 18 yX10_init ∈ jm_tbl := jm_tb (List.mem_of_getElem? (i := 121) (by decide +kernel)) rfl
theorem l_X10_1 : Cond.methodLink RX10 1 Lib.objectInit ∈ jm_tbl := jm_tb (List.mem_of_getElem? (i := 124) (by decide +kernel)) rfl
theorem l_X7_3 : Cond.methodLink RX7 3 Lib.objectInit ∈ jm_tbl := jm_tb (List.mem_of_getElem? (i := 132) (by decide +kernel)) rfl
theorem l_X10_18 : Cond.methodLink RX10 18 yX5_init ∈ jm_tbl := jm_tb (List.mem_of_getElem? (i := 187) (by decide +kernel)) rfl
theorem l_X5_3 : Cond.methodLink RX5 3 Lib.objectInit ∈ jm_tbl := jm_tb (List.mem_of_getElem? (i := 190) (by decide +kernel)) rfl
theorem l_X10_28 : Cond.methodLink RX10 28 yX6_init ∈ jm_tbl := jm_tb (List.mem_of_getElem? (i := 261) (by decide +kernel)) rfl
theorem l_X6_3 : Cond.methodLink RX6 3 Lib.objectInit ∈ jm_tbl := jm_tb (List.mem_of_getElem? (i := 264) (by decide +kernel)) rfl
theorem l_X6_9 : Cond.methodLink RX6 9 yJ9_max_7cf53 ∈ jm_tbl := jm_tb (List.mem_of_getElem? (i := 265) (by decide +kernel)) rfl
theorem l_X6_17 : Cond.methodLink RX6 17 yX5_init ∈ jm_tbl := jm_tb (List.mem_of_getElem? (i := 269) (by decide +kernel)) rfl
theorem l_X1_3 : Cond.methodLink RX1 3 Lib.objectInit ∈ jm_tbl := jm_tb (List.mem_of_getElem? (i := 313) (by decide +kernel)) rfl
theorem l_X4_3 : Cond.methodLink RX4 3 Lib.objectInit ∈ jm_tbl := jm_tb (List.mem_of_getElem? (i := 336) (by decide +kernel)) rfl
theorem l_X0_1 : Cond.methodLink RX0 1 Lib.objectInit ∈ jm_tbl := jm_tb (List.mem_of_getElem? (i := 360) (by decide +kernel)) rfl
theorem l_X0_9 : Cond.methodLink RX0 9 yX5_init ∈ jm_tbl := jm_tb (List.mem_of_getElem? (i := 362) (by decide +kernel)) rfl
theorem l_X3_3 : Cond.methodLink RX3 3 Lib.objectInit ∈ jm_tbl := jm_tb (List.mem_of_getElem? (i := 396) (by decide +kernel)) rfl
theorem l_X9_3 : Cond.methodLink RX9 3 Lib.objectInit ∈ jm_tbl := jm_tb (List.mem_of_getElem? (i := 424) (by decide +kernel)) rfl
theorem l_X2_3 : Cond.methodLink RX2 3 Lib.objectInit ∈ jm_tbl := jm_tb (List.mem_of_getElem? (i := 461) (by decide +kernel)) rfl
theorem l_L_22 : Cond.methodLink RL 22 yX10_feed ∈ jm_tbl := jm_tb (List.mem_of_getElem? (i := 531) (by decide +kernel)) rfl
theorem l_X10_96 : Cond.methodLink RX10 96 yX7_put ∈ jm_tbl := jm_tb (List.mem_of_getElem? (i := 535) (by decide +kernel)) rfl
theorem l_L_27 : Cond.methodLink RL 27 yX10_end ∈ jm_tbl := jm_tb (List.mem_of_getElem? (i := 539) (by decide +kernel)) rfl
theorem l_L_32 : Cond.methodLink RL 32 yX10_table ∈ jm_tbl := jm_tb (List.mem_of_getElem? (i := 543) (by decide +kernel)) rfl
theorem l_X10_99 : Cond.methodLink RX10 99 yX5_read ∈ jm_tbl := jm_tb (List.mem_of_getElem? (i := 547) (by decide +kernel)) rfl
theorem l_X5_83 : Cond.methodLink RX5 83 yX5_clear ∈ jm_tbl := jm_tb (List.mem_of_getElem? (i := 551) (by decide +kernel)) rfl
theorem l_X5_86 : Cond.methodLink RX5 86 yX7_open ∈ jm_tbl := jm_tb (List.mem_of_getElem? (i := 555) (by decide +kernel)) rfl
theorem l_X7_40 : Cond.methodLink RX7 40 yX7_advance ∈ jm_tbl := jm_tb (List.mem_of_getElem? (i := 559) (by decide +kernel)) rfl
theorem l_X7_43 : Cond.methodLink RX7 43 yJ9_min_7cf53 ∈ jm_tbl := jm_tb (List.mem_of_getElem? (i := 563) (by decide +kernel)) rfl
theorem l_X7_55 : Cond.methodLink RX7 55 yX7_isLetter ∈ jm_tbl := jm_tb (List.mem_of_getElem? (i := 566) (by decide +kernel)) rfl
theorem l_X7_59 : Cond.methodLink RX7 59 yX7_isDigit ∈ jm_tbl := jm_tb (List.mem_of_getElem? (i := 569) (by decide +kernel)) rfl
theorem l_X7_62 : Cond.methodLink RX7 62 yX7_readRun ∈ jm_tbl := jm_tb (List.mem_of_getElem? (i := 572) (by decide +kernel)) rfl
theorem l_X7_72 : Cond.methodLink RX7 72 yX8_withLetter ∈ jm_tbl := jm_tb (List.mem_of_getElem? (i := 576) (by decide +kernel)) rfl
theorem l_X7_76 : Cond.methodLink RX7 76 yX7_termOf ∈ jm_tbl := jm_tb (List.mem_of_getElem? (i := 580) (by decide +kernel)) rfl
theorem l_X5_95 : Cond.methodLink RX5 95 yX5_readLine ∈ jm_tbl := jm_tb (List.mem_of_getElem? (i := 585) (by decide +kernel)) rfl
theorem l_X5_113 : Cond.methodLink RX5 113 yX7_isTerm ∈ jm_tbl := jm_tb (List.mem_of_getElem? (i := 591) (by decide +kernel)) rfl
theorem l_X5_117 : Cond.methodLink RX5 117 yX5_readWho ∈ jm_tbl := jm_tb (List.mem_of_getElem? (i := 595) (by decide +kernel)) rfl
theorem l_X5_144 : Cond.methodLink RX5 144 yX7_fails ∈ jm_tbl := jm_tb (List.mem_of_getElem? (i := 599) (by decide +kernel)) rfl
theorem l_X5_148 : Cond.methodLink RX5 148 yX7_advance ∈ jm_tbl := jm_tb (List.mem_of_getElem? (i := 603) (by decide +kernel)) rfl
theorem l_X5_168 : Cond.methodLink RX5 168 yX5_isNewName ∈ jm_tbl := jm_tb (List.mem_of_getElem? (i := 604) (by decide +kernel)) rfl
theorem l_X5_154 : Cond.methodLink RX5 154 yX7_isName ∈ jm_tbl := jm_tb (List.mem_of_getElem? (i := 608) (by decide +kernel)) rfl
theorem l_X5_161 : Cond.methodLink RX5 161 yX5_whoNamed ∈ jm_tbl := jm_tb (List.mem_of_getElem? (i := 612) (by decide +kernel)) rfl
theorem l_X5_165 : Cond.methodLink RX5 165 yX5_kindNamed ∈ jm_tbl := jm_tb (List.mem_of_getElem? (i := 616) (by decide +kernel)) rfl
theorem l_X5_171 : Cond.methodLink RX5 171 yX7_isNumber ∈ jm_tbl := jm_tb (List.mem_of_getElem? (i := 620) (by decide +kernel)) rfl
theorem l_X7_89 : Cond.methodLink RX7 89 yX7_fails ∈ jm_tbl := jm_tb (List.mem_of_getElem? (i := 624) (by decide +kernel)) rfl
theorem l_X5_123 : Cond.methodLink RX5 123 yX5_readKind ∈ jm_tbl := jm_tb (List.mem_of_getElem? (i := 627) (by decide +kernel)) rfl
theorem l_X5_129 : Cond.methodLink RX5 129 yX5_readMay ∈ jm_tbl := jm_tb (List.mem_of_getElem? (i := 637) (by decide +kernel)) rfl
theorem l_X5_188 : Cond.methodLink RX5 188 yX7_kindHere ∈ jm_tbl := jm_tb (List.mem_of_getElem? (i := 641) (by decide +kernel)) rfl
theorem l_X7_93 : Cond.methodLink RX7 93 yX7_isName ∈ jm_tbl := jm_tb (List.mem_of_getElem? (i := 645) (by decide +kernel)) rfl
theorem l_X7_103 : Cond.methodLink RX7 103 yX5_kindNamed ∈ jm_tbl := jm_tb (List.mem_of_getElem? (i := 646) (by decide +kernel)) rfl
theorem l_X5_69 : Cond.methodLink RX5 69 yX5_hasKind ∈ jm_tbl := jm_tb (List.mem_of_getElem? (i := 647) (by decide +kernel)) rfl
theorem l_X5_192 : Cond.methodLink RX5 192 yX5_mayAnswer ∈ jm_tbl := jm_tb (List.mem_of_getElem? (i := 651) (by decide +kernel)) rfl
theorem l_X5_135 : Cond.methodLink RX5 135 yX5_readComb ∈ jm_tbl := jm_tb (List.mem_of_getElem? (i := 657) (by decide +kernel)) rfl
theorem l_X5_99 : Cond.methodLink RX5 99 yX7_takes ∈ jm_tbl := jm_tb (List.mem_of_getElem? (i := 665) (by decide +kernel)) rfl
theorem l_X7_85 : Cond.methodLink RX7 85 yX7_isSign ∈ jm_tbl := jm_tb (List.mem_of_getElem? (i := 669) (by decide +kernel)) rfl
theorem l_X5_103 : Cond.methodLink RX5 103 yX7_closes ∈ jm_tbl := jm_tb (List.mem_of_getElem? (i := 673) (by decide +kernel)) rfl
theorem l_X10_103 : Cond.methodLink RX10 103 yX5_copy ∈ jm_tbl := jm_tb (List.mem_of_getElem? (i := 677) (by decide +kernel)) rfl
theorem l_X5_63 : Cond.methodLink RX5 63 arraycopyName ∈ jm_tbl := jm_tb (List.mem_of_getElem? (i := 681) (by decide +kernel)) rfl
theorem l_X10_107 : Cond.methodLink RX10 107 yX6_begin ∈ jm_tbl := jm_tb (List.mem_of_getElem? (i := 684) (by decide +kernel)) rfl
theorem l_X10_110 : Cond.methodLink RX10 110 yX1_clear ∈ jm_tbl := jm_tb (List.mem_of_getElem? (i := 688) (by decide +kernel)) rfl
theorem l_X10_113 : Cond.methodLink RX10 113 yX4_clear ∈ jm_tbl := jm_tb (List.mem_of_getElem? (i := 692) (by decide +kernel)) rfl
theorem l_X10_117 : Cond.methodLink RX10 117 yX10_afterReading ∈ jm_tbl := jm_tb (List.mem_of_getElem? (i := 696) (by decide +kernel)) rfl
theorem l_L_37 : Cond.methodLink RL 37 yX10_fault ∈ jm_tbl := jm_tb (List.mem_of_getElem? (i := 700) (by decide +kernel)) rfl
theorem l_L_41 : Cond.methodLink RL 41 yX10_rank ∈ jm_tbl := jm_tb (List.mem_of_getElem? (i := 704) (by decide +kernel)) rfl
theorem l_X10_124 : Cond.methodLink RX10 124 yX5_hasWho ∈ jm_tbl := jm_tb (List.mem_of_getElem? (i := 708) (by decide +kernel)) rfl
theorem l_L_55 : Cond.methodLink RL 55 yX10_say ∈ jm_tbl := jm_tb (List.mem_of_getElem? (i := 712) (by decide +kernel)) rfl
theorem l_X10_142 : Cond.methodLink RX10 142 yX6_flaw ∈ jm_tbl := jm_tb (List.mem_of_getElem? (i := 716) (by decide +kernel)) rfl
theorem l_X6_73 : Cond.methodLink RX6 73 yX5_hasWho ∈ jm_tbl := jm_tb (List.mem_of_getElem? (i := 720) (by decide +kernel)) rfl
theorem l_X6_76 : Cond.methodLink RX6 76 yX5_hasKind ∈ jm_tbl := jm_tb (List.mem_of_getElem? (i := 721) (by decide +kernel)) rfl
theorem l_X6_79 : Cond.methodLink RX6 79 yX6_repeats ∈ jm_tbl := jm_tb (List.mem_of_getElem? (i := 722) (by decide +kernel)) rfl
theorem l_X6_82 : Cond.methodLink RX6 82 yX6_heardBy ∈ jm_tbl := jm_tb (List.mem_of_getElem? (i := 726) (by decide +kernel)) rfl
theorem l_X6_58 : Cond.methodLink RX6 58 yX5_reach ∈ jm_tbl := jm_tb (List.mem_of_getElem? (i := 730) (by decide +kernel)) rfl
theorem l_X6_61 : Cond.methodLink RX6 61 yX6_has ∈ jm_tbl := jm_tb (List.mem_of_getElem? (i := 734) (by decide +kernel)) rfl
theorem l_X6_65 : Cond.methodLink RX6 65 yX5_openingOf ∈ jm_tbl := jm_tb (List.mem_of_getElem? (i := 738) (by decide +kernel)) rfl
theorem l_X6_85 : Cond.methodLink RX6 85 yX5_doingOf ∈ jm_tbl := jm_tb (List.mem_of_getElem? (i := 742) (by decide +kernel)) rfl
theorem l_X6_88 : Cond.methodLink RX6 88 yX5_mayAnswer ∈ jm_tbl := jm_tb (List.mem_of_getElem? (i := 746) (by decide +kernel)) rfl
theorem l_X6_92 : Cond.methodLink RX6 92 yX6_dueOf ∈ jm_tbl := jm_tb (List.mem_of_getElem? (i := 747) (by decide +kernel)) rfl
theorem l_X6_118 : Cond.methodLink RX6 118 yX5_spanOf ∈ jm_tbl := jm_tb (List.mem_of_getElem? (i := 751) (by decide +kernel)) rfl
theorem l_X6_95 : Cond.methodLink RX6 95 yX6_promisee ∈ jm_tbl := jm_tb (List.mem_of_getElem? (i := 755) (by decide +kernel)) rfl
theorem l_X10_145 : Cond.methodLink RX10 145 yX6_add ∈ jm_tbl := jm_tb (List.mem_of_getElem? (i := 759) (by decide +kernel)) rfl
theorem l_L_59 : Cond.methodLink RL 59 yX10_wrong ∈ jm_tbl := jm_tb (List.mem_of_getElem? (i := 763) (by decide +kernel)) rfl
theorem l_L_63 : Cond.methodLink RL 63 yX10_may ∈ jm_tbl := jm_tb (List.mem_of_getElem? (i := 767) (by decide +kernel)) rfl
theorem l_X10_149 : Cond.methodLink RX10 149 yX6_choices ∈ jm_tbl := jm_tb (List.mem_of_getElem? (i := 771) (by decide +kernel)) rfl
theorem l_X6_101 : Cond.methodLink RX6 101 yX6_flaw ∈ jm_tbl := jm_tb (List.mem_of_getElem? (i := 775) (by decide +kernel)) rfl
theorem l_L_67 : Cond.methodLink RL 67 yX10_undo ∈ jm_tbl := jm_tb (List.mem_of_getElem? (i := 776) (by decide +kernel)) rfl
theorem l_X10_156 : Cond.methodLink RX10 156 yX6_takeBack ∈ jm_tbl := jm_tb (List.mem_of_getElem? (i := 780) (by decide +kernel)) rfl
theorem l_L_71 : Cond.methodLink RL 71 yX10_talk ∈ jm_tbl := jm_tb (List.mem_of_getElem? (i := 784) (by decide +kernel)) rfl
theorem l_X10_159 : Cond.methodLink RX10 159 yX6_read ∈ jm_tbl := jm_tb (List.mem_of_getElem? (i := 788) (by decide +kernel)) rfl
theorem l_X6_50 : Cond.methodLink RX6 50 yX6_begin ∈ jm_tbl := jm_tb (List.mem_of_getElem? (i := 792) (by decide +kernel)) rfl
theorem l_X6_124 : Cond.methodLink RX6 124 yX7_open ∈ jm_tbl := jm_tb (List.mem_of_getElem? (i := 793) (by decide +kernel)) rfl
theorem l_X6_133 : Cond.methodLink RX6 133 yX6_readWord ∈ jm_tbl := jm_tb (List.mem_of_getElem? (i := 794) (by decide +kernel)) rfl
theorem l_X6_148 : Cond.methodLink RX6 148 yX7_whoHere ∈ jm_tbl := jm_tb (List.mem_of_getElem? (i := 798) (by decide +kernel)) rfl
theorem l_X7_97 : Cond.methodLink RX7 97 yX5_whoNamed ∈ jm_tbl := jm_tb (List.mem_of_getElem? (i := 802) (by decide +kernel)) rfl
theorem l_X6_152 : Cond.methodLink RX6 152 yX7_fails ∈ jm_tbl := jm_tb (List.mem_of_getElem? (i := 803) (by decide +kernel)) rfl
theorem l_X6_155 : Cond.methodLink RX6 155 yX7_advance ∈ jm_tbl := jm_tb (List.mem_of_getElem? (i := 804) (by decide +kernel)) rfl
theorem l_X6_158 : Cond.methodLink RX6 158 yX7_kindHere ∈ jm_tbl := jm_tb (List.mem_of_getElem? (i := 805) (by decide +kernel)) rfl
theorem l_X6_54 : Cond.methodLink RX6 54 yX6_add ∈ jm_tbl := jm_tb (List.mem_of_getElem? (i := 806) (by decide +kernel)) rfl
theorem l_X6_137 : Cond.methodLink RX6 137 yX7_takes ∈ jm_tbl := jm_tb (List.mem_of_getElem? (i := 807) (by decide +kernel)) rfl
theorem l_X6_141 : Cond.methodLink RX6 141 yX7_closes ∈ jm_tbl := jm_tb (List.mem_of_getElem? (i := 808) (by decide +kernel)) rfl
theorem l_X10_162 : Cond.methodLink RX10 162 yX6_copy ∈ jm_tbl := jm_tb (List.mem_of_getElem? (i := 809) (by decide +kernel)) rfl
theorem l_L_75 : Cond.methodLink RL 75 yX10_why ∈ jm_tbl := jm_tb (List.mem_of_getElem? (i := 813) (by decide +kernel)) rfl
theorem l_L_82 : Cond.methodLink RL 82 yX10_threads ∈ jm_tbl := jm_tb (List.mem_of_getElem? (i := 817) (by decide +kernel)) rfl
theorem l_L_86 : Cond.methodLink RL 86 yX10_thread ∈ jm_tbl := jm_tb (List.mem_of_getElem? (i := 821) (by decide +kernel)) rfl
theorem l_X10_171 : Cond.methodLink RX10 171 yX6_tell ∈ jm_tbl := jm_tb (List.mem_of_getElem? (i := 825) (by decide +kernel)) rfl
theorem l_X6_115 : Cond.methodLink RX6 115 yX6_stateOf ∈ jm_tbl := jm_tb (List.mem_of_getElem? (i := 829) (by decide +kernel)) rfl
theorem l_L_90 : Cond.methodLink RL 90 yX10_with ∈ jm_tbl := jm_tb (List.mem_of_getElem? (i := 833) (by decide +kernel)) rfl
theorem l_X10_175 : Cond.methodLink RX10 175 yX6_stateOf ∈ jm_tbl := jm_tb (List.mem_of_getElem? (i := 837) (by decide +kernel)) rfl
theorem l_L_94 : Cond.methodLink RL 94 yX10_promised ∈ jm_tbl := jm_tb (List.mem_of_getElem? (i := 838) (by decide +kernel)) rfl
theorem l_X10_178 : Cond.methodLink RX10 178 yX6_promisee ∈ jm_tbl := jm_tb (List.mem_of_getElem? (i := 842) (by decide +kernel)) rfl
theorem l_L_99 : Cond.methodLink RL 99 yX10_minutes ∈ jm_tbl := jm_tb (List.mem_of_getElem? (i := 843) (by decide +kernel)) rfl
theorem l_X10_181 : Cond.methodLink RX10 181 yX1_read ∈ jm_tbl := jm_tb (List.mem_of_getElem? (i := 847) (by decide +kernel)) rfl
theorem l_X1_39 : Cond.methodLink RX1 39 yX1_clear ∈ jm_tbl := jm_tb (List.mem_of_getElem? (i := 851) (by decide +kernel)) rfl
theorem l_X1_42 : Cond.methodLink RX1 42 yX7_open ∈ jm_tbl := jm_tb (List.mem_of_getElem? (i := 852) (by decide +kernel)) rfl
theorem l_X1_51 : Cond.methodLink RX1 51 yX1_readWord ∈ jm_tbl := jm_tb (List.mem_of_getElem? (i := 853) (by decide +kernel)) rfl
theorem l_X1_72 : Cond.methodLink RX1 72 yX7_isTerm ∈ jm_tbl := jm_tb (List.mem_of_getElem? (i := 859) (by decide +kernel)) rfl
theorem l_X1_76 : Cond.methodLink RX1 76 yX7_whoHere ∈ jm_tbl := jm_tb (List.mem_of_getElem? (i := 860) (by decide +kernel)) rfl
theorem l_X1_80 : Cond.methodLink RX1 80 yX1_tears ∈ jm_tbl := jm_tb (List.mem_of_getElem? (i := 861) (by decide +kernel)) rfl
theorem l_X1_83 : Cond.methodLink RX1 83 yX7_fails ∈ jm_tbl := jm_tb (List.mem_of_getElem? (i := 865) (by decide +kernel)) rfl
theorem l_X1_87 : Cond.methodLink RX1 87 yX7_advance ∈ jm_tbl := jm_tb (List.mem_of_getElem? (i := 866) (by decide +kernel)) rfl
theorem l_X1_90 : Cond.methodLink RX1 90 yX7_kindHere ∈ jm_tbl := jm_tb (List.mem_of_getElem? (i := 867) (by decide +kernel)) rfl
theorem l_X1_55 : Cond.methodLink RX1 55 yX7_takes ∈ jm_tbl := jm_tb (List.mem_of_getElem? (i := 868) (by decide +kernel)) rfl
theorem l_X1_59 : Cond.methodLink RX1 59 yX7_closes ∈ jm_tbl := jm_tb (List.mem_of_getElem? (i := 869) (by decide +kernel)) rfl
theorem l_X10_182 : Cond.methodLink RX10 182 yX1_copy ∈ jm_tbl := jm_tb (List.mem_of_getElem? (i := 870) (by decide +kernel)) rfl
theorem l_X1_25 : Cond.methodLink RX1 25 arraycopyName ∈ jm_tbl := jm_tb (List.mem_of_getElem? (i := 874) (by decide +kernel)) rfl
theorem l_L_103 : Cond.methodLink RL 103 yX10_wholes ∈ jm_tbl := jm_tb (List.mem_of_getElem? (i := 875) (by decide +kernel)) rfl
theorem l_X10_186 : Cond.methodLink RX10 186 yX1_ways ∈ jm_tbl := jm_tb (List.mem_of_getElem? (i := 879) (by decide +kernel)) rfl
theorem l_X10_192 : Cond.methodLink RX10 192 yX9_all ∈ jm_tbl := jm_tb (List.mem_of_getElem? (i := 884) (by decide +kernel)) rfl
theorem l_X9_29 : Cond.methodLink RX9 29 yX9_start ∈ jm_tbl := jm_tb (List.mem_of_getElem? (i := 888) (by decide +kernel)) rfl
theorem l_X9_37 : Cond.methodLink RX9 37 yX9_take ∈ jm_tbl := jm_tb (List.mem_of_getElem? (i := 893) (by decide +kernel)) rfl
theorem l_X9_56 : Cond.methodLink RX9 56 yX1_whoAt ∈ jm_tbl := jm_tb (List.mem_of_getElem? (i := 897) (by decide +kernel)) rfl
theorem l_X9_60 : Cond.methodLink RX9 60 yX1_kindAt ∈ jm_tbl := jm_tb (List.mem_of_getElem? (i := 901) (by decide +kernel)) rfl
theorem l_X9_41 : Cond.methodLink RX9 41 yX9_exchange ∈ jm_tbl := jm_tb (List.mem_of_getElem? (i := 905) (by decide +kernel)) rfl
theorem l_X9_45 : Cond.methodLink RX9 45 yX9_fill ∈ jm_tbl := jm_tb (List.mem_of_getElem? (i := 909) (by decide +kernel)) rfl
theorem l_X9_75 : Cond.methodLink RX9 75 yX9_markStates ∈ jm_tbl := jm_tb (List.mem_of_getElem? (i := 913) (by decide +kernel)) rfl
theorem l_X9_105 : Cond.methodLink RX9 105 yX6_stateOf ∈ jm_tbl := jm_tb (List.mem_of_getElem? (i := 917) (by decide +kernel)) rfl
theorem l_X9_93 : Cond.methodLink RX9 93 yX6_flaw ∈ jm_tbl := jm_tb (List.mem_of_getElem? (i := 918) (by decide +kernel)) rfl
theorem l_X9_97 : Cond.methodLink RX9 97 yX6_add ∈ jm_tbl := jm_tb (List.mem_of_getElem? (i := 919) (by decide +kernel)) rfl
theorem l_X9_101 : Cond.methodLink RX9 101 yX6_takeBack ∈ jm_tbl := jm_tb (List.mem_of_getElem? (i := 920) (by decide +kernel)) rfl
theorem l_L_107 : Cond.methodLink RL 107 yX10_sure ∈ jm_tbl := jm_tb (List.mem_of_getElem? (i := 921) (by decide +kernel)) rfl
theorem l_X10_196 : Cond.methodLink RX10 196 yX9_sureOf ∈ jm_tbl := jm_tb (List.mem_of_getElem? (i := 925) (by decide +kernel)) rfl
theorem l_L_111 : Cond.methodLink RL 111 yX10_hangs ∈ jm_tbl := jm_tb (List.mem_of_getElem? (i := 929) (by decide +kernel)) rfl
theorem l_X10_207 : Cond.methodLink RX10 207 yX9_hanging ∈ jm_tbl := jm_tb (List.mem_of_getElem? (i := 934) (by decide +kernel)) rfl
theorem l_X9_63 : Cond.methodLink RX9 63 yX9_looser ∈ jm_tbl := jm_tb (List.mem_of_getElem? (i := 938) (by decide +kernel)) rfl
theorem l_L_115 : Cond.methodLink RL 115 yX10_mend ∈ jm_tbl := jm_tb (List.mem_of_getElem? (i := 942) (by decide +kernel)) rfl
theorem l_X10_214 : Cond.methodLink RX10 214 yX2_leaveOut ∈ jm_tbl := jm_tb (List.mem_of_getElem? (i := 946) (by decide +kernel)) rfl
theorem l_X2_28 : Cond.methodLink RX2 28 yX2_mendFrom ∈ jm_tbl := jm_tb (List.mem_of_getElem? (i := 950) (by decide +kernel)) rfl
theorem l_X2_37 : Cond.methodLink RX2 37 yX1_whoAt ∈ jm_tbl := jm_tb (List.mem_of_getElem? (i := 954) (by decide +kernel)) rfl
theorem l_X2_41 : Cond.methodLink RX2 41 yX1_kindAt ∈ jm_tbl := jm_tb (List.mem_of_getElem? (i := 955) (by decide +kernel)) rfl
theorem l_X2_44 : Cond.methodLink RX2 44 yX6_flaw ∈ jm_tbl := jm_tb (List.mem_of_getElem? (i := 956) (by decide +kernel)) rfl
theorem l_X2_50 : Cond.methodLink RX2 50 yX6_add ∈ jm_tbl := jm_tb (List.mem_of_getElem? (i := 957) (by decide +kernel)) rfl
theorem l_X2_54 : Cond.methodLink RX2 54 yX6_takeBack ∈ jm_tbl := jm_tb (List.mem_of_getElem? (i := 958) (by decide +kernel)) rfl
theorem l_L_119 : Cond.methodLink RL 119 yX10_mended ∈ jm_tbl := jm_tb (List.mem_of_getElem? (i := 959) (by decide +kernel)) rfl
theorem l_L_123 : Cond.methodLink RL 123 yX10_orders ∈ jm_tbl := jm_tb (List.mem_of_getElem? (i := 963) (by decide +kernel)) rfl
theorem l_X10_220 : Cond.methodLink RX10 220 yX2_arrange ∈ jm_tbl := jm_tb (List.mem_of_getElem? (i := 967) (by decide +kernel)) rfl
theorem l_X2_60 : Cond.methodLink RX2 60 yX2_orderFrom ∈ jm_tbl := jm_tb (List.mem_of_getElem? (i := 971) (by decide +kernel)) rfl
theorem l_X2_64 : Cond.methodLink RX2 64 arraycopyName ∈ jm_tbl := jm_tb (List.mem_of_getElem? (i := 975) (by decide +kernel)) rfl
theorem l_L_127 : Cond.methodLink RL 127 yX10_orderAt ∈ jm_tbl := jm_tb (List.mem_of_getElem? (i := 976) (by decide +kernel)) rfl
theorem l_X10_223 : Cond.methodLink RX10 223 yX2_placeAt ∈ jm_tbl := jm_tb (List.mem_of_getElem? (i := 980) (by decide +kernel)) rfl
theorem l_L_131 : Cond.methodLink RL 131 yX10_drawn ∈ jm_tbl := jm_tb (List.mem_of_getElem? (i := 984) (by decide +kernel)) rfl
theorem l_X10_226 : Cond.methodLink RX10 226 yX6_nextOnes ∈ jm_tbl := jm_tb (List.mem_of_getElem? (i := 988) (by decide +kernel)) rfl
theorem l_X6_107 : Cond.methodLink RX6 107 yX6_choices ∈ jm_tbl := jm_tb (List.mem_of_getElem? (i := 992) (by decide +kernel)) rfl
theorem l_X6_110 : Cond.methodLink RX6 110 yJ6_bitCount_0f7a4 ∈ jm_tbl := jm_tb (List.mem_of_getElem? (i := 993) (by decide +kernel)) rfl
theorem l_X10_231 : Cond.methodLink RX10 231 yX6_addNext ∈ jm_tbl := jm_tb (List.mem_of_getElem? (i := 1000) (by decide +kernel)) rfl
theorem l_L_135 : Cond.methodLink RL 135 yX10_spoke ∈ jm_tbl := jm_tb (List.mem_of_getElem? (i := 1004) (by decide +kernel)) rfl
theorem l_X10_132 : Cond.methodLink RX10 132 yX5_hasKind ∈ jm_tbl := jm_tb (List.mem_of_getElem? (i := 1008) (by decide +kernel)) rfl
theorem l_L_139 : Cond.methodLink RL 139 yX10_road ∈ jm_tbl := jm_tb (List.mem_of_getElem? (i := 1009) (by decide +kernel)) rfl
theorem l_X10_234 : Cond.methodLink RX10 234 yX10_roadLength ∈ jm_tbl := jm_tb (List.mem_of_getElem? (i := 1013) (by decide +kernel)) rfl
theorem l_X10_241 : Cond.methodLink RX10 241 yX10_isState ∈ jm_tbl := jm_tb (List.mem_of_getElem? (i := 1017) (by decide +kernel)) rfl
theorem l_X10_244 : Cond.methodLink RX10 244 yX3_tooMany ∈ jm_tbl := jm_tb (List.mem_of_getElem? (i := 1020) (by decide +kernel)) rfl
theorem l_X10_248 : Cond.methodLink RX10 248 yX3_aim ∈ jm_tbl := jm_tb (List.mem_of_getElem? (i := 1024) (by decide +kernel)) rfl
theorem l_X10_310 : Cond.methodLink RX10 310 yX3_roadWithout ∈ jm_tbl := jm_tb (List.mem_of_getElem? (i := 1028) (by decide +kernel)) rfl
theorem l_X3_39 : Cond.methodLink RX3 39 yX3_leads ∈ jm_tbl := jm_tb (List.mem_of_getElem? (i := 1032) (by decide +kernel)) rfl
theorem l_X3_43 : Cond.methodLink RX3 43 yX6_isSo ∈ jm_tbl := jm_tb (List.mem_of_getElem? (i := 1036) (by decide +kernel)) rfl
theorem l_X3_49 : Cond.methodLink RX3 49 yX6_mayCome ∈ jm_tbl := jm_tb (List.mem_of_getElem? (i := 1040) (by decide +kernel)) rfl
theorem l_X3_62 : Cond.methodLink RX3 62 yX6_choices ∈ jm_tbl := jm_tb (List.mem_of_getElem? (i := 1044) (by decide +kernel)) rfl
theorem l_X3_69 : Cond.methodLink RX3 69 yX6_add ∈ jm_tbl := jm_tb (List.mem_of_getElem? (i := 1045) (by decide +kernel)) rfl
theorem l_X3_73 : Cond.methodLink RX3 73 yX6_takeBack ∈ jm_tbl := jm_tb (List.mem_of_getElem? (i := 1046) (by decide +kernel)) rfl
theorem l_X10_238 : Cond.methodLink RX10 238 yX3_keepFound ∈ jm_tbl := jm_tb (List.mem_of_getElem? (i := 1047) (by decide +kernel)) rfl
theorem l_X3_20 : Cond.methodLink RX3 20 arraycopyName ∈ jm_tbl := jm_tb (List.mem_of_getElem? (i := 1051) (by decide +kernel)) rfl
theorem l_L_143 : Cond.methodLink RL 143 yX10_without ∈ jm_tbl := jm_tb (List.mem_of_getElem? (i := 1052) (by decide +kernel)) rfl
theorem l_L_148 : Cond.methodLink RL 148 yX10_game ∈ jm_tbl := jm_tb (List.mem_of_getElem? (i := 1056) (by decide +kernel)) rfl
theorem l_X10_168 : Cond.methodLink RX10 168 yX6_has ∈ jm_tbl := jm_tb (List.mem_of_getElem? (i := 1060) (by decide +kernel)) rfl
theorem l_X10_251 : Cond.methodLink RX10 251 yX3_forcedBy ∈ jm_tbl := jm_tb (List.mem_of_getElem? (i := 1061) (by decide +kernel)) rfl
theorem l_X3_79 : Cond.methodLink RX3 79 yX3_forces ∈ jm_tbl := jm_tb (List.mem_of_getElem? (i := 1065) (by decide +kernel)) rfl
theorem l_L_152 : Cond.methodLink RL 152 yX10_found ∈ jm_tbl := jm_tb (List.mem_of_getElem? (i := 1069) (by decide +kernel)) rfl
theorem l_X10_255 : Cond.methodLink RX10 255 yX3_foundAt ∈ jm_tbl := jm_tb (List.mem_of_getElem? (i := 1073) (by decide +kernel)) rfl
theorem l_L_156 : Cond.methodLink RL 156 yX10_unlike ∈ jm_tbl := jm_tb (List.mem_of_getElem? (i := 1077) (by decide +kernel)) rfl
theorem l_X10_258 : Cond.methodLink RX10 258 yX10_imageAt ∈ jm_tbl := jm_tb (List.mem_of_getElem? (i := 1081) (by decide +kernel)) rfl
theorem l_X10_267 : Cond.methodLink RX10 267 yJ9_max_7cf53 ∈ jm_tbl := jm_tb (List.mem_of_getElem? (i := 1085) (by decide +kernel)) rfl
theorem l_X10_272 : Cond.methodLink RX10 272 yX3_difference ∈ jm_tbl := jm_tb (List.mem_of_getElem? (i := 1086) (by decide +kernel)) rfl
theorem l_X3_83 : Cond.methodLink RX3 83 yX3_differs ∈ jm_tbl := jm_tb (List.mem_of_getElem? (i := 1090) (by decide +kernel)) rfl
theorem l_X3_87 : Cond.methodLink RX3 87 yJ9_max_7cf53 ∈ jm_tbl := jm_tb (List.mem_of_getElem? (i := 1094) (by decide +kernel)) rfl
theorem l_X3_93 : Cond.methodLink RX3 93 yX6_flaw ∈ jm_tbl := jm_tb (List.mem_of_getElem? (i := 1095) (by decide +kernel)) rfl
theorem l_L_160 : Cond.methodLink RL 160 yX10_sentence ∈ jm_tbl := jm_tb (List.mem_of_getElem? (i := 1096) (by decide +kernel)) rfl
theorem l_X10_276 : Cond.methodLink RX10 276 yX4_read ∈ jm_tbl := jm_tb (List.mem_of_getElem? (i := 1100) (by decide +kernel)) rfl
theorem l_X4_52 : Cond.methodLink RX4 52 yX4_clear ∈ jm_tbl := jm_tb (List.mem_of_getElem? (i := 1104) (by decide +kernel)) rfl
theorem l_X4_55 : Cond.methodLink RX4 55 yX7_open ∈ jm_tbl := jm_tb (List.mem_of_getElem? (i := 1105) (by decide +kernel)) rfl
theorem l_X4_61 : Cond.methodLink RX4 61 yX4_readCond ∈ jm_tbl := jm_tb (List.mem_of_getElem? (i := 1106) (by decide +kernel)) rfl
theorem l_X4_69 : Cond.methodLink RX4 69 yX4_readOne ∈ jm_tbl := jm_tb (List.mem_of_getElem? (i := 1110) (by decide +kernel)) rfl
theorem l_X4_92 : Cond.methodLink RX4 92 yX7_isSign ∈ jm_tbl := jm_tb (List.mem_of_getElem? (i := 1114) (by decide +kernel)) rfl
theorem l_X4_96 : Cond.methodLink RX4 96 yX4_stepHere ∈ jm_tbl := jm_tb (List.mem_of_getElem? (i := 1115) (by decide +kernel)) rfl
theorem l_X4_78 : Cond.methodLink RX4 78 yX7_isTerm ∈ jm_tbl := jm_tb (List.mem_of_getElem? (i := 1120) (by decide +kernel)) rfl
theorem l_X4_103 : Cond.methodLink RX4 103 yX7_fails ∈ jm_tbl := jm_tb (List.mem_of_getElem? (i := 1135) (by decide +kernel)) rfl
theorem l_X4_89 : Cond.methodLink RX4 89 yX7_advance ∈ jm_tbl := jm_tb (List.mem_of_getElem? (i := 1136) (by decide +kernel)) rfl
theorem l_X4_107 : Cond.methodLink RX4 107 yX7_takes ∈ jm_tbl := jm_tb (List.mem_of_getElem? (i := 1137) (by decide +kernel)) rfl
theorem l_X4_85 : Cond.methodLink RX4 85 yX4_put ∈ jm_tbl := jm_tb (List.mem_of_getElem? (i := 1138) (by decide +kernel)) rfl
theorem l_X4_110 : Cond.methodLink RX4 110 yX4_readNamed ∈ jm_tbl := jm_tb (List.mem_of_getElem? (i := 1142) (by decide +kernel)) rfl
theorem l_X4_141 : Cond.methodLink RX4 141 yX7_kindHere ∈ jm_tbl := jm_tb (List.mem_of_getElem? (i := 1146) (by decide +kernel)) rfl
theorem l_X4_145 : Cond.methodLink RX4 145 yX7_whoHere ∈ jm_tbl := jm_tb (List.mem_of_getElem? (i := 1147) (by decide +kernel)) rfl
theorem l_X4_113 : Cond.methodLink RX4 113 yX4_readMeasured ∈ jm_tbl := jm_tb (List.mem_of_getElem? (i := 1148) (by decide +kernel)) rfl
theorem l_X4_65 : Cond.methodLink RX4 65 yX7_closes ∈ jm_tbl := jm_tb (List.mem_of_getElem? (i := 1156) (by decide +kernel)) rfl
theorem l_X10_277 : Cond.methodLink RX10 277 yX4_copy ∈ jm_tbl := jm_tb (List.mem_of_getElem? (i := 1157) (by decide +kernel)) rfl
