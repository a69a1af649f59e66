theorem l_X4_28 : Cond.methodLink RX4 28 arraycopyName ∈ jm_tbl := jm_tb (List.mem_of_getElem? (i := 1161) (by decide +kernel)) rfl
theorem l_L_164 : Cond.methodLink RL 164 yX10_said ∈ jm_tbl := jm_tb (List.mem_of_getElem? (i := 1162) (by decide +kernel)) rfl
theorem l_X10_284 : Cond.methodLink RX10 284 yX4_holds ∈ jm_tbl := jm_tb (List.mem_of_getElem? (i := 1166) (by decide +kernel)) rfl
theorem l_X4_34 : Cond.methodLink RX4 34 yX4_isSo ∈ jm_tbl := jm_tb (List.mem_of_getElem? (i := 1170) (by decide +kernel)) rfl
theorem l_X4_40 : Cond.methodLink RX4 40 yX6_tell ∈ jm_tbl := jm_tb (List.mem_of_getElem? (i := 1174) (by decide +kernel)) rfl
theorem l_X4_44 : Cond.methodLink RX4 44 yX4_compares ∈ jm_tbl := jm_tb (List.mem_of_getElem? (i := 1175) (by decide +kernel)) rfl
theorem l_X4_48 : Cond.methodLink RX4 48 yX6_stateOf ∈ jm_tbl := jm_tb (List.mem_of_getElem? (i := 1178) (by decide +kernel)) rfl
theorem l_L_168 : Cond.methodLink RL 168 yX10_image ∈ jm_tbl := jm_tb (List.mem_of_getElem? (i := 1179) (by decide +kernel)) rfl
theorem l_X10_288 : Cond.methodLink RX10 288 yX0_keep ∈ jm_tbl := jm_tb (List.mem_of_getElem? (i := 1183) (by decide +kernel)) rfl
theorem l_X0_43 : Cond.methodLink RX0 43 yX5_copy ∈ jm_tbl := jm_tb (List.mem_of_getElem? (i := 1187) (by decide +kernel)) rfl
theorem l_X0_52 : Cond.methodLink RX0 52 yX6_tell ∈ jm_tbl := jm_tb (List.mem_of_getElem? (i := 1188) (by decide +kernel)) rfl
theorem l_X0_56 : Cond.methodLink RX0 56 yX1_copy ∈ jm_tbl := jm_tb (List.mem_of_getElem? (i := 1189) (by decide +kernel)) rfl
theorem l_X0_59 : Cond.methodLink RX0 59 yX4_copy ∈ jm_tbl := jm_tb (List.mem_of_getElem? (i := 1190) (by decide +kernel)) rfl
theorem l_L_172 : Cond.methodLink RL 172 yX10_restore ∈ jm_tbl := jm_tb (List.mem_of_getElem? (i := 1191) (by decide +kernel)) rfl
theorem l_X10_292 : Cond.methodLink RX10 292 yX0_giveBack ∈ jm_tbl := jm_tb (List.mem_of_getElem? (i := 1195) (by decide +kernel)) rfl
theorem l_X0_62 : Cond.methodLink RX0 62 yX6_begin ∈ jm_tbl := jm_tb (List.mem_of_getElem? (i := 1199) (by decide +kernel)) rfl
theorem l_X0_65 : Cond.methodLink RX0 65 yX6_add ∈ jm_tbl := jm_tb (List.mem_of_getElem? (i := 1200) (by decide +kernel)) rfl
theorem l_L_176 : Cond.methodLink RL 176 yX10_count ∈ jm_tbl := jm_tb (List.mem_of_getElem? (i := 1201) (by decide +kernel)) rfl
theorem l_L_46 : Cond.methodLink RL 46 yL_kind ∈ jm_tbl := jm_tb (List.mem_of_getElem? (i := 1205) (by decide +kernel)) rfl
theorem l_L_7 : Cond.methodLink RL 7 yX10_kind ∈ jm_tbl := jm_tb (List.mem_of_getElem? (i := 1209) (by decide +kernel)) rfl
-- link ('methodLink', 'CombTable', 137, 'java/util/NoSuchElementException', '<init>', '()V')
theorem l_X10_138 : Cond.methodLink RX10 138 yX5_tell ∈ jm_tbl := jm_tb (List.mem_of_getElem? (i := 1274) (by decide +kernel)) rfl
theorem l_X5_73 : Cond.methodLink RX5 73 yX5_openingOf ∈ jm_tbl := jm_tb (List.mem_of_getElem? (i := 1278) (by decide +kernel)) rfl
theorem l_X5_77 : Cond.methodLink RX5 77 yX5_doingOf ∈ jm_tbl := jm_tb (List.mem_of_getElem? (i := 1279) (by decide +kernel)) rfl
theorem l_X5_80 : Cond.methodLink RX5 80 yX5_spanOf ∈ jm_tbl := jm_tb (List.mem_of_getElem? (i := 1280) (by decide +kernel)) rfl
theorem l_L_79 : Cond.methodLink RL 79 yL_word ∈ jm_tbl := jm_tb (List.mem_of_getElem? (i := 1281) (by decide +kernel)) rfl
theorem l_L_15 : Cond.methodLink RL 15 yX10_word ∈ jm_tbl := jm_tb (List.mem_of_getElem? (i := 1284) (by decide +kernel)) rfl
theorem l_L_21 : Cond.methodLink RL 21 yX11_init ∈ jm_tbl := jm_tb (List.mem_of_getElem? (i := 1290) (by decide +kernel)) rfl
theorem l_X11_1 : Cond.methodLink RX11 1 Lib.objectInit ∈ jm_tbl := jm_tb (List.mem_of_getElem? (i := 1293) (by decide +kernel)) rfl
theorem l_L_52 : Cond.methodLink RL 52 yX11_thrown ∈ jm_tbl := jm_tb (List.mem_of_getElem? (i := 1470) (by decide +kernel)) rfl
theorem l_L_26 : Cond.methodLink RL 26 yX11_feed ∈ jm_tbl := jm_tb (List.mem_of_getElem? (i := 1474) (by decide +kernel)) rfl
theorem l_X11_112 : Cond.methodLink RX11 112 yX11_come ∈ jm_tbl := jm_tb (List.mem_of_getElem? (i := 1478) (by decide +kernel)) rfl
theorem l_L_31 : Cond.methodLink RL 31 yX11_end ∈ jm_tbl := jm_tb (List.mem_of_getElem? (i := 1482) (by decide +kernel)) rfl
theorem l_L_36 : Cond.methodLink RL 36 yX11_table ∈ jm_tbl := jm_tb (List.mem_of_getElem? (i := 1486) (by decide +kernel)) rfl
theorem l_X11_236 : Cond.methodLink RX11 236 yX11_begin ∈ jm_tbl := jm_tb (List.mem_of_getElem? (i := 1490) (by decide +kernel)) rfl
theorem l_X11_190 : Cond.methodLink RX11 190 yX11_take ∈ jm_tbl := jm_tb (List.mem_of_getElem? (i := 1494) (by decide +kernel)) rfl
theorem l_X11_184 : Cond.methodLink RX11 184 yX11_go ∈ jm_tbl := jm_tb (List.mem_of_getElem? (i := 1498) (by decide +kernel)) rfl
theorem l_X11_131 : Cond.methodLink RX11 131 yX11_isLetter ∈ jm_tbl := jm_tb (List.mem_of_getElem? (i := 1502) (by decide +kernel)) rfl
theorem l_X11_135 : Cond.methodLink RX11 135 yX11_isDigit ∈ jm_tbl := jm_tb (List.mem_of_getElem? (i := 1505) (by decide +kernel)) rfl
theorem l_X11_148 : Cond.methodLink RX11 148 yX11_byteAt ∈ jm_tbl := jm_tb (List.mem_of_getElem? (i := 1508) (by decide +kernel)) rfl
theorem l_X11_239 : Cond.methodLink RX11 239 yX11_readLine ∈ jm_tbl := jm_tb (List.mem_of_getElem? (i := 1514) (by decide +kernel)) rfl
theorem l_X11_209 : Cond.methodLink RX11 209 yX11_isWord ∈ jm_tbl := jm_tb (List.mem_of_getElem? (i := 1518) (by decide +kernel)) rfl
theorem l_X11_164 : Cond.methodLink RX11 164 yX11_wordOf ∈ jm_tbl := jm_tb (List.mem_of_getElem? (i := 1522) (by decide +kernel)) rfl
theorem l_X11_156 : Cond.methodLink RX11 156 yX11_spelt ∈ jm_tbl := jm_tb (List.mem_of_getElem? (i := 1525) (by decide +kernel)) rfl
theorem l_X11_160 : Cond.methodLink RX11 160 yX11_on ∈ jm_tbl := jm_tb (List.mem_of_getElem? (i := 1528) (by decide +kernel)) rfl
theorem l_X11_218 : Cond.methodLink RX11 218 yX11_readWho ∈ jm_tbl := jm_tb (List.mem_of_getElem? (i := 1531) (by decide +kernel)) rfl
theorem l_X11_174 : Cond.methodLink RX11 174 yX11_bad ∈ jm_tbl := jm_tb (List.mem_of_getElem? (i := 1535) (by decide +kernel)) rfl
theorem l_X11_202 : Cond.methodLink RX11 202 yX11_readNew ∈ jm_tbl := jm_tb (List.mem_of_getElem? (i := 1539) (by decide +kernel)) rfl
theorem l_X11_194 : Cond.methodLink RX11 194 yX11_isName ∈ jm_tbl := jm_tb (List.mem_of_getElem? (i := 1543) (by decide +kernel)) rfl
theorem l_X11_198 : Cond.methodLink RX11 198 yX11_findIn ∈ jm_tbl := jm_tb (List.mem_of_getElem? (i := 1547) (by decide +kernel)) rfl
theorem l_X11_205 : Cond.methodLink RX11 205 yX11_readNumber ∈ jm_tbl := jm_tb (List.mem_of_getElem? (i := 1551) (by decide +kernel)) rfl
theorem l_X11_177 : Cond.methodLink RX11 177 yX11_isIn ∈ jm_tbl := jm_tb (List.mem_of_getElem? (i := 1555) (by decide +kernel)) rfl
theorem l_X11_221 : Cond.methodLink RX11 221 yX11_readKind ∈ jm_tbl := jm_tb (List.mem_of_getElem? (i := 1558) (by decide +kernel)) rfl
theorem l_X11_224 : Cond.methodLink RX11 224 yX11_readMay ∈ jm_tbl := jm_tb (List.mem_of_getElem? (i := 1562) (by decide +kernel)) rfl
theorem l_X11_212 : Cond.methodLink RX11 212 yX11_readKindTold ∈ jm_tbl := jm_tb (List.mem_of_getElem? (i := 1566) (by decide +kernel)) rfl
theorem l_X11_215 : Cond.methodLink RX11 215 yX11_has ∈ jm_tbl := jm_tb (List.mem_of_getElem? (i := 1570) (by decide +kernel)) rfl
theorem l_X11_227 : Cond.methodLink RX11 227 yX11_readComb ∈ jm_tbl := jm_tb (List.mem_of_getElem? (i := 1573) (by decide +kernel)) rfl
theorem l_X11_230 : Cond.methodLink RX11 230 yX11_readOnce ∈ jm_tbl := jm_tb (List.mem_of_getElem? (i := 1577) (by decide +kernel)) rfl
theorem l_X11_233 : Cond.methodLink RX11 233 yX11_readEnd ∈ jm_tbl := jm_tb (List.mem_of_getElem? (i := 1581) (by decide +kernel)) rfl
theorem l_X11_187 : Cond.methodLink RX11 187 yX11_isSign ∈ jm_tbl := jm_tb (List.mem_of_getElem? (i := 1585) (by decide +kernel)) rfl
theorem l_L_40 : Cond.methodLink RL 40 yX11_fault ∈ jm_tbl := jm_tb (List.mem_of_getElem? (i := 1589) (by decide +kernel)) rfl
theorem l_L_45 : Cond.methodLink RL 45 yX11_rank ∈ jm_tbl := jm_tb (List.mem_of_getElem? (i := 1593) (by decide +kernel)) rfl
theorem l_X11_242 : Cond.methodLink RX11 242 yX11_isWho ∈ jm_tbl := jm_tb (List.mem_of_getElem? (i := 1597) (by decide +kernel)) rfl
theorem l_L_51 : Cond.methodLink RL 51 yX11_kind ∈ jm_tbl := jm_tb (List.mem_of_getElem? (i := 1601) (by decide +kernel)) rfl
theorem l_X11_245 : Cond.methodLink RX11 245 yX11_isKind ∈ jm_tbl := jm_tb (List.mem_of_getElem? (i := 1605) (by decide +kernel)) rfl
theorem l_X11_248 : Cond.methodLink RX11 248 yX11_refuse ∈ jm_tbl := jm_tb (List.mem_of_getElem? (i := 1609) (by decide +kernel)) rfl
theorem l_L_58 : Cond.methodLink RL 58 yX11_say ∈ jm_tbl := jm_tb (List.mem_of_getElem? (i := 1613) (by decide +kernel)) rfl
theorem l_X11_276 : Cond.methodLink RX11 276 yX11_tries ∈ jm_tbl := jm_tb (List.mem_of_getElem? (i := 1617) (by decide +kernel)) rfl
theorem l_X11_270 : Cond.methodLink RX11 270 yX11_lay ∈ jm_tbl := jm_tb (List.mem_of_getElem? (i := 1621) (by decide +kernel)) rfl
theorem l_X11_262 : Cond.methodLink RX11 262 yX11_layRules ∈ jm_tbl := jm_tb (List.mem_of_getElem? (i := 1625) (by decide +kernel)) rfl
theorem l_X11_266 : Cond.methodLink RX11 266 yX11_push ∈ jm_tbl := jm_tb (List.mem_of_getElem? (i := 1629) (by decide +kernel)) rfl
theorem l_X11_259 : Cond.methodLink RX11 259 yX11_answers ∈ jm_tbl := jm_tb (List.mem_of_getElem? (i := 1633) (by decide +kernel)) rfl
theorem l_X11_251 : Cond.methodLink RX11 251 yX11_ofKind ∈ jm_tbl := jm_tb (List.mem_of_getElem? (i := 1637) (by decide +kernel)) rfl
theorem l_X11_255 : Cond.methodLink RX11 255 yX11_rule ∈ jm_tbl := jm_tb (List.mem_of_getElem? (i := 1641) (by decide +kernel)) rfl
theorem l_X11_273 : Cond.methodLink RX11 273 yX11_wrongOf ∈ jm_tbl := jm_tb (List.mem_of_getElem? (i := 1645) (by decide +kernel)) rfl
theorem l_X11_279 : Cond.methodLink RX11 279 yX11_keepWord ∈ jm_tbl := jm_tb (List.mem_of_getElem? (i := 1649) (by decide +kernel)) rfl
theorem l_L_62 : Cond.methodLink RL 62 yX11_wrong ∈ jm_tbl := jm_tb (List.mem_of_getElem? (i := 1653) (by decide +kernel)) rfl
theorem l_L_66 : Cond.methodLink RL 66 yX11_may ∈ jm_tbl := jm_tb (List.mem_of_getElem? (i := 1657) (by decide +kernel)) rfl
theorem l_L_70 : Cond.methodLink RL 70 yX11_undo ∈ jm_tbl := jm_tb (List.mem_of_getElem? (i := 1661) (by decide +kernel)) rfl
theorem l_L_74 : Cond.methodLink RL 74 yX11_talk ∈ jm_tbl := jm_tb (List.mem_of_getElem? (i := 1665) (by decide +kernel)) rfl
theorem l_X11_286 : Cond.methodLink RX11 286 yX11_readWordSaid ∈ jm_tbl := jm_tb (List.mem_of_getElem? (i := 1669) (by decide +kernel)) rfl
theorem l_L_78 : Cond.methodLink RL 78 yX11_why ∈ jm_tbl := jm_tb (List.mem_of_getElem? (i := 1673) (by decide +kernel)) rfl
theorem l_L_81 : Cond.methodLink RL 81 yX11_word ∈ jm_tbl := jm_tb (List.mem_of_getElem? (i := 1677) (by decide +kernel)) rfl
theorem l_X11_289 : Cond.methodLink RX11 289 yX11_stateOf ∈ jm_tbl := jm_tb (List.mem_of_getElem? (i := 1681) (by decide +kernel)) rfl
theorem l_X11_292 : Cond.methodLink RX11 292 yX11_isPromise ∈ jm_tbl := jm_tb (List.mem_of_getElem? (i := 1685) (by decide +kernel)) rfl
theorem l_L_85 : Cond.methodLink RL 85 yX11_threads ∈ jm_tbl := jm_tb (List.mem_of_getElem? (i := 1689) (by decide +kernel)) rfl
theorem l_L_89 : Cond.methodLink RL 89 yX11_thread ∈ jm_tbl := jm_tb (List.mem_of_getElem? (i := 1693) (by decide +kernel)) rfl
theorem l_L_93 : Cond.methodLink RL 93 yX11_with ∈ jm_tbl := jm_tb (List.mem_of_getElem? (i := 1697) (by decide +kernel)) rfl
theorem l_L_98 : Cond.methodLink RL 98 yX11_promised ∈ jm_tbl := jm_tb (List.mem_of_getElem? (i := 1701) (by decide +kernel)) rfl
theorem l_L_138 : Cond.methodLink RL 138 yX11_spoke ∈ jm_tbl := jm_tb (List.mem_of_getElem? (i := 1705) (by decide +kernel)) rfl
theorem l_L_134 : Cond.methodLink RL 134 yX11_drawn ∈ jm_tbl := jm_tb (List.mem_of_getElem? (i := 1709) (by decide +kernel)) rfl
theorem l_X11_299 : Cond.methodLink RX11 299 yX11_nextWord ∈ jm_tbl := jm_tb (List.mem_of_getElem? (i := 1713) (by decide +kernel)) rfl
theorem l_X11_302 : Cond.methodLink RX11 302 yX11_draw ∈ jm_tbl := jm_tb (List.mem_of_getElem? (i := 1717) (by decide +kernel)) rfl
theorem l_L_102 : Cond.methodLink RL 102 yX11_minutes ∈ jm_tbl := jm_tb (List.mem_of_getElem? (i := 1722) (by decide +kernel)) rfl
theorem l_X11_314 : Cond.methodLink RX11 314 yX11_readMinute ∈ jm_tbl := jm_tb (List.mem_of_getElem? (i := 1726) (by decide +kernel)) rfl
theorem l_X11_311 : Cond.methodLink RX11 311 yX11_readTorn ∈ jm_tbl := jm_tb (List.mem_of_getElem? (i := 1730) (by decide +kernel)) rfl
theorem l_L_106 : Cond.methodLink RL 106 yX11_wholes ∈ jm_tbl := jm_tb (List.mem_of_getElem? (i := 1734) (by decide +kernel)) rfl
theorem l_X11_329 : Cond.methodLink RX11 329 yX11_fillings ∈ jm_tbl := jm_tb (List.mem_of_getElem? (i := 1738) (by decide +kernel)) rfl
theorem l_X11_332 : Cond.methodLink RX11 332 yX11_beginFill ∈ jm_tbl := jm_tb (List.mem_of_getElem? (i := 1742) (by decide +kernel)) rfl
theorem l_X11_335 : Cond.methodLink RX11 335 yX11_layTorn ∈ jm_tbl := jm_tb (List.mem_of_getElem? (i := 1746) (by decide +kernel)) rfl
theorem l_X11_323 : Cond.methodLink RX11 323 yX11_fill ∈ jm_tbl := jm_tb (List.mem_of_getElem? (i := 1750) (by decide +kernel)) rfl
theorem l_X11_326 : Cond.methodLink RX11 326 yX11_pop ∈ jm_tbl := jm_tb (List.mem_of_getElem? (i := 1754) (by decide +kernel)) rfl
theorem l_L_110 : Cond.methodLink RL 110 yX11_sure ∈ jm_tbl := jm_tb (List.mem_of_getElem? (i := 1758) (by decide +kernel)) rfl
theorem l_L_114 : Cond.methodLink RL 114 yX11_hangs ∈ jm_tbl := jm_tb (List.mem_of_getElem? (i := 1762) (by decide +kernel)) rfl
theorem l_L_118 : Cond.methodLink RL 118 yX11_mend ∈ jm_tbl := jm_tb (List.mem_of_getElem? (i := 1767) (by decide +kernel)) rfl
theorem l_X11_342 : Cond.methodLink RX11 342 yX11_isWhole ∈ jm_tbl := jm_tb (List.mem_of_getElem? (i := 1771) (by decide +kernel)) rfl
theorem l_X11_345 : Cond.methodLink RX11 345 yX11_bits ∈ jm_tbl := jm_tb (List.mem_of_getElem? (i := 1775) (by decide +kernel)) rfl
theorem l_X11_348 : Cond.methodLink RX11 348 yX11_isTalk ∈ jm_tbl := jm_tb (List.mem_of_getElem? (i := 1778) (by decide +kernel)) rfl
theorem l_L_122 : Cond.methodLink RL 122 yX11_mended ∈ jm_tbl := jm_tb (List.mem_of_getElem? (i := 1782) (by decide +kernel)) rfl
theorem l_L_126 : Cond.methodLink RL 126 yX11_orders ∈ jm_tbl := jm_tb (List.mem_of_getElem? (i := 1786) (by decide +kernel)) rfl
theorem l_X11_357 : Cond.methodLink RX11 357 yX11_tryOrders ∈ jm_tbl := jm_tb (List.mem_of_getElem? (i := 1790) (by decide +kernel)) rfl
theorem l_L_130 : Cond.methodLink RL 130 yX11_orderAt ∈ jm_tbl := jm_tb (List.mem_of_getElem? (i := 1794) (by decide +kernel)) rfl
theorem l_L_142 : Cond.methodLink RL 142 yX11_road ∈ jm_tbl := jm_tb (List.mem_of_getElem? (i := 1798) (by decide +kernel)) rfl
theorem l_X11_372 : Cond.methodLink RX11 372 yX11_roadOf ∈ jm_tbl := jm_tb (List.mem_of_getElem? (i := 1802) (by decide +kernel)) rfl
theorem l_X11_369 : Cond.methodLink RX11 369 yX11_isTooMany ∈ jm_tbl := jm_tb (List.mem_of_getElem? (i := 1806) (by decide +kernel)) rfl
theorem l_X11_363 : Cond.methodLink RX11 363 yX11_leads ∈ jm_tbl := jm_tb (List.mem_of_getElem? (i := 1810) (by decide +kernel)) rfl
theorem l_X11_360 : Cond.methodLink RX11 360 yX11_isSo ∈ jm_tbl := jm_tb (List.mem_of_getElem? (i := 1814) (by decide +kernel)) rfl
theorem l_L_147 : Cond.methodLink RL 147 yX11_without ∈ jm_tbl := jm_tb (List.mem_of_getElem? (i := 1818) (by decide +kernel)) rfl
theorem l_L_151 : Cond.methodLink RL 151 yX11_game ∈ jm_tbl := jm_tb (List.mem_of_getElem? (i := 1822) (by decide +kernel)) rfl
theorem l_X11_379 : Cond.methodLink RX11 379 yX11_play ∈ jm_tbl := jm_tb (List.mem_of_getElem? (i := 1826) (by decide +kernel)) rfl
theorem l_L_155 : Cond.methodLink RL 155 yX11_found ∈ jm_tbl := jm_tb (List.mem_of_getElem? (i := 1830) (by decide +kernel)) rfl
theorem l_L_159 : Cond.methodLink RL 159 yX11_unlike ∈ jm_tbl := jm_tb (List.mem_of_getElem? (i := 1834) (by decide +kernel)) rfl
theorem l_X11_386 : Cond.methodLink RX11 386 yX11_parts ∈ jm_tbl := jm_tb (List.mem_of_getElem? (i := 1838) (by decide +kernel)) rfl
theorem l_X11_383 : Cond.methodLink RX11 383 yX11_mayBeSaid ∈ jm_tbl := jm_tb (List.mem_of_getElem? (i := 1842) (by decide +kernel)) rfl
theorem l_L_163 : Cond.methodLink RL 163 yX11_sentence ∈ jm_tbl := jm_tb (List.mem_of_getElem? (i := 1846) (by decide +kernel)) rfl
theorem l_X11_423 : Cond.methodLink RX11 423 yX11_readOr ∈ jm_tbl := jm_tb (List.mem_of_getElem? (i := 1850) (by decide +kernel)) rfl
theorem l_X11_393 : Cond.methodLink RX11 393 yX11_readAnd ∈ jm_tbl := jm_tb (List.mem_of_getElem? (i := 1854) (by decide +kernel)) rfl
theorem l_X11_402 : Cond.methodLink RX11 402 yX11_readOne ∈ jm_tbl := jm_tb (List.mem_of_getElem? (i := 1858) (by decide +kernel)) rfl
theorem l_X11_411 : Cond.methodLink RX11 411 yX11_readBracket ∈ jm_tbl := jm_tb (List.mem_of_getElem? (i := 1862) (by decide +kernel)) rfl
theorem l_X11_414 : Cond.methodLink RX11 414 yX11_readNot ∈ jm_tbl := jm_tb (List.mem_of_getElem? (i := 1866) (by decide +kernel)) rfl
theorem l_X11_399 : Cond.methodLink RX11 399 yX11_lays ∈ jm_tbl := jm_tb (List.mem_of_getElem? (i := 1870) (by decide +kernel)) rfl
theorem l_X11_417 : Cond.methodLink RX11 417 yX11_readNamed ∈ jm_tbl := jm_tb (List.mem_of_getElem? (i := 1874) (by decide +kernel)) rfl
theorem l_X11_420 : Cond.methodLink RX11 420 yX11_readCompare ∈ jm_tbl := jm_tb (List.mem_of_getElem? (i := 1878) (by decide +kernel)) rfl
theorem l_L_167 : Cond.methodLink RL 167 yX11_said ∈ jm_tbl := jm_tb (List.mem_of_getElem? (i := 1882) (by decide +kernel)) rfl
theorem l_X11_426 : Cond.methodLink RX11 426 yX11_holds ∈ jm_tbl := jm_tb (List.mem_of_getElem? (i := 1886) (by decide +kernel)) rfl
theorem l_X11_429 : Cond.methodLink RX11 429 yX11_valueOf ∈ jm_tbl := jm_tb (List.mem_of_getElem? (i := 1890) (by decide +kernel)) rfl
theorem l_L_171 : Cond.methodLink RL 171 yX11_image ∈ jm_tbl := jm_tb (List.mem_of_getElem? (i := 1894) (by decide +kernel)) rfl
theorem l_L_175 : Cond.methodLink RL 175 yX11_restore ∈ jm_tbl := jm_tb (List.mem_of_getElem? (i := 1898) (by decide +kernel)) rfl
theorem l_L_179 : Cond.methodLink RL 179 yX11_count ∈ jm_tbl := jm_tb (List.mem_of_getElem? (i := 1902) (by decide +kernel)) rfl
theorem f_X7_15 : Cond.fieldLink RX7 15 "CombTable$Term" "NAME" "LCombTable$Term;" ∈ jm_tbl := jm_tb (List.mem_of_getElem? (i := 133) (by decide +kernel)) rfl
theorem f_X7_11 : Cond.fieldLink RX7 11 "CombTable$Tape" "bytes" "[B" ∈ jm_tbl := jm_tb (List.mem_of_getElem? (i := 135) (by decide +kernel)) rfl
theorem f_X10_92 : Cond.fieldLink RX10 92 "CombTable$Tape" "length" "I" ∈ jm_tbl := jm_tb (List.mem_of_getElem? (i := 136) (by decide +kernel)) rfl
theorem f_X7_24 : Cond.fieldLink RX7 24 "CombTable$Tape" "length" "I" ∈ jm_tbl := jm_tb (List.mem_of_getElem? (i := 137) (by decide +kernel)) rfl
theorem f_X7_28 : Cond.fieldLink RX7 28 "CombTable$Tape" "most" "I" ∈ jm_tbl := jm_tb (List.mem_of_getElem? (i := 138) (by decide +kernel)) rfl
theorem f_X7_31 : Cond.fieldLink RX7 31 "CombTable$Tape" "next" "I" ∈ jm_tbl := jm_tb (List.mem_of_getElem? (i := 139) (by decide +kernel)) rfl
theorem f_X7_49 : Cond.fieldLink RX7 49 "CombTable$Tape" "sort" "I" ∈ jm_tbl := jm_tb (List.mem_of_getElem? (i := 140) (by decide +kernel)) rfl
theorem f_X1_48 : Cond.fieldLink RX1 48 "CombTable$Tape" "sort" "I" ∈ jm_tbl := jm_tb (List.mem_of_getElem? (i := 141) (by decide +kernel)) rfl
theorem f_X4_151 : Cond.fieldLink RX4 151 "CombTable$Tape" "sort" "I" ∈ jm_tbl := jm_tb (List.mem_of_getElem? (i := 142) (by decide +kernel)) rfl
theorem f_X5_92 : Cond.fieldLink RX5 92 "CombTable$Tape" "sort" "I" ∈ jm_tbl := jm_tb (List.mem_of_getElem? (i := 143) (by decide +kernel)) rfl
theorem f_X6_130 : Cond.fieldLink RX6 130 "CombTable$Tape" "sort" "I" ∈ jm_tbl := jm_tb (List.mem_of_getElem? (i := 144) (by decide +kernel)) rfl
theorem f_X7_52 : Cond.fieldLink RX7 52 "CombTable$Tape" "place" "I" ∈ jm_tbl := jm_tb (List.mem_of_getElem? (i := 145) (by decide +kernel)) rfl
theorem f_X1_63 : Cond.fieldLink RX1 63 "CombTable$Tape" "place" "I" ∈ jm_tbl := jm_tb (List.mem_of_getElem? (i := 146) (by decide +kernel)) rfl
theorem f_X4_100 : Cond.fieldLink RX4 100 "CombTable$Tape" "place" "I" ∈ jm_tbl := jm_tb (List.mem_of_getElem? (i := 147) (by decide +kernel)) rfl
theorem f_X5_141 : Cond.fieldLink RX5 141 "CombTable$Tape" "place" "I" ∈ jm_tbl := jm_tb (List.mem_of_getElem? (i := 148) (by decide +kernel)) rfl
theorem f_X6_145 : Cond.fieldLink RX6 145 "CombTable$Tape" "place" "I" ∈ jm_tbl := jm_tb (List.mem_of_getElem? (i := 149) (by decide +kernel)) rfl
theorem f_X7_68 : Cond.fieldLink RX7 68 "CombTable$Tape" "letters" "J" ∈ jm_tbl := jm_tb (List.mem_of_getElem? (i := 150) (by decide +kernel)) rfl
theorem f_X5_157 : Cond.fieldLink RX5 157 "CombTable$Tape" "letters" "J" ∈ jm_tbl := jm_tb (List.mem_of_getElem? (i := 151) (by decide +kernel)) rfl
theorem f_X7_21 : Cond.fieldLink RX7 21 "CombTable$Tape" "term" "LCombTable$Term;" ∈ jm_tbl := jm_tb (List.mem_of_getElem? (i := 152) (by decide +kernel)) rfl
theorem f_X5_183 : Cond.fieldLink RX5 183 "CombTable$Tape" "term" "LCombTable$Term;" ∈ jm_tbl := jm_tb (List.mem_of_getElem? (i := 153) (by decide +kernel)) rfl
theorem f_X7_65 : Cond.fieldLink RX7 65 "CombTable$Tape" "value" "I" ∈ jm_tbl := jm_tb (List.mem_of_getElem? (i := 154) (by decide +kernel)) rfl
theorem f_X4_148 : Cond.fieldLink RX4 148 "CombTable$Tape" "value" "I" ∈ jm_tbl := jm_tb (List.mem_of_getElem? (i := 155) (by decide +kernel)) rfl
theorem f_X5_174 : Cond.fieldLink RX5 174 "CombTable$Tape" "value" "I" ∈ jm_tbl := jm_tb (List.mem_of_getElem? (i := 156) (by decide +kernel)) rfl
theorem f_X7_34 : Cond.fieldLink RX7 34 "CombTable$Tape" "fault" "I" ∈ jm_tbl := jm_tb (List.mem_of_getElem? (i := 157) (by decide +kernel)) rfl
theorem f_X10_121 : Cond.fieldLink RX10 121 "CombTable$Tape" "fault" "I" ∈ jm_tbl := jm_tb (List.mem_of_getElem? (i := 158) (by decide +kernel)) rfl
theorem f_X7_37 : Cond.fieldLink RX7 37 "CombTable$Tape" "faultPlace" "I" ∈ jm_tbl := jm_tb (List.mem_of_getElem? (i := 159) (by decide +kernel)) rfl
theorem f_X10_307 : Cond.fieldLink RX10 307 "CombTable$Tape" "faultPlace" "I" ∈ jm_tbl := jm_tb (List.mem_of_getElem? (i := 160) (by decide +kernel)) rfl
theorem f_X5_41 : Cond.fieldLink RX5 41 "CombTable$Table" "lines" "I" ∈ jm_tbl := jm_tb (List.mem_of_getElem? (i := 191) (by decide +kernel)) rfl
theorem f_X10_114 : Cond.fieldLink RX10 114 "CombTable$Table" "lines" "I" ∈ jm_tbl := jm_tb (List.mem_of_getElem? (i := 192) (by decide +kernel)) rfl
theorem f_X5_44 : Cond.fieldLink RX5 44 "CombTable$Table" "people" "I" ∈ jm_tbl := jm_tb (List.mem_of_getElem? (i := 193) (by decide +kernel)) rfl
theorem f_X1_31 : Cond.fieldLink RX1 31 "CombTable$Table" "people" "I" ∈ jm_tbl := jm_tb (List.mem_of_getElem? (i := 194) (by decide +kernel)) rfl
theorem f_X3_57 : Cond.fieldLink RX3 57 "CombTable$Table" "people" "I" ∈ jm_tbl := jm_tb (List.mem_of_getElem? (i := 195) (by decide +kernel)) rfl
theorem f_X9_85 : Cond.fieldLink RX9 85 "CombTable$Table" "people" "I" ∈ jm_tbl := jm_tb (List.mem_of_getElem? (i := 196) (by decide +kernel)) rfl
theorem f_X6_104 : Cond.fieldLink RX6 104 "CombTable$Table" "people" "I" ∈ jm_tbl := jm_tb (List.mem_of_getElem? (i := 197) (by decide +kernel)) rfl
theorem f_X10_199 : Cond.fieldLink RX10 199 "CombTable$Table" "people" "I" ∈ jm_tbl := jm_tb (List.mem_of_getElem? (i := 198) (by decide +kernel)) rfl
theorem f_X5_11 : Cond.fieldLink RX5 11 "CombTable$Table" "whoNames" "[J" ∈ jm_tbl := jm_tb (List.mem_of_getElem? (i := 199) (by decide +kernel)) rfl
theorem f_X5_15 : Cond.fieldLink RX5 15 "CombTable$Table" "ranks" "[I" ∈ jm_tbl := jm_tb (List.mem_of_getElem? (i := 200) (by decide +kernel)) rfl
theorem f_X10_128 : Cond.fieldLink RX10 128 "CombTable$Table" "ranks" "[I" ∈ jm_tbl := jm_tb (List.mem_of_getElem? (i := 201) (by decide +kernel)) rfl
theorem f_X5_47 : Cond.fieldLink RX5 47 "CombTable$Table" "kinds" "I" ∈ jm_tbl := jm_tb (List.mem_of_getElem? (i := 202) (by decide +kernel)) rfl
theorem f_X1_36 : Cond.fieldLink RX1 36 "CombTable$Table" "kinds" "I" ∈ jm_tbl := jm_tb (List.mem_of_getElem? (i := 203) (by decide +kernel)) rfl
theorem f_X3_66 : Cond.fieldLink RX3 66 "CombTable$Table" "kinds" "I" ∈ jm_tbl := jm_tb (List.mem_of_getElem? (i := 204) (by decide +kernel)) rfl
theorem f_X6_98 : Cond.fieldLink RX6 98 "CombTable$Table" "kinds" "I" ∈ jm_tbl := jm_tb (List.mem_of_getElem? (i := 205) (by decide +kernel)) rfl
theorem f_X9_90 : Cond.fieldLink RX9 90 "CombTable$Table" "kinds" "I" ∈ jm_tbl := jm_tb (List.mem_of_getElem? (i := 206) (by decide +kernel)) rfl
theorem f_X10_202 : Cond.fieldLink RX10 202 "CombTable$Table" "kinds" "I" ∈ jm_tbl := jm_tb (List.mem_of_getElem? (i := 207) (by decide +kernel)) rfl
theorem f_X5_19 : Cond.fieldLink RX5 19 "CombTable$Table" "kindNames" "[J" ∈ jm_tbl := jm_tb (List.mem_of_getElem? (i := 208) (by decide +kernel)) rfl
theorem f_X5_22 : Cond.fieldLink RX5 22 "CombTable$Table" "opening" "[I" ∈ jm_tbl := jm_tb (List.mem_of_getElem? (i := 209) (by decide +kernel)) rfl
theorem f_X5_25 : Cond.fieldLink RX5 25 "CombTable$Table" "does" "[I" ∈ jm_tbl := jm_tb (List.mem_of_getElem? (i := 210) (by decide +kernel)) rfl
theorem f_X5_28 : Cond.fieldLink RX5 28 "CombTable$Table" "spans" "[I" ∈ jm_tbl := jm_tb (List.mem_of_getElem? (i := 211) (by decide +kernel)) rfl
theorem f_X5_31 : Cond.fieldLink RX5 31 "CombTable$Table" "answered" "[I" ∈ jm_tbl := jm_tb (List.mem_of_getElem? (i := 212) (by decide +kernel)) rfl
theorem f_X5_50 : Cond.fieldLink RX5 50 "CombTable$Table" "mays" "I" ∈ jm_tbl := jm_tb (List.mem_of_getElem? (i := 213) (by decide +kernel)) rfl
theorem f_X10_295 : Cond.fieldLink RX10 295 "CombTable$Table" "mays" "I" ∈ jm_tbl := jm_tb (List.mem_of_getElem? (i := 214) (by decide +kernel)) rfl
theorem f_X5_37 : Cond.fieldLink RX5 37 "CombTable$Table" "combs" "I" ∈ jm_tbl := jm_tb (List.mem_of_getElem? (i := 215) (by decide +kernel)) rfl
theorem f_X10_298 : Cond.fieldLink RX10 298 "CombTable$Table" "combs" "I" ∈ jm_tbl := jm_tb (List.mem_of_getElem? (i := 216) (by decide +kernel)) rfl
theorem f_X5_34 : Cond.fieldLink RX5 34 "CombTable$Table" "comb" "[I" ∈ jm_tbl := jm_tb (List.mem_of_getElem? (i := 217) (by decide +kernel)) rfl
theorem f_X5_53 : Cond.fieldLink RX5 53 "CombTable$Table" "combTold" "Z" ∈ jm_tbl := jm_tb (List.mem_of_getElem? (i := 218) (by decide +kernel)) rfl
theorem f_X5_57 : Cond.fieldLink RX5 57 "CombTable$Table" "byRanks" "Z" ∈ jm_tbl := jm_tb (List.mem_of_getElem? (i := 219) (by decide +kernel)) rfl
theorem f_X10_301 : Cond.fieldLink RX10 301 "CombTable$Table" "byRanks" "Z" ∈ jm_tbl := jm_tb (List.mem_of_getElem? (i := 220) (by decide +kernel)) rfl
theorem f_X5_60 : Cond.fieldLink RX5 60 "CombTable$Table" "twice" "Z" ∈ jm_tbl := jm_tb (List.mem_of_getElem? (i := 221) (by decide +kernel)) rfl
theorem f_X6_69 : Cond.fieldLink RX6 69 "CombTable$Table" "twice" "Z" ∈ jm_tbl := jm_tb (List.mem_of_getElem? (i := 222) (by decide +kernel)) rfl
theorem f_X10_304 : Cond.fieldLink RX10 304 "CombTable$Table" "twice" "Z" ∈ jm_tbl := jm_tb (List.mem_of_getElem? (i := 223) (by decide +kernel)) rfl
theorem f_X6_18 : Cond.fieldLink RX6 18 "CombTable$Talk" "table" "LCombTable$Table;" ∈ jm_tbl := jm_tb (List.mem_of_getElem? (i := 270) (by decide +kernel)) rfl
theorem f_X3_53 : Cond.fieldLink RX3 53 "CombTable$Talk" "table" "LCombTable$Table;" ∈ jm_tbl := jm_tb (List.mem_of_getElem? (i := 271) (by decide +kernel)) rfl
theorem f_X9_79 : Cond.fieldLink RX9 79 "CombTable$Talk" "table" "LCombTable$Table;" ∈ jm_tbl := jm_tb (List.mem_of_getElem? (i := 272) (by decide +kernel)) rfl
theorem f_X6_43 : Cond.fieldLink RX6 43 "CombTable$Talk" "size" "I" ∈ jm_tbl := jm_tb (List.mem_of_getElem? (i := 273) (by decide +kernel)) rfl
theorem f_X0_51 : Cond.fieldLink RX0 51 "CombTable$Talk" "size" "I" ∈ jm_tbl := jm_tb (List.mem_of_getElem? (i := 274) (by decide +kernel)) rfl
theorem f_X9_104 : Cond.fieldLink RX9 104 "CombTable$Talk" "size" "I" ∈ jm_tbl := jm_tb (List.mem_of_getElem? (i := 275) (by decide +kernel)) rfl
theorem f_X10_153 : Cond.fieldLink RX10 153 "CombTable$Talk" "size" "I" ∈ jm_tbl := jm_tb (List.mem_of_getElem? (i := 276) (by decide +kernel)) rfl
theorem f_X6_47 : Cond.fieldLink RX6 47 "CombTable$Talk" "begun" "I" ∈ jm_tbl := jm_tb (List.mem_of_getElem? (i := 277) (by decide +kernel)) rfl
theorem f_X10_172 : Cond.fieldLink RX10 172 "CombTable$Talk" "begun" "I" ∈ jm_tbl := jm_tb (List.mem_of_getElem? (i := 278) (by decide +kernel)) rfl
theorem f_X10_165 : Cond.fieldLink RX10 165 "CombTable$Talk" "why" "I" ∈ jm_tbl := jm_tb (List.mem_of_getElem? (i := 279) (by decide +kernel)) rfl
theorem f_X6_121 : Cond.fieldLink RX6 121 "CombTable$Talk" "why" "I" ∈ jm_tbl := jm_tb (List.mem_of_getElem? (i := 280) (by decide +kernel)) rfl
theorem f_X6_24 : Cond.fieldLink RX6 24 "CombTable$Talk" "speakers" "[I" ∈ jm_tbl := jm_tb (List.mem_of_getElem? (i := 281) (by decide +kernel)) rfl
theorem f_X6_28 : Cond.fieldLink RX6 28 "CombTable$Talk" "sorts" "[I" ∈ jm_tbl := jm_tb (List.mem_of_getElem? (i := 282) (by decide +kernel)) rfl
theorem f_X6_31 : Cond.fieldLink RX6 31 "CombTable$Talk" "heard" "[I" ∈ jm_tbl := jm_tb (List.mem_of_getElem? (i := 283) (by decide +kernel)) rfl
theorem f_X6_34 : Cond.fieldLink RX6 34 "CombTable$Talk" "lines" "[I" ∈ jm_tbl := jm_tb (List.mem_of_getElem? (i := 284) (by decide +kernel)) rfl
theorem f_X6_37 : Cond.fieldLink RX6 37 "CombTable$Talk" "depths" "[I" ∈ jm_tbl := jm_tb (List.mem_of_getElem? (i := 285) (by decide +kernel)) rfl
theorem f_X6_40 : Cond.fieldLink RX6 40 "CombTable$Talk" "states" "[I" ∈ jm_tbl := jm_tb (List.mem_of_getElem? (i := 286) (by decide +kernel)) rfl
theorem f_X1_18 : Cond.fieldLink RX1 18 "CombTable$Minutes" "size" "I" ∈ jm_tbl := jm_tb (List.mem_of_getElem? (i := 314) (by decide +kernel)) rfl
theorem f_X9_33 : Cond.fieldLink RX9 33 "CombTable$Minutes" "size" "I" ∈ jm_tbl := jm_tb (List.mem_of_getElem? (i := 315) (by decide +kernel)) rfl
theorem f_X2_32 : Cond.fieldLink RX2 32 "CombTable$Minutes" "size" "I" ∈ jm_tbl := jm_tb (List.mem_of_getElem? (i := 316) (by decide +kernel)) rfl
theorem f_X10_185 : Cond.fieldLink RX10 185 "CombTable$Minutes" "size" "I" ∈ jm_tbl := jm_tb (List.mem_of_getElem? (i := 317) (by decide +kernel)) rfl
theorem f_X1_22 : Cond.fieldLink RX1 22 "CombTable$Minutes" "torn" "I" ∈ jm_tbl := jm_tb (List.mem_of_getElem? (i := 318) (by decide +kernel)) rfl
theorem f_X10_211 : Cond.fieldLink RX10 211 "CombTable$Minutes" "torn" "I" ∈ jm_tbl := jm_tb (List.mem_of_getElem? (i := 319) (by decide +kernel)) rfl
theorem f_X1_11 : Cond.fieldLink RX1 11 "CombTable$Minutes" "whos" "[I" ∈ jm_tbl := jm_tb (List.mem_of_getElem? (i := 320) (by decide +kernel)) rfl
theorem f_X1_15 : Cond.fieldLink RX1 15 "CombTable$Minutes" "sorts" "[I" ∈ jm_tbl := jm_tb (List.mem_of_getElem? (i := 321) (by decide +kernel)) rfl
theorem f_X4_21 : Cond.fieldLink RX4 21 "CombTable$Sentence" "ones" "I" ∈ jm_tbl := jm_tb (List.mem_of_getElem? (i := 337) (by decide +kernel)) rfl
theorem f_X10_280 : Cond.fieldLink RX10 280 "CombTable$Sentence" "ones" "I" ∈ jm_tbl := jm_tb (List.mem_of_getElem? (i := 338) (by decide +kernel)) rfl
theorem f_X4_25 : Cond.fieldLink RX4 25 "CombTable$Sentence" "length" "I" ∈ jm_tbl := jm_tb (List.mem_of_getElem? (i := 339) (by decide +kernel)) rfl
theorem f_X10_283 : Cond.fieldLink RX10 283 "CombTable$Sentence" "length" "I" ∈ jm_tbl := jm_tb (List.mem_of_getElem? (i := 340) (by decide +kernel)) rfl
theorem f_X4_11 : Cond.fieldLink RX4 11 "CombTable$Sentence" "steps" "[I" ∈ jm_tbl := jm_tb (List.mem_of_getElem? (i := 341) (by decide +kernel)) rfl
theorem f_X4_15 : Cond.fieldLink RX4 15 "CombTable$Sentence" "signs" "[I" ∈ jm_tbl := jm_tb (List.mem_of_getElem? (i := 342) (by decide +kernel)) rfl
theorem f_X4_18 : Cond.fieldLink RX4 18 "CombTable$Sentence" "values" "[I" ∈ jm_tbl := jm_tb (List.mem_of_getElem? (i := 343) (by decide +kernel)) rfl
theorem f_X0_39 : Cond.fieldLink RX0 39 "CombTable$Image" "kept" "Z" ∈ jm_tbl := jm_tb (List.mem_of_getElem? (i := 367) (by decide +kernel)) rfl
theorem f_X10_262 : Cond.fieldLink RX10 262 "CombTable$Image" "kept" "Z" ∈ jm_tbl := jm_tb (List.mem_of_getElem? (i := 368) (by decide +kernel)) rfl
theorem f_X0_10 : Cond.fieldLink RX0 10 "CombTable$Image" "table" "LCombTable$Table;" ∈ jm_tbl := jm_tb (List.mem_of_getElem? (i := 369) (by decide +kernel)) rfl
theorem f_X10_266 : Cond.fieldLink RX10 266 "CombTable$Image" "table" "LCombTable$Table;" ∈ jm_tbl := jm_tb (List.mem_of_getElem? (i := 370) (by decide +kernel)) rfl
theorem f_X0_47 : Cond.fieldLink RX0 47 "CombTable$Image" "size" "I" ∈ jm_tbl := jm_tb (List.mem_of_getElem? (i := 371) (by decide +kernel)) rfl
theorem f_X0_18 : Cond.fieldLink RX0 18 "CombTable$Image" "whos" "[I" ∈ jm_tbl := jm_tb (List.mem_of_getElem? (i := 372) (by decide +kernel)) rfl
theorem f_X0_22 : Cond.fieldLink RX0 22 "CombTable$Image" "sorts" "[I" ∈ jm_tbl := jm_tb (List.mem_of_getElem? (i := 373) (by decide +kernel)) rfl
theorem f_X0_28 : Cond.fieldLink RX0 28 "CombTable$Image" "minutes" "LCombTable$Minutes;" ∈ jm_tbl := jm_tb (List.mem_of_getElem? (i := 374) (by decide +kernel)) rfl
theorem f_X0_35 : Cond.fieldLink RX0 35 "CombTable$Image" "sentence" "LCombTable$Sentence;" ∈ jm_tbl := jm_tb (List.mem_of_getElem? (i := 375) (by decide +kernel)) rfl
theorem f_X3_30 : Cond.fieldLink RX3 30 "CombTable$Search" "aimed" "I" ∈ jm_tbl := jm_tb (List.mem_of_getElem? (i := 397) (by decide +kernel)) rfl
theorem f_X3_33 : Cond.fieldLink RX3 33 "CombTable$Search" "state" "I" ∈ jm_tbl := jm_tb (List.mem_of_getElem? (i := 398) (by decide +kernel)) rfl
theorem f_X3_36 : Cond.fieldLink RX3 36 "CombTable$Search" "silent" "I" ∈ jm_tbl := jm_tb (List.mem_of_getElem? (i := 399) (by decide +kernel)) rfl
theorem f_X3_76 : Cond.fieldLink RX3 76 "CombTable$Search" "side" "I" ∈ jm_tbl := jm_tb (List.mem_of_getElem? (i := 400) (by decide +kernel)) rfl
theorem f_X3_9 : Cond.fieldLink RX3 9 "CombTable$Search" "path" "[I" ∈ jm_tbl := jm_tb (List.mem_of_getElem? (i := 401) (by decide +kernel)) rfl
theorem f_X3_15 : Cond.fieldLink RX3 15 "CombTable$Search" "found" "[I" ∈ jm_tbl := jm_tb (List.mem_of_getElem? (i := 402) (by decide +kernel)) rfl
theorem f_X3_26 : Cond.fieldLink RX3 26 "CombTable$Search" "foundSize" "I" ∈ jm_tbl := jm_tb (List.mem_of_getElem? (i := 403) (by decide +kernel)) rfl
theorem f_X9_52 : Cond.fieldLink RX9 52 "CombTable$Wholes" "size" "I" ∈ jm_tbl := jm_tb (List.mem_of_getElem? (i := 425) (by decide +kernel)) rfl
theorem f_X9_11 : Cond.fieldLink RX9 11 "CombTable$Wholes" "whos" "[I" ∈ jm_tbl := jm_tb (List.mem_of_getElem? (i := 426) (by decide +kernel)) rfl
theorem f_X9_17 : Cond.fieldLink RX9 17 "CombTable$Wholes" "sorts" "[I" ∈ jm_tbl := jm_tb (List.mem_of_getElem? (i := 427) (by decide +kernel)) rfl
theorem f_X9_49 : Cond.fieldLink RX9 49 "CombTable$Wholes" "filled" "I" ∈ jm_tbl := jm_tb (List.mem_of_getElem? (i := 428) (by decide +kernel)) rfl
theorem f_X9_67 : Cond.fieldLink RX9 67 "CombTable$Wholes" "enough" "I" ∈ jm_tbl := jm_tb (List.mem_of_getElem? (i := 429) (by decide +kernel)) rfl
theorem f_X9_70 : Cond.fieldLink RX9 70 "CombTable$Wholes" "telling" "Z" ∈ jm_tbl := jm_tb (List.mem_of_getElem? (i := 430) (by decide +kernel)) rfl
theorem f_X9_53 : Cond.fieldLink RX9 53 "CombTable$Wholes" "sureSize" "I" ∈ jm_tbl := jm_tb (List.mem_of_getElem? (i := 431) (by decide +kernel)) rfl
theorem f_X9_20 : Cond.fieldLink RX9 20 "CombTable$Wholes" "sureWhos" "[I" ∈ jm_tbl := jm_tb (List.mem_of_getElem? (i := 432) (by decide +kernel)) rfl
theorem f_X9_23 : Cond.fieldLink RX9 23 "CombTable$Wholes" "sureKinds" "[I" ∈ jm_tbl := jm_tb (List.mem_of_getElem? (i := 433) (by decide +kernel)) rfl
theorem f_X9_26 : Cond.fieldLink RX9 26 "CombTable$Wholes" "sureStates" "[I" ∈ jm_tbl := jm_tb (List.mem_of_getElem? (i := 434) (by decide +kernel)) rfl
theorem f_X2_22 : Cond.fieldLink RX2 22 "CombTable$Repair" "fewest" "I" ∈ jm_tbl := jm_tb (List.mem_of_getElem? (i := 462) (by decide +kernel)) rfl
theorem f_X2_25 : Cond.fieldLink RX2 25 "CombTable$Repair" "outs" "I" ∈ jm_tbl := jm_tb (List.mem_of_getElem? (i := 463) (by decide +kernel)) rfl
theorem f_X2_9 : Cond.fieldLink RX2 9 "CombTable$Repair" "leftOut" "I" ∈ jm_tbl := jm_tb (List.mem_of_getElem? (i := 464) (by decide +kernel)) rfl
theorem f_X10_217 : Cond.fieldLink RX10 217 "CombTable$Repair" "leftOut" "I" ∈ jm_tbl := jm_tb (List.mem_of_getElem? (i := 465) (by decide +kernel)) rfl
theorem f_X2_57 : Cond.fieldLink RX2 57 "CombTable$Repair" "orders" "I" ∈ jm_tbl := jm_tb (List.mem_of_getElem? (i := 466) (by decide +kernel)) rfl
theorem f_X2_15 : Cond.fieldLink RX2 15 "CombTable$Repair" "row" "[I" ∈ jm_tbl := jm_tb (List.mem_of_getElem? (i := 467) (by decide +kernel)) rfl
theorem f_X2_19 : Cond.fieldLink RX2 19 "CombTable$Repair" "first" "[I" ∈ jm_tbl := jm_tb (List.mem_of_getElem? (i := 468) (by decide +kernel)) rfl
theorem f_X2_70 : Cond.fieldLink RX2 70 "CombTable$Repair" "firstSize" "I" ∈ jm_tbl := jm_tb (List.mem_of_getElem? (i := 469) (by decide +kernel)) rfl
theorem f_X10_10 : Cond.fieldLink RX10 10 "CombTable" "tape" "LCombTable$Tape;" ∈ jm_tbl := jm_tb (List.mem_of_getElem? (i := 485) (by decide +kernel)) rfl
theorem f_X10_19 : Cond.fieldLink RX10 19 "CombTable" "table" "LCombTable$Table;" ∈ jm_tbl := jm_tb (List.mem_of_getElem? (i := 486) (by decide +kernel)) rfl
theorem f_X10_23 : Cond.fieldLink RX10 23 "CombTable" "spareTable" "LCombTable$Table;" ∈ jm_tbl := jm_tb (List.mem_of_getElem? (i := 487) (by decide +kernel)) rfl
theorem f_X10_31 : Cond.fieldLink RX10 31 "CombTable" "talk" "LCombTable$Talk;" ∈ jm_tbl := jm_tb (List.mem_of_getElem? (i := 488) (by decide +kernel)) rfl
theorem f_X10_35 : Cond.fieldLink RX10 35 "CombTable" "trial" "LCombTable$Talk;" ∈ jm_tbl := jm_tb (List.mem_of_getElem? (i := 489) (by decide +kernel)) rfl
theorem f_X10_38 : Cond.fieldLink RX10 38 "CombTable" "otherTrial" "LCombTable$Talk;" ∈ jm_tbl := jm_tb (List.mem_of_getElem? (i := 490) (by decide +kernel)) rfl
theorem f_X10_44 : Cond.fieldLink RX10 44 "CombTable" "minutes" "LCombTable$Minutes;" ∈ jm_tbl := jm_tb (List.mem_of_getElem? (i := 491) (by decide +kernel)) rfl
theorem f_X10_48 : Cond.fieldLink RX10 48 "CombTable" "spareMinutes" "LCombTable$Minutes;" ∈ jm_tbl := jm_tb (List.mem_of_getElem? (i := 492) (by decide +kernel)) rfl
theorem f_X10_54 : Cond.fieldLink RX10 54 "CombTable" "sentence" "LCombTable$Sentence;" ∈ jm_tbl := jm_tb (List.mem_of_getElem? (i := 493) (by decide +kernel)) rfl
theorem f_X10_58 : Cond.fieldLink RX10 58 "CombTable" "spareSentence" "LCombTable$Sentence;" ∈ jm_tbl := jm_tb (List.mem_of_getElem? (i := 494) (by decide +kernel)) rfl
theorem f_X10_64 : Cond.fieldLink RX10 64 "CombTable" "firstImage" "LCombTable$Image;" ∈ jm_tbl := jm_tb (List.mem_of_getElem? (i := 495) (by decide +kernel)) rfl
theorem f_X10_68 : Cond.fieldLink RX10 68 "CombTable" "secondImage" "LCombTable$Image;" ∈ jm_tbl := jm_tb (List.mem_of_getElem? (i := 496) (by decide +kernel)) rfl
theorem f_X10_74 : Cond.fieldLink RX10 74 "CombTable" "search" "LCombTable$Search;" ∈ jm_tbl := jm_tb (List.mem_of_getElem? (i := 497) (by decide +kernel)) rfl
theorem f_X10_81 : Cond.fieldLink RX10 81 "CombTable" "wholes" "LCombTable$Wholes;" ∈ jm_tbl := jm_tb (List.mem_of_getElem? (i := 498) (by decide +kernel)) rfl
theorem f_X10_88 : Cond.fieldLink RX10 88 "CombTable" "repair" "LCombTable$Repair;" ∈ jm_tbl := jm_tb (List.mem_of_getElem? (i := 499) (by decide +kernel)) rfl
theorem f_X7_80 : Cond.fieldLink RX7 80 "CombTable$Tape" "TERMS" "[LCombTable$Term;" ∈ jm_tbl := jm_tb (List.mem_of_getElem? (i := 583) (by decide +kernel)) rfl
theorem f_X5_107 : Cond.fieldLink RX5 107 "CombTable$Term" "WHO" "LCombTable$Term;" ∈ jm_tbl := jm_tb (List.mem_of_getElem? (i := 589) (by decide +kernel)) rfl
theorem f_X5_120 : Cond.fieldLink RX5 120 "CombTable$Term" "KIND" "LCombTable$Term;" ∈ jm_tbl := jm_tb (List.mem_of_getElem? (i := 625) (by decide +kernel)) rfl
theorem f_X5_177 : Cond.fieldLink RX5 177 "CombTable$Term" "OPENS" "LCombTable$Term;" ∈ jm_tbl := jm_tb (List.mem_of_getElem? (i := 631) (by decide +kernel)) rfl
theorem f_X5_180 : Cond.fieldLink RX5 180 "CombTable$Term" "BEGINS" "LCombTable$Term;" ∈ jm_tbl := jm_tb (List.mem_of_getElem? (i := 633) (by decide +kernel)) rfl
theorem f_X5_126 : Cond.fieldLink RX5 126 "CombTable$Term" "MAY" "LCombTable$Term;" ∈ jm_tbl := jm_tb (List.mem_of_getElem? (i := 635) (by decide +kernel)) rfl
theorem f_X5_132 : Cond.fieldLink RX5 132 "CombTable$Term" "COMB" "LCombTable$Term;" ∈ jm_tbl := jm_tb (List.mem_of_getElem? (i := 655) (by decide +kernel)) rfl
theorem f_X5_138 : Cond.fieldLink RX5 138 "CombTable$Term" "RANKS" "LCombTable$Term;" ∈ jm_tbl := jm_tb (List.mem_of_getElem? (i := 661) (by decide +kernel)) rfl
theorem f_X5_151 : Cond.fieldLink RX5 151 "CombTable$Term" "TWICE" "LCombTable$Term;" ∈ jm_tbl := jm_tb (List.mem_of_getElem? (i := 663) (by decide +kernel)) rfl
theorem f_X1_66 : Cond.fieldLink RX1 66 "CombTable$Term" "ANY" "LCombTable$Term;" ∈ jm_tbl := jm_tb (List.mem_of_getElem? (i := 857) (by decide +kernel)) rfl
theorem f_X4_117 : Cond.fieldLink RX4 117 "CombTable$Term" "NOT" "LCombTable$Term;" ∈ jm_tbl := jm_tb (List.mem_of_getElem? (i := 1118) (by decide +kernel)) rfl
theorem f_X4_120 : Cond.fieldLink RX4 120 "CombTable$Term" "BY" "LCombTable$Term;" ∈ jm_tbl := jm_tb (List.mem_of_getElem? (i := 1121) (by decide +kernel)) rfl
theorem f_X4_123 : Cond.fieldLink RX4 123 "CombTable$Term" "TO" "LCombTable$Term;" ∈ jm_tbl := jm_tb (List.mem_of_getElem? (i := 1123) (by decide +kernel)) rfl
theorem f_X4_126 : Cond.fieldLink RX4 126 "CombTable$Term" "IS" "LCombTable$Term;" ∈ jm_tbl := jm_tb (List.mem_of_getElem? (i := 1125) (by decide +kernel)) rfl
theorem f_X4_129 : Cond.fieldLink RX4 129 "CombTable$Term" "PLACE" "LCombTable$Term;" ∈ jm_tbl := jm_tb (List.mem_of_getElem? (i := 1127) (by decide +kernel)) rfl
theorem f_X4_132 : Cond.fieldLink RX4 132 "CombTable$Term" "THREAD" "LCombTable$Term;" ∈ jm_tbl := jm_tb (List.mem_of_getElem? (i := 1129) (by decide +kernel)) rfl
theorem f_X4_135 : Cond.fieldLink RX4 135 "CombTable$Term" "DEPTH" "LCombTable$Term;" ∈ jm_tbl := jm_tb (List.mem_of_getElem? (i := 1131) (by decide +kernel)) rfl
theorem f_X4_138 : Cond.fieldLink RX4 138 "CombTable$Term" "STATE" "LCombTable$Term;" ∈ jm_tbl := jm_tb (List.mem_of_getElem? (i := 1133) (by decide +kernel)) rfl
theorem f_X4_72 : Cond.fieldLink RX4 72 "CombTable$Term" "AND" "LCombTable$Term;" ∈ jm_tbl := jm_tb (List.mem_of_getElem? (i := 1152) (by decide +kernel)) rfl
theorem f_X4_82 : Cond.fieldLink RX4 82 "CombTable$Term" "OR" "LCombTable$Term;" ∈ jm_tbl := jm_tb (List.mem_of_getElem? (i := 1154) (by decide +kernel)) rfl
theorem f_X11_106 : Cond.fieldLink RX11 106 "CombTableModel" "thrown" "I" ∈ jm_tbl := jm_tb (List.mem_of_getElem? (i := 1294) (by decide +kernel)) rfl
theorem f_X11_7 : Cond.fieldLink RX11 7 "CombTableModel" "tape" "[I" ∈ jm_tbl := jm_tb (List.mem_of_getElem? (i := 1295) (by decide +kernel)) rfl
theorem f_X11_109 : Cond.fieldLink RX11 109 "CombTableModel" "taped" "I" ∈ jm_tbl := jm_tb (List.mem_of_getElem? (i := 1296) (by decide +kernel)) rfl
theorem f_X11_116 : Cond.fieldLink RX11 116 "CombTableModel" "size" "I" ∈ jm_tbl := jm_tb (List.mem_of_getElem? (i := 1297) (by decide +kernel)) rfl
theorem f_X11_125 : Cond.fieldLink RX11 125 "CombTableModel" "limit" "I" ∈ jm_tbl := jm_tb (List.mem_of_getElem? (i := 1298) (by decide +kernel)) rfl
theorem f_X11_119 : Cond.fieldLink RX11 119 "CombTableModel" "to" "I" ∈ jm_tbl := jm_tb (List.mem_of_getElem? (i := 1299) (by decide +kernel)) rfl
theorem f_X11_122 : Cond.fieldLink RX11 122 "CombTableModel" "from" "I" ∈ jm_tbl := jm_tb (List.mem_of_getElem? (i := 1300) (by decide +kernel)) rfl
theorem f_X11_128 : Cond.fieldLink RX11 128 "CombTableModel" "kind" "I" ∈ jm_tbl := jm_tb (List.mem_of_getElem? (i := 1301) (by decide +kernel)) rfl
theorem f_X11_145 : Cond.fieldLink RX11 145 "CombTableModel" "number" "I" ∈ jm_tbl := jm_tb (List.mem_of_getElem? (i := 1302) (by decide +kernel)) rfl
theorem f_X11_138 : Cond.fieldLink RX11 138 "CombTableModel" "sign" "I" ∈ jm_tbl := jm_tb (List.mem_of_getElem? (i := 1303) (by decide +kernel)) rfl
theorem f_X11_168 : Cond.fieldLink RX11 168 "CombTableModel" "fault" "I" ∈ jm_tbl := jm_tb (List.mem_of_getElem? (i := 1304) (by decide +kernel)) rfl
theorem f_X11_171 : Cond.fieldLink RX11 171 "CombTableModel" "place" "I" ∈ jm_tbl := jm_tb (List.mem_of_getElem? (i := 1305) (by decide +kernel)) rfl
theorem f_X11_141 : Cond.fieldLink RX11 141 "CombTableModel" "word" "J" ∈ jm_tbl := jm_tb (List.mem_of_getElem? (i := 1306) (by decide +kernel)) rfl
theorem f_X11_181 : Cond.fieldLink RX11 181 "CombTableModel" "told" "I" ∈ jm_tbl := jm_tb (List.mem_of_getElem? (i := 1307) (by decide +kernel)) rfl
theorem f_X11_13 : Cond.fieldLink RX11 13 "CombTableModel" "now" "[I" ∈ jm_tbl := jm_tb (List.mem_of_getElem? (i := 1308) (by decide +kernel)) rfl
theorem f_X11_16 : Cond.fieldLink RX11 16 "CombTableModel" "read" "[I" ∈ jm_tbl := jm_tb (List.mem_of_getElem? (i := 1309) (by decide +kernel)) rfl
theorem f_X11_19 : Cond.fieldLink RX11 19 "CombTableModel" "kept" "[I" ∈ jm_tbl := jm_tb (List.mem_of_getElem? (i := 1310) (by decide +kernel)) rfl
theorem f_X11_22 : Cond.fieldLink RX11 22 "CombTableModel" "line" "[I" ∈ jm_tbl := jm_tb (List.mem_of_getElem? (i := 1311) (by decide +kernel)) rfl
theorem f_X11_25 : Cond.fieldLink RX11 25 "CombTableModel" "name" "[J" ∈ jm_tbl := jm_tb (List.mem_of_getElem? (i := 1312) (by decide +kernel)) rfl
theorem f_X11_29 : Cond.fieldLink RX11 29 "CombTableModel" "readName" "[J" ∈ jm_tbl := jm_tb (List.mem_of_getElem? (i := 1313) (by decide +kernel)) rfl
theorem f_X11_32 : Cond.fieldLink RX11 32 "CombTableModel" "keptName" "[J" ∈ jm_tbl := jm_tb (List.mem_of_getElem? (i := 1314) (by decide +kernel)) rfl
theorem f_X11_35 : Cond.fieldLink RX11 35 "CombTableModel" "isKept" "[Z" ∈ jm_tbl := jm_tb (List.mem_of_getElem? (i := 1315) (by decide +kernel)) rfl
theorem f_X11_39 : Cond.fieldLink RX11 39 "CombTableModel" "rules" "[I" ∈ jm_tbl := jm_tb (List.mem_of_getElem? (i := 1316) (by decide +kernel)) rfl
theorem f_X11_42 : Cond.fieldLink RX11 42 "CombTableModel" "saidBy" "[I" ∈ jm_tbl := jm_tb (List.mem_of_getElem? (i := 1317) (by decide +kernel)) rfl
theorem f_X11_45 : Cond.fieldLink RX11 45 "CombTableModel" "saidKind" "[I" ∈ jm_tbl := jm_tb (List.mem_of_getElem? (i := 1318) (by decide +kernel)) rfl
theorem f_X11_48 : Cond.fieldLink RX11 48 "CombTableModel" "answer" "[I" ∈ jm_tbl := jm_tb (List.mem_of_getElem? (i := 1319) (by decide +kernel)) rfl
theorem f_X11_51 : Cond.fieldLink RX11 51 "CombTableModel" "thread" "[I" ∈ jm_tbl := jm_tb (List.mem_of_getElem? (i := 1320) (by decide +kernel)) rfl
theorem f_X11_54 : Cond.fieldLink RX11 54 "CombTableModel" "depth" "[I" ∈ jm_tbl := jm_tb (List.mem_of_getElem? (i := 1321) (by decide +kernel)) rfl
theorem f_X11_57 : Cond.fieldLink RX11 57 "CombTableModel" "state" "[I" ∈ jm_tbl := jm_tb (List.mem_of_getElem? (i := 1322) (by decide +kernel)) rfl
theorem f_X11_60 : Cond.fieldLink RX11 60 "CombTableModel" "many" "[I" ∈ jm_tbl := jm_tb (List.mem_of_getElem? (i := 1323) (by decide +kernel)) rfl
theorem f_X11_63 : Cond.fieldLink RX11 63 "CombTableModel" "threadMany" "[I" ∈ jm_tbl := jm_tb (List.mem_of_getElem? (i := 1324) (by decide +kernel)) rfl
theorem f_X11_283 : Cond.fieldLink RX11 283 "CombTableModel" "why" "I" ∈ jm_tbl := jm_tb (List.mem_of_getElem? (i := 1325) (by decide +kernel)) rfl
theorem f_X11_295 : Cond.fieldLink RX11 295 "CombTableModel" "seed" "I" ∈ jm_tbl := jm_tb (List.mem_of_getElem? (i := 1326) (by decide +kernel)) rfl
theorem f_X11_308 : Cond.fieldLink RX11 308 "CombTableModel" "lineMany" "I" ∈ jm_tbl := jm_tb (List.mem_of_getElem? (i := 1327) (by decide +kernel)) rfl
theorem f_X11_305 : Cond.fieldLink RX11 305 "CombTableModel" "anyMany" "I" ∈ jm_tbl := jm_tb (List.mem_of_getElem? (i := 1328) (by decide +kernel)) rfl
theorem f_X11_66 : Cond.fieldLink RX11 66 "CombTableModel" "torn" "[I" ∈ jm_tbl := jm_tb (List.mem_of_getElem? (i := 1329) (by decide +kernel)) rfl
theorem f_X11_69 : Cond.fieldLink RX11 69 "CombTableModel" "wholeWho" "[I" ∈ jm_tbl := jm_tb (List.mem_of_getElem? (i := 1330) (by decide +kernel)) rfl
theorem f_X11_72 : Cond.fieldLink RX11 72 "CombTableModel" "wholeKind" "[I" ∈ jm_tbl := jm_tb (List.mem_of_getElem? (i := 1331) (by decide +kernel)) rfl
theorem f_X11_75 : Cond.fieldLink RX11 75 "CombTableModel" "wholeState" "[I" ∈ jm_tbl := jm_tb (List.mem_of_getElem? (i := 1332) (by decide +kernel)) rfl
theorem f_X11_78 : Cond.fieldLink RX11 78 "CombTableModel" "sureWho" "[I" ∈ jm_tbl := jm_tb (List.mem_of_getElem? (i := 1333) (by decide +kernel)) rfl
theorem f_X11_81 : Cond.fieldLink RX11 81 "CombTableModel" "sureKind" "[I" ∈ jm_tbl := jm_tb (List.mem_of_getElem? (i := 1334) (by decide +kernel)) rfl
theorem f_X11_84 : Cond.fieldLink RX11 84 "CombTableModel" "sureState" "[I" ∈ jm_tbl := jm_tb (List.mem_of_getElem? (i := 1335) (by decide +kernel)) rfl
theorem f_X11_317 : Cond.fieldLink RX11 317 "CombTableModel" "tornMany" "I" ∈ jm_tbl := jm_tb (List.mem_of_getElem? (i := 1336) (by decide +kernel)) rfl
theorem f_X11_320 : Cond.fieldLink RX11 320 "CombTableModel" "found" "I" ∈ jm_tbl := jm_tb (List.mem_of_getElem? (i := 1337) (by decide +kernel)) rfl
theorem f_X11_338 : Cond.fieldLink RX11 338 "CombTableModel" "sureMany" "I" ∈ jm_tbl := jm_tb (List.mem_of_getElem? (i := 1338) (by decide +kernel)) rfl
theorem f_X11_87 : Cond.fieldLink RX11 87 "CombTableModel" "mended" "I" ∈ jm_tbl := jm_tb (List.mem_of_getElem? (i := 1339) (by decide +kernel)) rfl
theorem f_X11_91 : Cond.fieldLink RX11 91 "CombTableModel" "order" "[I" ∈ jm_tbl := jm_tb (List.mem_of_getElem? (i := 1340) (by decide +kernel)) rfl
theorem f_X11_94 : Cond.fieldLink RX11 94 "CombTableModel" "firstOrder" "[I" ∈ jm_tbl := jm_tb (List.mem_of_getElem? (i := 1341) (by decide +kernel)) rfl
theorem f_X11_351 : Cond.fieldLink RX11 351 "CombTableModel" "orders" "I" ∈ jm_tbl := jm_tb (List.mem_of_getElem? (i := 1342) (by decide +kernel)) rfl
theorem f_X11_354 : Cond.fieldLink RX11 354 "CombTableModel" "orderMany" "I" ∈ jm_tbl := jm_tb (List.mem_of_getElem? (i := 1343) (by decide +kernel)) rfl
theorem f_X11_97 : Cond.fieldLink RX11 97 "CombTableModel" "path" "[I" ∈ jm_tbl := jm_tb (List.mem_of_getElem? (i := 1344) (by decide +kernel)) rfl
theorem f_X11_100 : Cond.fieldLink RX11 100 "CombTableModel" "road" "[I" ∈ jm_tbl := jm_tb (List.mem_of_getElem? (i := 1345) (by decide +kernel)) rfl
theorem f_X11_376 : Cond.fieldLink RX11 376 "CombTableModel" "roadMany" "I" ∈ jm_tbl := jm_tb (List.mem_of_getElem? (i := 1346) (by decide +kernel)) rfl
theorem f_X11_103 : Cond.fieldLink RX11 103 "CombTableModel" "node" "[I" ∈ jm_tbl := jm_tb (List.mem_of_getElem? (i := 1347) (by decide +kernel)) rfl
theorem f_X11_390 : Cond.fieldLink RX11 390 "CombTableModel" "nodes" "I" ∈ jm_tbl := jm_tb (List.mem_of_getElem? (i := 1348) (by decide +kernel)) rfl
theorem f_X11_405 : Cond.fieldLink RX11 405 "CombTableModel" "onesMany" "I" ∈ jm_tbl := jm_tb (List.mem_of_getElem? (i := 1349) (by decide +kernel)) rfl
theorem f_X11_408 : Cond.fieldLink RX11 408 "CombTableModel" "within" "I" ∈ jm_tbl := jm_tb (List.mem_of_getElem? (i := 1350) (by decide +kernel)) rfl
theorem f_X11_396 : Cond.fieldLink RX11 396 "CombTableModel" "top" "I" ∈ jm_tbl := jm_tb (List.mem_of_getElem? (i := 1351) (by decide +kernel)) rfl
theorem f_X7_84 : Cond.fieldLink RX7 84 "CombTable$Term" "letters" "J" ∈ jm_tbl := jm_tb (List.mem_of_getElem? (i := 1921) (by decide +kernel)) rfl
theorem f_X5_186 : Cond.fieldLink RX5 186 "CombTable$Term" "does" "I" ∈ jm_tbl := jm_tb (List.mem_of_getElem? (i := 1922) (by decide +kernel)) rfl
theorem k_X8_123 : Cond.constantLong RX8 123 (Int64.ofInt 32) ∈ jm_tbl := jm_tb (List.mem_of_getElem? (i := 579) (by decide +kernel)) rfl
theorem k_X10_190 : Cond.constantLong RX10 190 (Int64.ofInt 20000) ∈ jm_tbl := jm_tb (List.mem_of_getElem? (i := 883) (by decide +kernel)) rfl
theorem k_X10_205 : Cond.constantLong RX10 205 (Int64.ofInt 100000) ∈ jm_tbl := jm_tb (List.mem_of_getElem? (i := 933) (by decide +kernel)) rfl
theorem k_X3_18 : Cond.constantLong RX3 18 (Int64.ofInt 300000) ∈ jm_tbl := jm_tb (List.mem_of_getElem? (i := 1023) (by decide +kernel)) rfl
theorem k_X11_152 : Cond.constantLong RX11 152 (Int64.ofInt 27) ∈ jm_tbl := jm_tb (List.mem_of_getElem? (i := 1512) (by decide +kernel)) rfl
theorem k_X11_154 : Cond.constantLong RX11 154 (Int64.ofInt 96) ∈ jm_tbl := jm_tb (List.mem_of_getElem? (i := 1513) (by decide +kernel)) rfl
theorem k_X11_367 : Cond.constantLong RX11 367 (Int64.ofInt 300000) ∈ jm_tbl := jm_tb (List.mem_of_getElem? (i := 1809) (by decide +kernel)) rfl
theorem k_X9_74 : Cond.constant RX9 74 (Int32.ofInt 1000000) ∈ jm_tbl := jm_tb (List.mem_of_getElem? (i := 892) (by decide +kernel)) rfl
theorem k_J6_265 : Cond.constant RJ6 265 (Int32.ofInt 1431655765) ∈ jm_tbl := jm_tb (List.mem_of_getElem? (i := 996) (by decide +kernel)) rfl
theorem k_J6_266 : Cond.constant RJ6 266 (Int32.ofInt 858993459) ∈ jm_tbl := jm_tb (List.mem_of_getElem? (i := 997) (by decide +kernel)) rfl
theorem k_J6_267 : Cond.constant RJ6 267 (Int32.ofInt 252645135) ∈ jm_tbl := jm_tb (List.mem_of_getElem? (i := 998) (by decide +kernel)) rfl
theorem k_X10_230 : Cond.constant RX10 230 (Int32.ofInt 1103515245) ∈ jm_tbl := jm_tb (List.mem_of_getElem? (i := 999) (by decide +kernel)) rfl
theorem k_X11_298 : Cond.constant RX11 298 (Int32.ofInt 1103515245) ∈ jm_tbl := jm_tb (List.mem_of_getElem? (i := 1721) (by decide +kernel)) rfl
theorem k_X11_341 : Cond.constant RX11 341 (Int32.ofInt 100000) ∈ jm_tbl := jm_tb (List.mem_of_getElem? (i := 1766) (by decide +kernel)) rfl
