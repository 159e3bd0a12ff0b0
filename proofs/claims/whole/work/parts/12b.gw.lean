/-! words of the tables (by program) -/
theorem gw {w : Cond} (i : Nat) (h : lw_tbl[i]? = some w) (hg : goodWord w = true) : w ∈ GW := List.mem_filter.mpr ⟨List.mem_of_getElem? h, hg⟩
set_option maxRecDepth 100000 in
theorem gw_130 : Cond.code yX12_init cX12_init 4 (none) ∈ GW := gw 130 rfl rfl
theorem gw_104 : Cond.initialized "WayMayor" ∈ GW := gw 104 (by decide +kernel) (by decide +kernel)
set_option maxRecDepth 100000 in
theorem gw_591 : Cond.code yX12_feed cX12_feed 6 (some .int) ∈ GW := gw 591 rfl rfl
set_option maxRecDepth 100000 in
theorem gw_599 : Cond.code yX12_end cX12_end 2 (some .int) ∈ GW := gw 599 rfl rfl
set_option maxRecDepth 100000 in
theorem gw_603 : Cond.code yX12_town cX12_town 2 (some .int) ∈ GW := gw 603 rfl rfl
set_option maxRecDepth 100000 in
theorem gw_807 : Cond.code yX12_rule cX12_rule 2 (some .int) ∈ GW := gw 807 rfl rfl
set_option maxRecDepth 100000 in
theorem gw_887 : Cond.code yX12_force cX12_force 3 (some .int) ∈ GW := gw 887 rfl rfl
set_option maxRecDepth 100000 in
theorem gw_891 : Cond.code yX12_person cX12_person 3 (some .int) ∈ GW := gw 891 rfl rfl
set_option maxRecDepth 100000 in
theorem gw_899 : Cond.code yX12_stranger cX12_stranger 3 (some .int) ∈ GW := gw 899 rfl rfl
set_option maxRecDepth 100000 in
theorem gw_907 : Cond.code yX12_streets cX12_streets 2 (some .int) ∈ GW := gw 907 rfl rfl
set_option maxRecDepth 100000 in
theorem gw_916 : Cond.code yX12_before cX12_before 3 (some .int) ∈ GW := gw 916 rfl rfl
set_option maxRecDepth 100000 in
theorem gw_920 : Cond.code yX12_hour cX12_hour 1 (some .int) ∈ GW := gw 920 rfl rfl
set_option maxRecDepth 100000 in
theorem gw_1015 : Cond.code yX12_stand cX12_stand 4 (some .int) ∈ GW := gw 1015 rfl rfl
set_option maxRecDepth 100000 in
theorem gw_1019 : Cond.code yX12_collar cX12_collar 4 (some .int) ∈ GW := gw 1019 rfl rfl
set_option maxRecDepth 100000 in
theorem gw_1026 : Cond.code yX12_shut cX12_shut 5 (some .int) ∈ GW := gw 1026 rfl rfl
set_option maxRecDepth 100000 in
theorem gw_1031 : Cond.code yX12_hunt cX12_hunt 3 (some .int) ∈ GW := gw 1031 rfl rfl
set_option maxRecDepth 100000 in
theorem gw_1035 : Cond.code yX12_undo cX12_undo 1 (some .int) ∈ GW := gw 1035 rfl rfl
set_option maxRecDepth 100000 in
theorem gw_1043 : Cond.code yX12_ahead cX12_ahead 6 (some .int) ∈ GW := gw 1043 rfl rfl
set_option maxRecDepth 100000 in
theorem gw_1057 : Cond.code yX12_mayor cX12_mayor 2 (some .int) ∈ GW := gw 1057 rfl rfl
set_option maxRecDepth 100000 in
theorem gw_1066 : Cond.code yX12_pitch cX12_pitch 4 (some .int) ∈ GW := gw 1066 rfl rfl
set_option maxRecDepth 100000 in
theorem gw_1074 : Cond.code yX12_smile cX12_smile 3 (some .int) ∈ GW := gw 1074 rfl rfl
set_option maxRecDepth 100000 in
theorem gw_1082 : Cond.code yX12_way cX12_way 5 (some .int) ∈ GW := gw 1082 rfl rfl
set_option maxRecDepth 100000 in
theorem gw_1089 : Cond.code yX12_came cX12_came 5 (some .int) ∈ GW := gw 1089 rfl rfl
set_option maxRecDepth 100000 in
theorem gw_1097 : Cond.code yX12_post cX12_post 3 (some .int) ∈ GW := gw 1097 rfl rfl
set_option maxRecDepth 100000 in
theorem gw_1111 : Cond.code yX12_game cX12_game 6 (some .int) ∈ GW := gw 1111 rfl rfl
set_option maxRecDepth 100000 in
theorem gw_1128 : Cond.code yX12_rests cX12_rests 6 (some .int) ∈ GW := gw 1128 rfl rfl
set_option maxRecDepth 100000 in
theorem gw_1144 : Cond.code yX12_pence cX12_pence 3 (some .int) ∈ GW := gw 1144 rfl rfl
set_option maxRecDepth 100000 in
theorem gw_1156 : Cond.code yX12_markets cX12_markets 6 (some .int) ∈ GW := gw 1156 rfl rfl
set_option maxRecDepth 100000 in
theorem gw_1175 : Cond.code yX12_note cX12_note 5 (some .int) ∈ GW := gw 1175 rfl rfl
set_option maxRecDepth 100000 in
theorem gw_1183 : Cond.code yX12_liars cX12_liars 2 (some .int) ∈ GW := gw 1183 rfl rfl
set_option maxRecDepth 100000 in
theorem gw_1199 : Cond.code yX12_ruled cX12_ruled 2 (some .int) ∈ GW := gw 1199 rfl rfl
set_option maxRecDepth 100000 in
theorem gw_1207 : Cond.code yX12_look cX12_look 3 (some .int) ∈ GW := gw 1207 rfl rfl
set_option maxRecDepth 100000 in
theorem gw_1220 : Cond.code yX12_seed cX12_seed 3 (some .int) ∈ GW := gw 1220 rfl rfl
set_option maxRecDepth 100000 in
theorem gw_1224 : Cond.code yX12_count cX12_count 2 (some .int) ∈ GW := gw 1224 rfl rfl
set_option maxRecDepth 100000 in
theorem gw_1229 : Cond.code yX12_image cX12_image 3 (some .int) ∈ GW := gw 1229 rfl rfl
set_option maxRecDepth 100000 in
theorem gw_1243 : Cond.code yX12_back cX12_back 3 (some .int) ∈ GW := gw 1243 rfl rfl
set_option maxRecDepth 100000 in
theorem gw_924 : Cond.code yX12_hasTown cX12_hasTown 1 (some .boolean) ∈ GW := gw 924 rfl rfl
set_option maxRecDepth 100000 in
theorem gw_911 : Cond.code yX12_isPlace cX12_isPlace 2 (some .boolean) ∈ GW := gw 911 rfl rfl
set_option maxRecDepth 100000 in
theorem gw_895 : Cond.code yX12_isPerson cX12_isPerson 2 (some .boolean) ∈ GW := gw 895 rfl rfl
set_option maxRecDepth 100000 in
theorem gw_903 : Cond.code yX12_isStranger cX12_isStranger 2 (some .boolean) ∈ GW := gw 903 rfl rfl
set_option maxRecDepth 100000 in
theorem gw_1022 : Cond.code yX12_within cX12_within 3 (some .boolean) ∈ GW := gw 1022 rfl rfl
set_option maxRecDepth 100000 in
theorem gw_941 : Cond.code yX12_ruleNumbered cX12_ruleNumbered 2 (some (.object "WayMayor$Rule")) ∈ GW := gw 941 rfl rfl
set_option maxRecDepth 100000 in
theorem gw_937 : Cond.code yX12_windClock cX12_windClock 1 (none) ∈ GW := gw 937 rfl rfl
set_option maxRecDepth 100000 in
theorem gw_1248 : Cond.code yX13_init cX13_init 1 (none) ∈ GW := gw 1248 rfl rfl
theorem gw_118 : Cond.initialized "WayMayorModel" ∈ GW := gw 118 (by decide +kernel) (by decide +kernel)
set_option maxRecDepth 100000 in
theorem gw_1519 : Cond.code yX13_in cX13_in 6 (some .boolean) ∈ GW := gw 1519 rfl rfl
set_option maxRecDepth 100000 in
theorem gw_1696 : Cond.code yX13_has cX13_has 2 (some .boolean) ∈ GW := gw 1696 rfl rfl
set_option maxRecDepth 100000 in
theorem gw_1665 : Cond.code yX13_isTown cX13_isTown 1 (some .boolean) ∈ GW := gw 1665 rfl rfl
set_option maxRecDepth 100000 in
theorem gw_1637 : Cond.code yX13_isPlace cX13_isPlace 2 (some .boolean) ∈ GW := gw 1637 rfl rfl
set_option maxRecDepth 100000 in
theorem gw_1621 : Cond.code yX13_isPerson cX13_isPerson 2 (some .boolean) ∈ GW := gw 1621 rfl rfl
set_option maxRecDepth 100000 in
theorem gw_1629 : Cond.code yX13_isStranger cX13_isStranger 2 (some .boolean) ∈ GW := gw 1629 rfl rfl
set_option maxRecDepth 100000 in
theorem gw_1444 : Cond.code yX13_feed cX13_feed 6 (some .int) ∈ GW := gw 1444 rfl rfl
set_option maxRecDepth 100000 in
theorem gw_1448 : Cond.code yX13_put cX13_put 3 (none) ∈ GW := gw 1448 rfl rfl
set_option maxRecDepth 100000 in
theorem gw_1452 : Cond.code yX13_end cX13_end 2 (some .int) ∈ GW := gw 1452 rfl rfl
set_option maxRecDepth 100000 in
theorem gw_1566 : Cond.code yX13_wordOf cX13_wordOf 1 (some (.object "java/lang/String")) ∈ GW := gw 1566 rfl rfl
set_option maxRecDepth 100000 in
theorem gw_1493 : Cond.code yX13_fails cX13_fails 3 (none) ∈ GW := gw 1493 rfl rfl
set_option maxRecDepth 100000 in
theorem gw_1476 : Cond.code yX13_sign cX13_sign 1 (some .int) ∈ GW := gw 1476 rfl rfl
set_option maxRecDepth 100000 in
theorem gw_1472 : Cond.code yX13_blanks cX13_blanks 1 (none) ∈ GW := gw 1472 rfl rfl
set_option maxRecDepth 100000 in
theorem gw_1514 : Cond.code yX13_isDigit cX13_isDigit 1 (some .boolean) ∈ GW := gw 1514 rfl rfl
set_option maxRecDepth 100000 in
theorem gw_1487 : Cond.code yX13_stood cX13_stood 5 (some .boolean) ∈ GW := gw 1487 rfl rfl
set_option maxRecDepth 100000 in
theorem gw_1581 : Cond.code yX13_takes cX13_takes 3 (some .boolean) ∈ GW := gw 1581 rfl rfl
set_option maxRecDepth 100000 in
theorem gw_1563 : Cond.code yX13_entry cX13_entry 3 (none) ∈ GW := gw 1563 rfl rfl
set_option maxRecDepth 100000 in
theorem gw_1559 : Cond.code yX13_isCounted cX13_isCounted 2 (none) ∈ GW := gw 1559 rfl rfl
set_option maxRecDepth 100000 in
theorem gw_1510 : Cond.code yX13_digits cX13_digits 4 (some .int) ∈ GW := gw 1510 rfl rfl
set_option maxRecDepth 100000 in
theorem gw_1555 : Cond.code yX13_value cX13_value 3 (none) ∈ GW := gw 1555 rfl rfl
set_option maxRecDepth 100000 in
theorem gw_1551 : Cond.code yX13_term cX13_term 2 (none) ∈ GW := gw 1551 rfl rfl
set_option maxRecDepth 100000 in
theorem gw_1547 : Cond.code yX13_sum cX13_sum 2 (none) ∈ GW := gw 1547 rfl rfl
set_option maxRecDepth 100000 in
theorem gw_1598 : Cond.code yX13_compared cX13_compared 3 (none) ∈ GW := gw 1598 rfl rfl
set_option maxRecDepth 100000 in
theorem gw_1606 : Cond.code yX13_top cX13_top 1 (some .int) ∈ GW := gw 1606 rfl rfl
set_option maxRecDepth 100000 in
theorem gw_1594 : Cond.code yX13_opens cX13_opens 2 (none) ∈ GW := gw 1594 rfl rfl
set_option maxRecDepth 100000 in
theorem gw_1602 : Cond.code yX13_answers cX13_answers 2 (none) ∈ GW := gw 1602 rfl rfl
set_option maxRecDepth 100000 in
theorem gw_1589 : Cond.code yX13_fact cX13_fact 1 (some .boolean) ∈ GW := gw 1589 rfl rfl
set_option maxRecDepth 100000 in
theorem gw_1585 : Cond.code yX13_test cX13_test 5 (none) ∈ GW := gw 1585 rfl rfl
set_option maxRecDepth 100000 in
theorem gw_1505 : Cond.code yX13_amount cX13_amount 5 (some .int) ∈ GW := gw 1505 rfl rfl
set_option maxRecDepth 100000 in
theorem gw_1523 : Cond.code yX13_unlikePlace cX13_unlikePlace 4 (some .int) ∈ GW := gw 1523 rfl rfl
set_option maxRecDepth 100000 in
theorem gw_1479 : Cond.code yX13_townWord cX13_townWord 1 (some (.object "java/lang/String")) ∈ GW := gw 1479 rfl rfl
set_option maxRecDepth 100000 in
theorem gw_1501 : Cond.code yX13_townPart cX13_townPart 5 (none) ∈ GW := gw 1501 rfl rfl
set_option maxRecDepth 100000 in
theorem gw_1497 : Cond.code yX13_isFull cX13_isFull 3 (some .boolean) ∈ GW := gw 1497 rfl rfl
set_option maxRecDepth 100000 in
theorem gw_1468 : Cond.code yX13_townClause cX13_townClause 4 (none) ∈ GW := gw 1468 rfl rfl
set_option maxRecDepth 100000 in
theorem gw_1530 : Cond.code yX13_copies cX13_copies 3 (none) ∈ GW := gw 1530 rfl rfl
set_option maxRecDepth 100000 in
theorem gw_1527 : Cond.code yX13_goesOn cX13_goesOn 2 (some .boolean) ∈ GW := gw 1527 rfl rfl
set_option maxRecDepth 100000 in
theorem gw_1464 : Cond.code yX13_starts cX13_starts 1 (none) ∈ GW := gw 1464 rfl rfl
set_option maxRecDepth 100000 in
theorem gw_1460 : Cond.code yX13_readsAll cX13_readsAll 3 (none) ∈ GW := gw 1460 rfl rfl
set_option maxRecDepth 100000 in
theorem gw_1534 : Cond.code yX13_begins cX13_begins 2 (none) ∈ GW := gw 1534 rfl rfl
set_option maxRecDepth 100000 in
theorem gw_1456 : Cond.code yX13_town cX13_town 2 (some .int) ∈ GW := gw 1456 rfl rfl
set_option maxRecDepth 100000 in
theorem gw_1542 : Cond.code yX13_ruleClause cX13_ruleClause 4 (none) ∈ GW := gw 1542 rfl rfl
set_option maxRecDepth 100000 in
theorem gw_1538 : Cond.code yX13_rule cX13_rule 3 (some .int) ∈ GW := gw 1538 rfl rfl
set_option maxRecDepth 100000 in
theorem gw_1612 : Cond.code yX13_force cX13_force 3 (some .int) ∈ GW := gw 1612 rfl rfl
set_option maxRecDepth 100000 in
theorem gw_1700 : Cond.code yX13_wanted cX13_wanted 3 (some .long) ∈ GW := gw 1700 rfl rfl
set_option maxRecDepth 100000 in
theorem gw_1710 : Cond.code yX13_truth cX13_truth 1 (some .long) ∈ GW := gw 1710 rfl rfl
set_option maxRecDepth 100000 in
theorem gw_1707 : Cond.code yX13_both cX13_both 5 (some .long) ∈ GW := gw 1707 rfl rfl
set_option maxRecDepth 100000 in
theorem gw_1704 : Cond.code yX13_answer cX13_answer 8 (some .long) ∈ GW := gw 1704 rfl rfl
set_option maxRecDepth 100000 in
theorem gw_1617 : Cond.code yX13_person cX13_person 3 (some .int) ∈ GW := gw 1617 rfl rfl
set_option maxRecDepth 100000 in
theorem gw_1625 : Cond.code yX13_stranger cX13_stranger 3 (some .int) ∈ GW := gw 1625 rfl rfl
set_option maxRecDepth 100000 in
theorem gw_1633 : Cond.code yX13_streets cX13_streets 2 (some .int) ∈ GW := gw 1633 rfl rfl
set_option maxRecDepth 100000 in
theorem gw_1641 : Cond.code yX13_before cX13_before 3 (some .int) ∈ GW := gw 1641 rfl rfl
set_option maxRecDepth 100000 in
theorem gw_1693 : Cond.code yX13_farFrom cX13_farFrom 7 (some .int) ∈ GW := gw 1693 rfl rfl
set_option maxRecDepth 100000 in
theorem gw_1722 : Cond.code yX13_firstOn cX13_firstOn 5 (some .int) ∈ GW := gw 1722 rfl rfl
set_option maxRecDepth 100000 in
theorem gw_1714 : Cond.code yX13_leastBy cX13_leastBy 3 (some .int) ∈ GW := gw 1714 rfl rfl
set_option maxRecDepth 100000 in
theorem gw_1718 : Cond.code yX13_greatestBy cX13_greatestBy 4 (some .int) ∈ GW := gw 1718 rfl rfl
set_option maxRecDepth 100000 in
theorem gw_1843 : Cond.code yX13_allAsked cX13_allAsked 3 (some .int) ∈ GW := gw 1843 rfl rfl
set_option maxRecDepth 100000 in
theorem gw_1689 : Cond.code yX13_howManyAt cX13_howManyAt 4 (some .int) ∈ GW := gw 1689 rfl rfl
set_option maxRecDepth 100000 in
theorem gw_1685 : Cond.code yX13_likes cX13_likes 3 (some .long) ∈ GW := gw 1685 rfl rfl
set_option maxRecDepth 100000 in
theorem gw_1681 : Cond.code yX13_whom cX13_whom 8 (some .int) ∈ GW := gw 1681 rfl rfl
set_option maxRecDepth 100000 in
theorem gw_1677 : Cond.code yX13_walks cX13_walks 3 (none) ∈ GW := gw 1677 rfl rfl
set_option maxRecDepth 100000 in
theorem gw_1726 : Cond.code yX13_endsTerm cX13_endsTerm 3 (none) ∈ GW := gw 1726 rfl rfl
set_option maxRecDepth 100000 in
theorem gw_1673 : Cond.code yX13_goes cX13_goes 3 (some .int) ∈ GW := gw 1673 rfl rfl
set_option maxRecDepth 100000 in
theorem gw_1770 : Cond.code yX13_goFor cX13_goFor 3 (none) ∈ GW := gw 1770 rfl rfl
set_option maxRecDepth 100000 in
theorem gw_1653 : Cond.code yX13_moves cX13_moves 3 (some .int) ∈ GW := gw 1653 rfl rfl
set_option maxRecDepth 100000 in
theorem gw_1657 : Cond.code yX13_movesRow cX13_movesRow 3 (none) ∈ GW := gw 1657 rfl rfl
set_option maxRecDepth 100000 in
theorem gw_1649 : Cond.code yX13_movesAll cX13_movesAll 4 (none) ∈ GW := gw 1649 rfl rfl
set_option maxRecDepth 100000 in
theorem gw_1669 : Cond.code yX13_keepsAct cX13_keepsAct 2 (none) ∈ GW := gw 1669 rfl rfl
set_option maxRecDepth 100000 in
theorem gw_1645 : Cond.code yX13_undo cX13_undo 1 (some .int) ∈ GW := gw 1645 rfl rfl
set_option maxRecDepth 100000 in
theorem gw_1661 : Cond.code yX13_hour cX13_hour 1 (some .int) ∈ GW := gw 1661 rfl rfl
set_option maxRecDepth 100000 in
theorem gw_1730 : Cond.code yX13_stand cX13_stand 4 (some .int) ∈ GW := gw 1730 rfl rfl
set_option maxRecDepth 100000 in
theorem gw_1734 : Cond.code yX13_collar cX13_collar 4 (some .int) ∈ GW := gw 1734 rfl rfl
set_option maxRecDepth 100000 in
theorem gw_1743 : Cond.code yX13_shuts cX13_shuts 3 (none) ∈ GW := gw 1743 rfl rfl
set_option maxRecDepth 100000 in
theorem gw_1739 : Cond.code yX13_shut cX13_shut 3 (some .int) ∈ GW := gw 1739 rfl rfl
set_option maxRecDepth 100000 in
theorem gw_1747 : Cond.code yX13_hunt cX13_hunt 3 (some .int) ∈ GW := gw 1747 rfl rfl
set_option maxRecDepth 100000 in
theorem gw_1758 : Cond.code yX13_keepsAll cX13_keepsAll 1 (none) ∈ GW := gw 1758 rfl rfl
set_option maxRecDepth 100000 in
theorem gw_1774 : Cond.code yX13_laysBack cX13_laysBack 1 (none) ∈ GW := gw 1774 rfl rfl
set_option maxRecDepth 100000 in
theorem gw_1751 : Cond.code yX13_ahead cX13_ahead 6 (some .int) ∈ GW := gw 1751 rfl rfl
set_option maxRecDepth 100000 in
theorem gw_1778 : Cond.code yX13_mayor cX13_mayor 4 (some .int) ∈ GW := gw 1778 rfl rfl
set_option maxRecDepth 100000 in
theorem gw_1787 : Cond.code yX13_askedIn cX13_askedIn 5 (some .int) ∈ GW := gw 1787 rfl rfl
set_option maxRecDepth 100000 in
theorem gw_1782 : Cond.code yX13_pitch cX13_pitch 8 (some .int) ∈ GW := gw 1782 rfl rfl
set_option maxRecDepth 100000 in
theorem gw_1791 : Cond.code yX13_smile cX13_smile 5 (some .int) ∈ GW := gw 1791 rfl rfl
set_option maxRecDepth 100000 in
theorem gw_1795 : Cond.code yX13_way cX13_way 5 (some .int) ∈ GW := gw 1795 rfl rfl
set_option maxRecDepth 100000 in
theorem gw_1799 : Cond.code yX13_came cX13_came 9 (some .int) ∈ GW := gw 1799 rfl rfl
set_option maxRecDepth 100000 in
theorem gw_1804 : Cond.code yX13_post cX13_post 10 (some .int) ∈ GW := gw 1804 rfl rfl
set_option maxRecDepth 100000 in
theorem gw_1808 : Cond.code yX13_comeIn cX13_comeIn 3 (some .int) ∈ GW := gw 1808 rfl rfl
set_option maxRecDepth 100000 in
theorem gw_1816 : Cond.code yX13_playOf cX13_playOf 12 (some .int) ∈ GW := gw 1816 rfl rfl
set_option maxRecDepth 100000 in
theorem gw_1821 : Cond.code yX13_bestAt cX13_bestAt 7 (some .int) ∈ GW := gw 1821 rfl rfl
set_option maxRecDepth 100000 in
theorem gw_1812 : Cond.code yX13_game cX13_game 9 (some .int) ∈ GW := gw 1812 rfl rfl
set_option maxRecDepth 100000 in
theorem gw_1830 : Cond.code yX13_laysPlaces cX13_laysPlaces 6 (none) ∈ GW := gw 1830 rfl rfl
set_option maxRecDepth 100000 in
theorem gw_1834 : Cond.code yX13_isRest cX13_isRest 4 (some .boolean) ∈ GW := gw 1834 rfl rfl
set_option maxRecDepth 100000 in
theorem gw_1825 : Cond.code yX13_rests cX13_rests 10 (some .int) ∈ GW := gw 1825 rfl rfl
set_option maxRecDepth 100000 in
theorem gw_1838 : Cond.code yX13_pence cX13_pence 8 (some .int) ∈ GW := gw 1838 rfl rfl
set_option maxRecDepth 100000 in
theorem gw_1847 : Cond.code yX13_note cX13_note 5 (some .int) ∈ GW := gw 1847 rfl rfl
set_option maxRecDepth 100000 in
theorem gw_1859 : Cond.code yX13_doNotesFit cX13_doNotesFit 3 (some .boolean) ∈ GW := gw 1859 rfl rfl
set_option maxRecDepth 100000 in
theorem gw_1855 : Cond.code yX13_couldRule cX13_couldRule 2 (some .boolean) ∈ GW := gw 1855 rfl rfl
set_option maxRecDepth 100000 in
theorem gw_1851 : Cond.code yX13_ruled cX13_ruled 5 (some .int) ∈ GW := gw 1851 rfl rfl
set_option maxRecDepth 100000 in
theorem gw_1863 : Cond.code yX13_liars cX13_liars 7 (some .int) ∈ GW := gw 1863 rfl rfl
set_option maxRecDepth 100000 in
theorem gw_1871 : Cond.code yX13_mostAlike cX13_mostAlike 7 (some .int) ∈ GW := gw 1871 rfl rfl
set_option maxRecDepth 100000 in
theorem gw_1867 : Cond.code yX13_look cX13_look 6 (some .int) ∈ GW := gw 1867 rfl rfl
set_option maxRecDepth 100000 in
theorem gw_1875 : Cond.code yX13_seed cX13_seed 3 (some .int) ∈ GW := gw 1875 rfl rfl
set_option maxRecDepth 100000 in
theorem gw_1884 : Cond.code yX13_draws cX13_draws 2 (some .int) ∈ GW := gw 1884 rfl rfl
set_option maxRecDepth 100000 in
theorem gw_1879 : Cond.code yX13_markets cX13_markets 12 (some .int) ∈ GW := gw 1879 rfl rfl
set_option maxRecDepth 100000 in
theorem gw_1892 : Cond.code yX13_count cX13_count 2 (some .int) ∈ GW := gw 1892 rfl rfl
set_option maxRecDepth 100000 in
theorem gw_1766 : Cond.code yX13_carryRow cX13_carryRow 3 (none) ∈ GW := gw 1766 rfl rfl
set_option maxRecDepth 100000 in
theorem gw_1762 : Cond.code yX13_carriesAll cX13_carriesAll 3 (none) ∈ GW := gw 1762 rfl rfl
set_option maxRecDepth 100000 in
theorem gw_1896 : Cond.code yX13_image cX13_image 2 (some .int) ∈ GW := gw 1896 rfl rfl
set_option maxRecDepth 100000 in
theorem gw_1900 : Cond.code yX13_back cX13_back 2 (some .int) ∈ GW := gw 1900 rfl rfl
set_option maxRecDepth 100000 in
theorem gw_381 : Cond.code yX0_init cX0_init 1 (none) ∈ GW := gw 381 rfl rfl
theorem gw_110 : Cond.initialized "WayMayor$Clock" ∈ GW := gw 110 (by decide +kernel) (by decide +kernel)
set_option maxRecDepth 100000 in
theorem gw_945 : Cond.code yX0_wind cX0_wind 4 (none) ∈ GW := gw 945 rfl rfl
set_option maxRecDepth 100000 in
theorem gw_1052 : Cond.code yX0_run cX0_run 4 (none) ∈ GW := gw 1052 rfl rfl
set_option maxRecDepth 100000 in
theorem gw_949 : Cond.code yX0_pass cX0_pass 4 (some .int) ∈ GW := gw 949 rfl rfl
set_option maxRecDepth 100000 in
theorem gw_957 : Cond.code yX0_arrive cX0_arrive 4 (none) ∈ GW := gw 957 rfl rfl
set_option maxRecDepth 100000 in
theorem gw_961 : Cond.code yX0_choose cX0_choose 9 (some .int) ∈ GW := gw 961 rfl rfl
set_option maxRecDepth 100000 in
theorem gw_966 : Cond.code yX0_tellOfStranger cX0_tellOfStranger 5 (none) ∈ GW := gw 966 rfl rfl
set_option maxRecDepth 100000 in
theorem gw_974 : Cond.code yX0_tellOfPerson cX0_tellOfPerson 4 (none) ∈ GW := gw 974 rfl rfl
set_option maxRecDepth 100000 in
theorem gw_990 : Cond.code yX0_countAsked cX0_countAsked 4 (none) ∈ GW := gw 990 rfl rfl
set_option maxRecDepth 100000 in
theorem gw_994 : Cond.code yX0_whereTo cX0_whereTo 5 (some .int) ∈ GW := gw 994 rfl rfl
set_option maxRecDepth 100000 in
theorem gw_1010 : Cond.code yX0_closeTerm cX0_closeTerm 4 (none) ∈ GW := gw 1010 rfl rfl
set_option maxRecDepth 100000 in
theorem gw_537 : Cond.code yX1_init cX1_init 3 (none) ∈ GW := gw 537 rfl rfl
theorem gw_117 : Cond.initialized "WayMayor$History" ∈ GW := gw 117 (by decide +kernel) (by decide +kernel)
set_option maxRecDepth 100000 in
theorem gw_1187 : Cond.code yX1_wrongSets cX1_wrongSets 7 (some .int) ∈ GW := gw 1187 rfl rfl
set_option maxRecDepth 100000 in
theorem gw_1203 : Cond.code yX1_rulesThatFit cX1_rulesThatFit 7 (some .int) ∈ GW := gw 1203 rfl rfl
set_option maxRecDepth 100000 in
theorem gw_1211 : Cond.code yX1_bestLook cX1_bestLook 10 (some .int) ∈ GW := gw 1211 rfl rfl
set_option maxRecDepth 100000 in
theorem gw_1216 : Cond.code yX1_mostAlike cX1_mostAlike 7 (some .int) ∈ GW := gw 1216 rfl rfl
set_option maxRecDepth 100000 in
theorem gw_1192 : Cond.code yX1_notesAreSo cX1_notesAreSo 4 (some .boolean) ∈ GW := gw 1192 rfl rfl
set_option maxRecDepth 100000 in
theorem gw_495 : Cond.code yX2_init cX2_init 4 (none) ∈ GW := gw 495 rfl rfl
theorem gw_116 : Cond.initialized "WayMayor$Outlook" ∈ GW := gw 116 (by decide +kernel) (by decide +kernel)
set_option maxRecDepth 100000 in
theorem gw_1047 : Cond.code yX2_after cX2_after 2 (some (.object "WayMayor$State")) ∈ GW := gw 1047 rfl rfl
set_option maxRecDepth 100000 in
theorem gw_1061 : Cond.code yX2_firstChain cX2_firstChain 3 (some .int) ∈ GW := gw 1061 rfl rfl
set_option maxRecDepth 100000 in
theorem gw_1070 : Cond.code yX2_bestPitch cX2_bestPitch 8 (some .int) ∈ GW := gw 1070 rfl rfl
set_option maxRecDepth 100000 in
theorem gw_1078 : Cond.code yX2_leastSmile cX2_leastSmile 4 (some .int) ∈ GW := gw 1078 rfl rfl
set_option maxRecDepth 100000 in
theorem gw_1093 : Cond.code yX2_cameFrom cX2_cameFrom 8 (some .int) ∈ GW := gw 1093 rfl rfl
set_option maxRecDepth 100000 in
theorem gw_1101 : Cond.code yX2_bestShut cX2_bestShut 11 (some .int) ∈ GW := gw 1101 rfl rfl
set_option maxRecDepth 100000 in
theorem gw_1105 : Cond.code yX2_comeBy cX2_comeBy 4 (some .int) ∈ GW := gw 1105 rfl rfl
set_option maxRecDepth 100000 in
theorem gw_1115 : Cond.code yX2_duel cX2_duel 6 (some .int) ∈ GW := gw 1115 rfl rfl
set_option maxRecDepth 100000 in
theorem gw_1119 : Cond.code yX2_play cX2_play 11 (some .int) ∈ GW := gw 1119 rfl rfl
set_option maxRecDepth 100000 in
theorem gw_1123 : Cond.code yX2_lead cX2_lead 2 (some .int) ∈ GW := gw 1123 rfl rfl
set_option maxRecDepth 100000 in
theorem gw_1132 : Cond.code yX2_stableTwos cX2_stableTwos 10 (some .int) ∈ GW := gw 1132 rfl rfl
set_option maxRecDepth 100000 in
theorem gw_1136 : Cond.code yX2_fillGains cX2_fillGains 7 (none) ∈ GW := gw 1136 rfl rfl
set_option maxRecDepth 100000 in
theorem gw_1140 : Cond.code yX2_rest cX2_rest 5 (some .boolean) ∈ GW := gw 1140 rfl rfl
set_option maxRecDepth 100000 in
theorem gw_1160 : Cond.code yX2_drawn cX2_drawn 9 (some .int) ∈ GW := gw 1160 rfl rfl
set_option maxRecDepth 100000 in
theorem gw_1171 : Cond.code yX2_placeByDraw cX2_placeByDraw 4 (none) ∈ GW := gw 1171 rfl rfl
set_option maxRecDepth 100000 in
theorem gw_1164 : Cond.code yX2_draw cX2_draw 1 (some .int) ∈ GW := gw 1164 rfl rfl
set_option maxRecDepth 100000 in
theorem gw_319 : Cond.code yX3_init cX3_init 2 (none) ∈ GW := gw 319 rfl rfl
theorem gw_109 : Cond.initialized "WayMayor$Past" ∈ GW := gw 109 (by decide +kernel) (by decide +kernel)
set_option maxRecDepth 100000 in
theorem gw_802 : Cond.code yX3_clear cX3_clear 1 (none) ∈ GW := gw 802 rfl rfl
set_option maxRecDepth 100000 in
theorem gw_928 : Cond.code yX3_push cX3_push 2 (none) ∈ GW := gw 928 rfl rfl
set_option maxRecDepth 100000 in
theorem gw_1039 : Cond.code yX3_pop cX3_pop 2 (none) ∈ GW := gw 1039 rfl rfl
set_option maxRecDepth 100000 in
theorem gw_1238 : Cond.code yX3_copyFrom cX3_copyFrom 4 (none) ∈ GW := gw 1238 rfl rfl
set_option maxRecDepth 100000 in
theorem gw_457 : Cond.code yX4_init cX4_init 1 (none) ∈ GW := gw 457 rfl rfl
theorem gw_115 : Cond.initialized "WayMayor$Rule" ∈ GW := gw 115 (by decide +kernel) (by decide +kernel)
set_option maxRecDepth 100000 in
theorem gw_815 : Cond.code yX4_clear cX4_clear 1 (none) ∈ GW := gw 815 rfl rfl
set_option maxRecDepth 100000 in
theorem gw_842 : Cond.code yX4_isFull cX4_isFull 1 (some .boolean) ∈ GW := gw 842 rfl rfl
set_option maxRecDepth 100000 in
theorem gw_846 : Cond.code yX4_addValue cX4_addValue 3 (none) ∈ GW := gw 846 rfl rfl
set_option maxRecDepth 100000 in
theorem gw_877 : Cond.code yX4_countFact cX4_countFact 1 (none) ∈ GW := gw 877 rfl rfl
set_option maxRecDepth 100000 in
theorem gw_820 : Cond.code yX4_beginSum cX4_beginSum 1 (some .int) ∈ GW := gw 820 rfl rfl
set_option maxRecDepth 100000 in
theorem gw_852 : Cond.code yX4_endSum cX4_endSum 2 (none) ∈ GW := gw 852 rfl rfl
set_option maxRecDepth 100000 in
theorem gw_871 : Cond.code yX4_addStep cX4_addStep 3 (some .int) ∈ GW := gw 871 rfl rfl
set_option maxRecDepth 100000 in
theorem gw_882 : Cond.code yX4_landHere cX4_landHere 2 (none) ∈ GW := gw 882 rfl rfl
set_option maxRecDepth 100000 in
theorem gw_978 : Cond.code yX4_worth cX4_worth 5 (some .long) ∈ GW := gw 978 rfl rfl
set_option maxRecDepth 100000 in
theorem gw_986 : Cond.code yX4_compares cX4_compares 5 (some .boolean) ∈ GW := gw 986 rfl rfl
set_option maxRecDepth 100000 in
theorem gw_983 : Cond.code yX4_sumOf cX4_sumOf 11 (some .long) ∈ GW := gw 983 rfl rfl
set_option maxRecDepth 100000 in
theorem gw_443 : Cond.code yX5_init cX5_init 2 (none) ∈ GW := gw 443 rfl rfl
theorem gw_114 : Cond.initialized "WayMayor$RuleReader" ∈ GW := gw 114 (by decide +kernel) (by decide +kernel)
set_option maxRecDepth 100000 in
theorem gw_811 : Cond.code yX5_read cX5_read 7 (some .boolean) ∈ GW := gw 811 rfl rfl
set_option maxRecDepth 100000 in
theorem gw_824 : Cond.code yX5_clauseBegins cX5_clauseBegins 2 (some .boolean) ∈ GW := gw 824 rfl rfl
set_option maxRecDepth 100000 in
theorem gw_857 : Cond.code yX5_test cX5_test 7 (some .boolean) ∈ GW := gw 857 rfl rfl
set_option maxRecDepth 100000 in
theorem gw_861 : Cond.code yX5_fact cX5_fact 4 (some .boolean) ∈ GW := gw 861 rfl rfl
set_option maxRecDepth 100000 in
theorem gw_867 : Cond.code yX5_innerFact cX5_innerFact 4 (some .boolean) ∈ GW := gw 867 rfl rfl
set_option maxRecDepth 100000 in
theorem gw_832 : Cond.code yX5_sum cX5_sum 4 (some .boolean) ∈ GW := gw 832 rfl rfl
set_option maxRecDepth 100000 in
theorem gw_836 : Cond.code yX5_addValue cX5_addValue 4 (some .boolean) ∈ GW := gw 836 rfl rfl
set_option maxRecDepth 100000 in
theorem gw_173 : Cond.code yX6_init cX6_init 1 (none) ∈ GW := gw 173 rfl rfl
theorem gw_106 : Cond.initialized "WayMayor$Scene" ∈ GW := gw 106 (by decide +kernel) (by decide +kernel)
set_option maxRecDepth 100000 in
theorem gw_790 : Cond.code yX6_move cX6_move 2 (none) ∈ GW := gw 790 rfl rfl
set_option maxRecDepth 100000 in
theorem gw_1179 : Cond.code yX6_addNote cX6_addNote 4 (none) ∈ GW := gw 1179 rfl rfl
set_option maxRecDepth 100000 in
theorem gw_1233 : Cond.code yX6_copyFrom cX6_copyFrom 2 (none) ∈ GW := gw 1233 rfl rfl
set_option maxRecDepth 100000 in
theorem gw_1148 : Cond.code yX6_share cX6_share 9 (some .int) ∈ GW := gw 1148 rfl rfl
set_option maxRecDepth 100000 in
theorem gw_248 : Cond.code yX7_init cX7_init 1 (none) ∈ GW := gw 248 rfl rfl
theorem gw_108 : Cond.initialized "WayMayor$State" ∈ GW := gw 108 (by decide +kernel) (by decide +kernel)
set_option maxRecDepth 100000 in
theorem gw_794 : Cond.code yX7_begin cX7_begin 2 (none) ∈ GW := gw 794 rfl rfl
set_option maxRecDepth 100000 in
theorem gw_932 : Cond.code yX7_copyFrom cX7_copyFrom 2 (none) ∈ GW := gw 932 rfl rfl
set_option maxRecDepth 100000 in
theorem gw_1152 : Cond.code yX7_askedInAll cX7_askedInAll 3 (some .int) ∈ GW := gw 1152 rfl rfl
set_option maxRecDepth 100000 in
theorem gw_138 : Cond.code yX8_init cX8_init 1 (none) ∈ GW := gw 138 rfl rfl
theorem gw_105 : Cond.initialized "WayMayor$Tape" ∈ GW := gw 105 (by decide +kernel) (by decide +kernel)
set_option maxRecDepth 100000 in
theorem gw_595 : Cond.code yX8_add cX8_add 3 (none) ∈ GW := gw 595 rfl rfl
set_option maxRecDepth 100000 in
theorem gw_613 : Cond.code yX8_open cX8_open 1 (none) ∈ GW := gw 613 rfl rfl
set_option maxRecDepth 100000 in
theorem gw_617 : Cond.code yX8_advance cX8_advance 1 (none) ∈ GW := gw 617 rfl rfl
set_option maxRecDepth 100000 in
theorem gw_621 : Cond.code yX8_kindAt cX8_kindAt 3 (some .int) ∈ GW := gw 621 rfl rfl
set_option maxRecDepth 100000 in
theorem gw_625 : Cond.code yX8_joinsEqual cX8_joinsEqual 2 (some .boolean) ∈ GW := gw 625 rfl rfl
set_option maxRecDepth 100000 in
theorem gw_727 : Cond.code yX8_signAmong cX8_signAmong 2 (some .int) ∈ GW := gw 727 rfl rfl
set_option maxRecDepth 100000 in
theorem gw_634 : Cond.code yX8_wordAmong cX8_wordAmong 7 (some .int) ∈ GW := gw 634 rfl rfl
set_option maxRecDepth 100000 in
theorem gw_703 : Cond.code yX8_numberHere cX8_numberHere 3 (some .int) ∈ GW := gw 703 rfl rfl
set_option maxRecDepth 100000 in
theorem gw_698 : Cond.code yX8_take cX8_take 5 (some .boolean) ∈ GW := gw 698 rfl rfl
set_option maxRecDepth 100000 in
theorem gw_722 : Cond.code yX8_clauseFollows cX8_clauseFollows 1 (some .boolean) ∈ GW := gw 722 rfl rfl
set_option maxRecDepth 100000 in
theorem gw_686 : Cond.code yX8_refuse cX8_refuse 2 (some .boolean) ∈ GW := gw 686 rfl rfl
set_option maxRecDepth 100000 in
theorem gw_179 : Cond.code yX9_init cX9_init 1 (none) ∈ GW := gw 179 rfl rfl
theorem gw_107 : Cond.initialized "WayMayor$Town" ∈ GW := gw 107 (by decide +kernel) (by decide +kernel)
set_option maxRecDepth 100000 in
theorem gw_433 : Cond.code yX10_init cX10_init 2 (none) ∈ GW := gw 433 rfl rfl
theorem gw_113 : Cond.initialized "WayMayor$TownReader" ∈ GW := gw 113 (by decide +kernel) (by decide +kernel)
set_option maxRecDepth 100000 in
theorem gw_607 : Cond.code yX10_read cX10_read 4 (some (.object "WayMayor$Town")) ∈ GW := gw 607 rfl rfl
set_option maxRecDepth 100000 in
theorem gw_629 : Cond.code yX10_clause cX10_clause 5 (some .boolean) ∈ GW := gw 629 rfl rfl
set_option maxRecDepth 100000 in
theorem gw_689 : Cond.code yX10_isFull cX10_isFull 2 (some .boolean) ∈ GW := gw 689 rfl rfl
set_option maxRecDepth 100000 in
theorem gw_694 : Cond.code yX10_tellSize cX10_tellSize 2 (some .boolean) ∈ GW := gw 694 rfl rfl
set_option maxRecDepth 100000 in
theorem gw_707 : Cond.code yX10_tellStreet cX10_tellStreet 3 (some .boolean) ∈ GW := gw 707 rfl rfl
set_option maxRecDepth 100000 in
theorem gw_714 : Cond.code yX10_tellPerson cX10_tellPerson 3 (some .boolean) ∈ GW := gw 714 rfl rfl
set_option maxRecDepth 100000 in
theorem gw_718 : Cond.code yX10_tellStranger cX10_tellStranger 4 (some .boolean) ∈ GW := gw 718 rfl rfl
set_option maxRecDepth 100000 in
theorem gw_387 : Cond.code yX11_init cX11_init 1 (none) ∈ GW := gw 387 rfl rfl
theorem gw_111 : Cond.initialized "WayMayor$Ways" ∈ GW := gw 111 (by decide +kernel) (by decide +kernel)
set_option maxRecDepth 100000 in
theorem gw_710 : Cond.code yX11_street cX11_street 2 (some .long) ∈ GW := gw 710 rfl rfl
set_option maxRecDepth 100000 in
theorem gw_398 : Cond.code yX11_neighbours cX11_neighbours 3 (some .int) ∈ GW := gw 398 rfl rfl
set_option maxRecDepth 100000 in
theorem gw_953 : Cond.code yX11_follow cX11_follow 3 (none) ∈ GW := gw 953 rfl rfl
set_option maxRecDepth 100000 in
theorem gw_392 : Cond.code yX11_measure cX11_measure 9 (none) ∈ GW := gw 392 rfl rfl
set_option maxRecDepth 100000 in
theorem gw_970 : Cond.code yX11_far cX11_far 4 (some .int) ∈ GW := gw 970 rfl rfl
set_option maxRecDepth 100000 in
theorem gw_1005 : Cond.code yX11_step cX11_step 6 (some .int) ∈ GW := gw 1005 rfl rfl
set_option maxRecDepth 100000 in
theorem gw_998 : Cond.code yX11_least cX11_least 3 (some .int) ∈ GW := gw 998 rfl rfl
set_option maxRecDepth 100000 in
theorem gw_1001 : Cond.code yX11_greatest cX11_greatest 3 (some .int) ∈ GW := gw 1001 rfl rfl
set_option maxRecDepth 100000 in
theorem gw_395 : Cond.code yJ7_fill_53178 cJ7_fill_53178 4 (none) ∈ GW := gw 395 rfl rfl
theorem gw_112 : Cond.initialized "java/util/Arrays" ∈ GW := gw 112 (by decide +kernel) (by decide +kernel)
theorem gw_408 : Cond.fieldLink "WayMayor$Clock" 12 "WayMayor$Clock" "ways" "LWayMayor$Ways;" ∈ GW := gw 408 (by decide +kernel) (by decide +kernel)
theorem gw_410 : Cond.fieldLink "WayMayor$Clock" 18 "WayMayor$Clock" "whom" "[I" ∈ GW := gw 410 (by decide +kernel) (by decide +kernel)
theorem gw_412 : Cond.fieldLink "WayMayor$Clock" 22 "WayMayor$Clock" "words" "[I" ∈ GW := gw 412 (by decide +kernel) (by decide +kernel)
theorem gw_413 : Cond.fieldLink "WayMayor$Clock" 28 "WayMayor$Clock" "town" "LWayMayor$Town;" ∈ GW := gw 413 (by decide +kernel) (by decide +kernel)
theorem gw_414 : Cond.fieldLink "WayMayor$Clock" 32 "WayMayor$Clock" "rule" "LWayMayor$Rule;" ∈ GW := gw 414 (by decide +kernel) (by decide +kernel)
theorem gw_415 : Cond.fieldLink "WayMayor$Clock" 36 "WayMayor$Clock" "wrong" "I" ∈ GW := gw 415 (by decide +kernel) (by decide +kernel)
theorem gw_263 : Cond.fieldLink "WayMayor$Clock" 44 "WayMayor$State" "open" "J" ∈ GW := gw 263 (by decide +kernel) (by decide +kernel)
theorem gw_193 : Cond.fieldLink "WayMayor$Clock" 58 "WayMayor$Town" "strangers" "I" ∈ GW := gw 193 (by decide +kernel) (by decide +kernel)
theorem gw_286 : Cond.fieldLink "WayMayor$Clock" 61 "WayMayor$State" "at" "[I" ∈ GW := gw 286 (by decide +kernel) (by decide +kernel)
theorem gw_214 : Cond.fieldLink "WayMayor$Clock" 64 "WayMayor$Town" "to" "[I" ∈ GW := gw 214 (by decide +kernel) (by decide +kernel)
theorem gw_259 : Cond.fieldLink "WayMayor$Clock" 67 "WayMayor$State" "come" "I" ∈ GW := gw 259 (by decide +kernel) (by decide +kernel)
theorem gw_252 : Cond.fieldLink "WayMayor$Clock" 84 "WayMayor$State" "hour" "I" ∈ GW := gw 252 (by decide +kernel) (by decide +kernel)
theorem gw_218 : Cond.fieldLink "WayMayor$Clock" 87 "WayMayor$Town" "every" "[I" ∈ GW := gw 218 (by decide +kernel) (by decide +kernel)
theorem gw_210 : Cond.fieldLink "WayMayor$Clock" 90 "WayMayor$Town" "from" "[I" ∈ GW := gw 210 (by decide +kernel) (by decide +kernel)
theorem gw_191 : Cond.fieldLink "WayMayor$Clock" 98 "WayMayor$Town" "people" "I" ∈ GW := gw 191 (by decide +kernel) (by decide +kernel)
theorem gw_268 : Cond.fieldLink "WayMayor$Clock" 101 "WayMayor$State" "place" "[I" ∈ GW := gw 268 (by decide +kernel) (by decide +kernel)
theorem gw_272 : Cond.fieldLink "WayMayor$Clock" 104 "WayMayor$State" "kind" "[I" ∈ GW := gw 272 (by decide +kernel) (by decide +kernel)
theorem gw_185 : Cond.fieldLink "WayMayor$Clock" 121 "WayMayor$Town" "term" "I" ∈ GW := gw 185 (by decide +kernel) (by decide +kernel)
theorem gw_276 : Cond.fieldLink "WayMayor$Clock" 124 "WayMayor$State" "asked" "[I" ∈ GW := gw 276 (by decide +kernel) (by decide +kernel)
theorem gw_290 : Cond.fieldLink "WayMayor$Clock" 127 "WayMayor$State" "before" "[I" ∈ GW := gw 290 (by decide +kernel) (by decide +kernel)
theorem gw_256 : Cond.fieldLink "WayMayor$Clock" 130 "WayMayor$State" "chain" "I" ∈ GW := gw 256 (by decide +kernel) (by decide +kernel)
theorem gw_281 : Cond.fieldLink "WayMayor$Clock" 133 "WayMayor$State" "total" "[I" ∈ GW := gw 281 (by decide +kernel) (by decide +kernel)
theorem gw_284 : Cond.fieldLink "WayMayor$Clock" 149 "WayMayor$State" "chains" "[I" ∈ GW := gw 284 (by decide +kernel) (by decide +kernel)
theorem gw_543 : Cond.fieldLink "WayMayor$History" 12 "WayMayor$History" "trial" "LWayMayor$State;" ∈ GW := gw 543 (by decide +kernel) (by decide +kernel)
theorem gw_544 : Cond.fieldLink "WayMayor$History" 18 "WayMayor$History" "answers" "[I" ∈ GW := gw 544 (by decide +kernel) (by decide +kernel)
theorem gw_541 : Cond.fieldLink "WayMayor$History" 22 "WayMayor$History" "now" "LWayMayor$Scene;" ∈ GW := gw 541 (by decide +kernel) (by decide +kernel)
theorem gw_542 : Cond.fieldLink "WayMayor$History" 26 "WayMayor$History" "clock" "LWayMayor$Clock;" ∈ GW := gw 542 (by decide +kernel) (by decide +kernel)
theorem gw_336 : Cond.fieldLink "WayMayor$History" 30 "WayMayor$Scene" "town" "LWayMayor$Town;" ∈ GW := gw 336 (by decide +kernel) (by decide +kernel)
theorem gw_187 : Cond.fieldLink "WayMayor$History" 36 "WayMayor$Town" "people" "I" ∈ GW := gw 187 (by decide +kernel) (by decide +kernel)
theorem gw_200 : Cond.fieldLink "WayMayor$History" 52 "WayMayor$Town" "wrong" "I" ∈ GW := gw 200 (by decide +kernel) (by decide +kernel)
theorem gw_195 : Cond.fieldLink "WayMayor$History" 63 "WayMayor$Town" "strangers" "I" ∈ GW := gw 195 (by decide +kernel) (by decide +kernel)
theorem gw_411 : Cond.fieldLink "WayMayor$History" 66 "WayMayor$Clock" "whom" "[I" ∈ GW := gw 411 (by decide +kernel) (by decide +kernel)
theorem gw_350 : Cond.fieldLink "WayMayor$History" 78 "WayMayor$Scene" "notes" "I" ∈ GW := gw 350 (by decide +kernel) (by decide +kernel)
theorem gw_353 : Cond.fieldLink "WayMayor$History" 81 "WayMayor$Scene" "noteHour" "[I" ∈ GW := gw 353 (by decide +kernel) (by decide +kernel)
theorem gw_355 : Cond.fieldLink "WayMayor$History" 88 "WayMayor$Scene" "noteStranger" "[I" ∈ GW := gw 355 (by decide +kernel) (by decide +kernel)
theorem gw_357 : Cond.fieldLink "WayMayor$History" 91 "WayMayor$Scene" "notePerson" "[I" ∈ GW := gw 357 (by decide +kernel) (by decide +kernel)
theorem gw_501 : Cond.fieldLink "WayMayor$Outlook" 12 "WayMayor$Outlook" "trial" "LWayMayor$State;" ∈ GW := gw 501 (by decide +kernel) (by decide +kernel)
theorem gw_502 : Cond.fieldLink "WayMayor$Outlook" 18 "WayMayor$Outlook" "turns" "[LWayMayor$State;" ∈ GW := gw 502 (by decide +kernel) (by decide +kernel)
theorem gw_503 : Cond.fieldLink "WayMayor$Outlook" 22 "WayMayor$Outlook" "gainOfOne" "[I" ∈ GW := gw 503 (by decide +kernel) (by decide +kernel)
theorem gw_504 : Cond.fieldLink "WayMayor$Outlook" 26 "WayMayor$Outlook" "gainOfOther" "[I" ∈ GW := gw 504 (by decide +kernel) (by decide +kernel)
theorem gw_499 : Cond.fieldLink "WayMayor$Outlook" 29 "WayMayor$Outlook" "now" "LWayMayor$Scene;" ∈ GW := gw 499 (by decide +kernel) (by decide +kernel)
theorem gw_500 : Cond.fieldLink "WayMayor$Outlook" 33 "WayMayor$Outlook" "clock" "LWayMayor$Clock;" ∈ GW := gw 500 (by decide +kernel) (by decide +kernel)
theorem gw_340 : Cond.fieldLink "WayMayor$Outlook" 37 "WayMayor$Scene" "state" "LWayMayor$State;" ∈ GW := gw 340 (by decide +kernel) (by decide +kernel)
theorem gw_255 : Cond.fieldLink "WayMayor$Outlook" 52 "WayMayor$State" "chain" "I" ∈ GW := gw 255 (by decide +kernel) (by decide +kernel)
theorem gw_251 : Cond.fieldLink "WayMayor$Outlook" 56 "WayMayor$State" "hour" "I" ∈ GW := gw 251 (by decide +kernel) (by decide +kernel)
theorem gw_337 : Cond.fieldLink "WayMayor$Outlook" 63 "WayMayor$Scene" "town" "LWayMayor$Town;" ∈ GW := gw 337 (by decide +kernel) (by decide +kernel)
theorem gw_181 : Cond.fieldLink "WayMayor$Outlook" 67 "WayMayor$Town" "places" "I" ∈ GW := gw 181 (by decide +kernel) (by decide +kernel)
theorem gw_267 : Cond.fieldLink "WayMayor$Outlook" 72 "WayMayor$State" "place" "[I" ∈ GW := gw 267 (by decide +kernel) (by decide +kernel)
theorem gw_278 : Cond.fieldLink "WayMayor$Outlook" 75 "WayMayor$State" "total" "[I" ∈ GW := gw 278 (by decide +kernel) (by decide +kernel)
theorem gw_271 : Cond.fieldLink "WayMayor$Outlook" 78 "WayMayor$State" "kind" "[I" ∈ GW := gw 271 (by decide +kernel) (by decide +kernel)
theorem gw_287 : Cond.fieldLink "WayMayor$Outlook" 81 "WayMayor$State" "at" "[I" ∈ GW := gw 287 (by decide +kernel) (by decide +kernel)
theorem gw_264 : Cond.fieldLink "WayMayor$Outlook" 84 "WayMayor$State" "open" "J" ∈ GW := gw 264 (by decide +kernel) (by decide +kernel)
theorem gw_260 : Cond.fieldLink "WayMayor$Outlook" 100 "WayMayor$State" "come" "I" ∈ GW := gw 260 (by decide +kernel) (by decide +kernel)
theorem gw_505 : Cond.fieldLink "WayMayor$Outlook" 103 "WayMayor$Outlook" "one" "I" ∈ GW := gw 505 (by decide +kernel) (by decide +kernel)
theorem gw_506 : Cond.fieldLink "WayMayor$Outlook" 106 "WayMayor$Outlook" "other" "I" ∈ GW := gw 506 (by decide +kernel) (by decide +kernel)
theorem gw_507 : Cond.fieldLink "WayMayor$Outlook" 109 "WayMayor$Outlook" "turnCount" "I" ∈ GW := gw 507 (by decide +kernel) (by decide +kernel)
theorem gw_508 : Cond.fieldLink "WayMayor$Outlook" 112 "WayMayor$Outlook" "firstMove" "I" ∈ GW := gw 508 (by decide +kernel) (by decide +kernel)
theorem gw_347 : Cond.fieldLink "WayMayor$Outlook" 133 "WayMayor$Scene" "x" "I" ∈ GW := gw 347 (by decide +kernel) (by decide +kernel)
theorem gw_509 : Cond.fieldLink "WayMayor$Outlook" 136 "WayMayor$Outlook" "x" "I" ∈ GW := gw 509 (by decide +kernel) (by decide +kernel)
theorem gw_192 : Cond.fieldLink "WayMayor$Outlook" 144 "WayMayor$Town" "people" "I" ∈ GW := gw 192 (by decide +kernel) (by decide +kernel)
theorem gw_327 : Cond.fieldLink "WayMayor$Past" 11 "WayMayor$Past" "kept" "[LWayMayor$State;" ∈ GW := gw 327 (by decide +kernel) (by decide +kernel)
theorem gw_324 : Cond.fieldLink "WayMayor$Past" 18 "WayMayor$Past" "size" "I" ∈ GW := gw 324 (by decide +kernel) (by decide +kernel)
theorem gw_326 : Cond.fieldLink "WayMayor$Past" 22 "WayMayor$Past" "next" "I" ∈ GW := gw 326 (by decide +kernel) (by decide +kernel)
theorem gw_460 : Cond.fieldLink "WayMayor$Rule" 9 "WayMayor$Rule" "join" "[I" ∈ GW := gw 460 (by decide +kernel) (by decide +kernel)
theorem gw_461 : Cond.fieldLink "WayMayor$Rule" 15 "WayMayor$Rule" "value" "[I" ∈ GW := gw 461 (by decide +kernel) (by decide +kernel)
theorem gw_463 : Cond.fieldLink "WayMayor$Rule" 18 "WayMayor$Rule" "sumFrom" "[I" ∈ GW := gw 463 (by decide +kernel) (by decide +kernel)
theorem gw_464 : Cond.fieldLink "WayMayor$Rule" 21 "WayMayor$Rule" "sumTo" "[I" ∈ GW := gw 464 (by decide +kernel) (by decide +kernel)
theorem gw_467 : Cond.fieldLink "WayMayor$Rule" 24 "WayMayor$Rule" "step" "[I" ∈ GW := gw 467 (by decide +kernel) (by decide +kernel)
theorem gw_468 : Cond.fieldLink "WayMayor$Rule" 27 "WayMayor$Rule" "with" "[I" ∈ GW := gw 468 (by decide +kernel) (by decide +kernel)
theorem gw_459 : Cond.fieldLink "WayMayor$Rule" 30 "WayMayor$Rule" "values" "I" ∈ GW := gw 459 (by decide +kernel) (by decide +kernel)
theorem gw_462 : Cond.fieldLink "WayMayor$Rule" 34 "WayMayor$Rule" "sums" "I" ∈ GW := gw 462 (by decide +kernel) (by decide +kernel)
theorem gw_465 : Cond.fieldLink "WayMayor$Rule" 37 "WayMayor$Rule" "facts" "I" ∈ GW := gw 465 (by decide +kernel) (by decide +kernel)
theorem gw_466 : Cond.fieldLink "WayMayor$Rule" 40 "WayMayor$Rule" "steps" "I" ∈ GW := gw 466 (by decide +kernel) (by decide +kernel)
theorem gw_445 : Cond.fieldLink "WayMayor$RuleReader" 9 "WayMayor$RuleReader" "tape" "LWayMayor$Tape;" ∈ GW := gw 445 (by decide +kernel) (by decide +kernel)
theorem gw_446 : Cond.fieldLink "WayMayor$RuleReader" 15 "WayMayor$RuleReader" "rule" "LWayMayor$Rule;" ∈ GW := gw 446 (by decide +kernel) (by decide +kernel)
theorem gw_148 : Cond.fieldLink "WayMayor$RuleReader" 64 "WayMayor$Tape" "fault" "I" ∈ GW := gw 148 (by decide +kernel) (by decide +kernel)
theorem gw_144 : Cond.fieldLink "WayMayor$RuleReader" 96 "WayMayor$Tape" "kind" "I" ∈ GW := gw 144 (by decide +kernel) (by decide +kernel)
theorem gw_335 : Cond.fieldLink "WayMayor$Scene" 12 "WayMayor$Scene" "town" "LWayMayor$Town;" ∈ GW := gw 335 (by decide +kernel) (by decide +kernel)
theorem gw_339 : Cond.fieldLink "WayMayor$Scene" 21 "WayMayor$Scene" "state" "LWayMayor$State;" ∈ GW := gw 339 (by decide +kernel) (by decide +kernel)
theorem gw_342 : Cond.fieldLink "WayMayor$Scene" 28 "WayMayor$Scene" "past" "LWayMayor$Past;" ∈ GW := gw 342 (by decide +kernel) (by decide +kernel)
theorem gw_344 : Cond.fieldLink "WayMayor$Scene" 32 "WayMayor$Scene" "force" "I" ∈ GW := gw 344 (by decide +kernel) (by decide +kernel)
theorem gw_352 : Cond.fieldLink "WayMayor$Scene" 36 "WayMayor$Scene" "noteHour" "[I" ∈ GW := gw 352 (by decide +kernel) (by decide +kernel)
theorem gw_354 : Cond.fieldLink "WayMayor$Scene" 40 "WayMayor$Scene" "noteStranger" "[I" ∈ GW := gw 354 (by decide +kernel) (by decide +kernel)
theorem gw_356 : Cond.fieldLink "WayMayor$Scene" 43 "WayMayor$Scene" "notePerson" "[I" ∈ GW := gw 356 (by decide +kernel) (by decide +kernel)
theorem gw_349 : Cond.fieldLink "WayMayor$Scene" 53 "WayMayor$Scene" "notes" "I" ∈ GW := gw 349 (by decide +kernel) (by decide +kernel)
theorem gw_346 : Cond.fieldLink "WayMayor$Scene" 63 "WayMayor$Scene" "x" "I" ∈ GW := gw 346 (by decide +kernel) (by decide +kernel)
theorem gw_279 : Cond.fieldLink "WayMayor$Scene" 76 "WayMayor$State" "total" "[I" ∈ GW := gw 279 (by decide +kernel) (by decide +kernel)
theorem gw_190 : Cond.fieldLink "WayMayor$Scene" 79 "WayMayor$Town" "people" "I" ∈ GW := gw 190 (by decide +kernel) (by decide +kernel)
theorem gw_254 : Cond.fieldLink "WayMayor$State" 9 "WayMayor$State" "chain" "I" ∈ GW := gw 254 (by decide +kernel) (by decide +kernel)
theorem gw_266 : Cond.fieldLink "WayMayor$State" 15 "WayMayor$State" "place" "[I" ∈ GW := gw 266 (by decide +kernel) (by decide +kernel)
theorem gw_270 : Cond.fieldLink "WayMayor$State" 19 "WayMayor$State" "kind" "[I" ∈ GW := gw 270 (by decide +kernel) (by decide +kernel)
theorem gw_274 : Cond.fieldLink "WayMayor$State" 22 "WayMayor$State" "asked" "[I" ∈ GW := gw 274 (by decide +kernel) (by decide +kernel)
theorem gw_277 : Cond.fieldLink "WayMayor$State" 25 "WayMayor$State" "total" "[I" ∈ GW := gw 277 (by decide +kernel) (by decide +kernel)
theorem gw_282 : Cond.fieldLink "WayMayor$State" 28 "WayMayor$State" "chains" "[I" ∈ GW := gw 282 (by decide +kernel) (by decide +kernel)
theorem gw_285 : Cond.fieldLink "WayMayor$State" 31 "WayMayor$State" "at" "[I" ∈ GW := gw 285 (by decide +kernel) (by decide +kernel)
theorem gw_289 : Cond.fieldLink "WayMayor$State" 34 "WayMayor$State" "before" "[I" ∈ GW := gw 289 (by decide +kernel) (by decide +kernel)
theorem gw_250 : Cond.fieldLink "WayMayor$State" 37 "WayMayor$State" "hour" "I" ∈ GW := gw 250 (by decide +kernel) (by decide +kernel)
theorem gw_258 : Cond.fieldLink "WayMayor$State" 40 "WayMayor$State" "come" "I" ∈ GW := gw 258 (by decide +kernel) (by decide +kernel)
theorem gw_197 : Cond.fieldLink "WayMayor$State" 43 "WayMayor$Town" "streets" "J" ∈ GW := gw 197 (by decide +kernel) (by decide +kernel)
theorem gw_262 : Cond.fieldLink "WayMayor$State" 49 "WayMayor$State" "open" "J" ∈ GW := gw 262 (by decide +kernel) (by decide +kernel)
theorem gw_204 : Cond.fieldLink "WayMayor$State" 52 "WayMayor$Town" "place" "[I" ∈ GW := gw 204 (by decide +kernel) (by decide +kernel)
theorem gw_207 : Cond.fieldLink "WayMayor$State" 59 "WayMayor$Town" "kind" "[I" ∈ GW := gw 207 (by decide +kernel) (by decide +kernel)
theorem gw_140 : Cond.fieldLink "WayMayor$Tape" 9 "WayMayor$Tape" "bytes" "[I" ∈ GW := gw 140 (by decide +kernel) (by decide +kernel)
theorem gw_142 : Cond.fieldLink "WayMayor$Tape" 15 "WayMayor$Tape" "length" "I" ∈ GW := gw 142 (by decide +kernel) (by decide +kernel)
theorem gw_149 : Cond.fieldLink "WayMayor$Tape" 19 "WayMayor$Tape" "fault" "I" ∈ GW := gw 149 (by decide +kernel) (by decide +kernel)
theorem gw_152 : Cond.fieldLink "WayMayor$Tape" 22 "WayMayor$Tape" "behind" "I" ∈ GW := gw 152 (by decide +kernel) (by decide +kernel)
theorem gw_151 : Cond.fieldLink "WayMayor$Tape" 28 "WayMayor$Tape" "start" "I" ∈ GW := gw 151 (by decide +kernel) (by decide +kernel)
theorem gw_143 : Cond.fieldLink "WayMayor$Tape" 35 "WayMayor$Tape" "kind" "I" ∈ GW := gw 143 (by decide +kernel) (by decide +kernel)
theorem gw_146 : Cond.fieldLink "WayMayor$Tape" 61 "WayMayor$Tape" "taken" "I" ∈ GW := gw 146 (by decide +kernel) (by decide +kernel)
theorem gw_203 : Cond.fieldLink "WayMayor$Town" 9 "WayMayor$Town" "place" "[I" ∈ GW := gw 203 (by decide +kernel) (by decide +kernel)
theorem gw_206 : Cond.fieldLink "WayMayor$Town" 15 "WayMayor$Town" "kind" "[I" ∈ GW := gw 206 (by decide +kernel) (by decide +kernel)
theorem gw_209 : Cond.fieldLink "WayMayor$Town" 18 "WayMayor$Town" "from" "[I" ∈ GW := gw 209 (by decide +kernel) (by decide +kernel)
theorem gw_213 : Cond.fieldLink "WayMayor$Town" 21 "WayMayor$Town" "to" "[I" ∈ GW := gw 213 (by decide +kernel) (by decide +kernel)
theorem gw_217 : Cond.fieldLink "WayMayor$Town" 24 "WayMayor$Town" "every" "[I" ∈ GW := gw 217 (by decide +kernel) (by decide +kernel)
theorem gw_435 : Cond.fieldLink "WayMayor$TownReader" 9 "WayMayor$TownReader" "tape" "LWayMayor$Tape;" ∈ GW := gw 435 (by decide +kernel) (by decide +kernel)
theorem gw_147 : Cond.fieldLink "WayMayor$TownReader" 31 "WayMayor$Tape" "fault" "I" ∈ GW := gw 147 (by decide +kernel) (by decide +kernel)
theorem gw_188 : Cond.fieldLink "WayMayor$TownReader" 64 "WayMayor$Town" "people" "I" ∈ GW := gw 188 (by decide +kernel) (by decide +kernel)
theorem gw_194 : Cond.fieldLink "WayMayor$TownReader" 67 "WayMayor$Town" "strangers" "I" ∈ GW := gw 194 (by decide +kernel) (by decide +kernel)
theorem gw_145 : Cond.fieldLink "WayMayor$TownReader" 74 "WayMayor$Tape" "taken" "I" ∈ GW := gw 145 (by decide +kernel) (by decide +kernel)
theorem gw_182 : Cond.fieldLink "WayMayor$TownReader" 77 "WayMayor$Town" "places" "I" ∈ GW := gw 182 (by decide +kernel) (by decide +kernel)
theorem gw_184 : Cond.fieldLink "WayMayor$TownReader" 80 "WayMayor$Town" "term" "I" ∈ GW := gw 184 (by decide +kernel) (by decide +kernel)
theorem gw_198 : Cond.fieldLink "WayMayor$TownReader" 83 "WayMayor$Town" "streets" "J" ∈ GW := gw 198 (by decide +kernel) (by decide +kernel)
theorem gw_205 : Cond.fieldLink "WayMayor$TownReader" 93 "WayMayor$Town" "place" "[I" ∈ GW := gw 205 (by decide +kernel) (by decide +kernel)
theorem gw_208 : Cond.fieldLink "WayMayor$TownReader" 97 "WayMayor$Town" "kind" "[I" ∈ GW := gw 208 (by decide +kernel) (by decide +kernel)
theorem gw_202 : Cond.fieldLink "WayMayor$TownReader" 100 "WayMayor$Town" "wrong" "I" ∈ GW := gw 202 (by decide +kernel) (by decide +kernel)
theorem gw_211 : Cond.fieldLink "WayMayor$TownReader" 103 "WayMayor$Town" "from" "[I" ∈ GW := gw 211 (by decide +kernel) (by decide +kernel)
theorem gw_215 : Cond.fieldLink "WayMayor$TownReader" 106 "WayMayor$Town" "to" "[I" ∈ GW := gw 215 (by decide +kernel) (by decide +kernel)
theorem gw_220 : Cond.fieldLink "WayMayor$TownReader" 109 "WayMayor$Town" "every" "[I" ∈ GW := gw 220 (by decide +kernel) (by decide +kernel)
theorem gw_400 : Cond.fieldLink "WayMayor$Ways" 9 "WayMayor$Ways" "far" "[I" ∈ GW := gw 400 (by decide +kernel) (by decide +kernel)
theorem gw_399 : Cond.fieldLink "WayMayor$Ways" 19 "WayMayor$Ways" "measured" "J" ∈ GW := gw 399 (by decide +kernel) (by decide +kernel)
theorem gw_554 : Cond.fieldLink "WayMayor" 16 "WayMayor" "tape" "LWayMayor$Tape;" ∈ GW := gw 554 (by decide +kernel) (by decide +kernel)
theorem gw_555 : Cond.fieldLink "WayMayor" 27 "WayMayor" "townReader" "LWayMayor$TownReader;" ∈ GW := gw 555 (by decide +kernel) (by decide +kernel)
theorem gw_556 : Cond.fieldLink "WayMayor" 34 "WayMayor" "ruleReader" "LWayMayor$RuleReader;" ∈ GW := gw 556 (by decide +kernel) (by decide +kernel)
theorem gw_557 : Cond.fieldLink "WayMayor" 40 "WayMayor" "rules" "[LWayMayor$Rule;" ∈ GW := gw 557 (by decide +kernel) (by decide +kernel)
theorem gw_558 : Cond.fieldLink "WayMayor" 44 "WayMayor" "ruleCount" "I" ∈ GW := gw 558 (by decide +kernel) (by decide +kernel)
theorem gw_559 : Cond.fieldLink "WayMayor" 49 "WayMayor" "blankRule" "LWayMayor$Rule;" ∈ GW := gw 559 (by decide +kernel) (by decide +kernel)
theorem gw_560 : Cond.fieldLink "WayMayor" 53 "WayMayor" "now" "LWayMayor$Scene;" ∈ GW := gw 560 (by decide +kernel) (by decide +kernel)
theorem gw_561 : Cond.fieldLink "WayMayor" 57 "WayMayor" "images" "[LWayMayor$Scene;" ∈ GW := gw 561 (by decide +kernel) (by decide +kernel)
theorem gw_562 : Cond.fieldLink "WayMayor" 61 "WayMayor" "clock" "LWayMayor$Clock;" ∈ GW := gw 562 (by decide +kernel) (by decide +kernel)
theorem gw_563 : Cond.fieldLink "WayMayor" 70 "WayMayor" "outlook" "LWayMayor$Outlook;" ∈ GW := gw 563 (by decide +kernel) (by decide +kernel)
theorem gw_564 : Cond.fieldLink "WayMayor" 77 "WayMayor" "history" "LWayMayor$History;" ∈ GW := gw 564 (by decide +kernel) (by decide +kernel)
theorem gw_141 : Cond.fieldLink "WayMayor" 81 "WayMayor$Tape" "length" "I" ∈ GW := gw 141 (by decide +kernel) (by decide +kernel)
theorem gw_150 : Cond.fieldLink "WayMayor" 92 "WayMayor$Tape" "fault" "I" ∈ GW := gw 150 (by decide +kernel) (by decide +kernel)
theorem gw_189 : Cond.fieldLink "WayMayor" 99 "WayMayor$Town" "people" "I" ∈ GW := gw 189 (by decide +kernel) (by decide +kernel)
theorem gw_345 : Cond.fieldLink "WayMayor" 107 "WayMayor$Scene" "force" "I" ∈ GW := gw 345 (by decide +kernel) (by decide +kernel)
theorem gw_341 : Cond.fieldLink "WayMayor" 114 "WayMayor$Scene" "state" "LWayMayor$State;" ∈ GW := gw 341 (by decide +kernel) (by decide +kernel)
theorem gw_269 : Cond.fieldLink "WayMayor" 118 "WayMayor$State" "place" "[I" ∈ GW := gw 269 (by decide +kernel) (by decide +kernel)
theorem gw_273 : Cond.fieldLink "WayMayor" 124 "WayMayor$State" "kind" "[I" ∈ GW := gw 273 (by decide +kernel) (by decide +kernel)
theorem gw_338 : Cond.fieldLink "WayMayor" 127 "WayMayor$Scene" "town" "LWayMayor$Town;" ∈ GW := gw 338 (by decide +kernel) (by decide +kernel)
theorem gw_201 : Cond.fieldLink "WayMayor" 131 "WayMayor$Town" "wrong" "I" ∈ GW := gw 201 (by decide +kernel) (by decide +kernel)
theorem gw_275 : Cond.fieldLink "WayMayor" 134 "WayMayor$State" "asked" "[I" ∈ GW := gw 275 (by decide +kernel) (by decide +kernel)
theorem gw_280 : Cond.fieldLink "WayMayor" 137 "WayMayor$State" "total" "[I" ∈ GW := gw 280 (by decide +kernel) (by decide +kernel)
theorem gw_283 : Cond.fieldLink "WayMayor" 140 "WayMayor$State" "chains" "[I" ∈ GW := gw 283 (by decide +kernel) (by decide +kernel)
theorem gw_212 : Cond.fieldLink "WayMayor" 146 "WayMayor$Town" "from" "[I" ∈ GW := gw 212 (by decide +kernel) (by decide +kernel)
theorem gw_216 : Cond.fieldLink "WayMayor" 149 "WayMayor$Town" "to" "[I" ∈ GW := gw 216 (by decide +kernel) (by decide +kernel)
theorem gw_219 : Cond.fieldLink "WayMayor" 152 "WayMayor$Town" "every" "[I" ∈ GW := gw 219 (by decide +kernel) (by decide +kernel)
theorem gw_288 : Cond.fieldLink "WayMayor" 155 "WayMayor$State" "at" "[I" ∈ GW := gw 288 (by decide +kernel) (by decide +kernel)
theorem gw_265 : Cond.fieldLink "WayMayor" 161 "WayMayor$State" "open" "J" ∈ GW := gw 265 (by decide +kernel) (by decide +kernel)
theorem gw_291 : Cond.fieldLink "WayMayor" 171 "WayMayor$State" "before" "[I" ∈ GW := gw 291 (by decide +kernel) (by decide +kernel)
theorem gw_253 : Cond.fieldLink "WayMayor" 178 "WayMayor$State" "hour" "I" ∈ GW := gw 253 (by decide +kernel) (by decide +kernel)
theorem gw_343 : Cond.fieldLink "WayMayor" 181 "WayMayor$Scene" "past" "LWayMayor$Past;" ∈ GW := gw 343 (by decide +kernel) (by decide +kernel)
theorem gw_199 : Cond.fieldLink "WayMayor" 206 "WayMayor$Town" "streets" "J" ∈ GW := gw 199 (by decide +kernel) (by decide +kernel)
theorem gw_325 : Cond.fieldLink "WayMayor" 209 "WayMayor$Past" "size" "I" ∈ GW := gw 325 (by decide +kernel) (by decide +kernel)
theorem gw_261 : Cond.fieldLink "WayMayor" 219 "WayMayor$State" "come" "I" ∈ GW := gw 261 (by decide +kernel) (by decide +kernel)
theorem gw_257 : Cond.fieldLink "WayMayor" 222 "WayMayor$State" "chain" "I" ∈ GW := gw 257 (by decide +kernel) (by decide +kernel)
theorem gw_409 : Cond.fieldLink "WayMayor" 237 "WayMayor$Clock" "ways" "LWayMayor$Ways;" ∈ GW := gw 409 (by decide +kernel) (by decide +kernel)
theorem gw_351 : Cond.fieldLink "WayMayor" 270 "WayMayor$Scene" "notes" "I" ∈ GW := gw 351 (by decide +kernel) (by decide +kernel)
theorem gw_348 : Cond.fieldLink "WayMayor" 293 "WayMayor$Scene" "x" "I" ∈ GW := gw 348 (by decide +kernel) (by decide +kernel)
theorem gw_183 : Cond.fieldLink "WayMayor" 296 "WayMayor$Town" "places" "I" ∈ GW := gw 183 (by decide +kernel) (by decide +kernel)
theorem gw_186 : Cond.fieldLink "WayMayor" 299 "WayMayor$Town" "term" "I" ∈ GW := gw 186 (by decide +kernel) (by decide +kernel)
theorem gw_196 : Cond.fieldLink "WayMayor" 302 "WayMayor$Town" "strangers" "I" ∈ GW := gw 196 (by decide +kernel) (by decide +kernel)
theorem gw_1250 : Cond.fieldLink "WayMayorModel" 9 "WayMayorModel" "scalar" "[I" ∈ GW := gw 1250 (by decide +kernel) (by decide +kernel)
theorem gw_1251 : Cond.fieldLink "WayMayorModel" 13 "WayMayorModel" "at" "[I" ∈ GW := gw 1251 (by decide +kernel) (by decide +kernel)
theorem gw_1252 : Cond.fieldLink "WayMayorModel" 16 "WayMayorModel" "kind" "[I" ∈ GW := gw 1252 (by decide +kernel) (by decide +kernel)
theorem gw_1253 : Cond.fieldLink "WayMayorModel" 19 "WayMayorModel" "asks" "[I" ∈ GW := gw 1253 (by decide +kernel) (by decide +kernel)
theorem gw_1254 : Cond.fieldLink "WayMayorModel" 22 "WayMayorModel" "askedAll" "[I" ∈ GW := gw 1254 (by decide +kernel) (by decide +kernel)
theorem gw_1255 : Cond.fieldLink "WayMayorModel" 25 "WayMayorModel" "chains" "[I" ∈ GW := gw 1255 (by decide +kernel) (by decide +kernel)
theorem gw_1256 : Cond.fieldLink "WayMayorModel" 28 "WayMayorModel" "where" "[I" ∈ GW := gw 1256 (by decide +kernel) (by decide +kernel)
theorem gw_1257 : Cond.fieldLink "WayMayorModel" 31 "WayMayorModel" "knows" "[I" ∈ GW := gw 1257 (by decide +kernel) (by decide +kernel)
theorem gw_1258 : Cond.fieldLink "WayMayorModel" 34 "WayMayorModel" "open" "[I" ∈ GW := gw 1258 (by decide +kernel) (by decide +kernel)
theorem gw_1259 : Cond.fieldLink "WayMayorModel" 37 "WayMayorModel" "wrong" "[I" ∈ GW := gw 1259 (by decide +kernel) (by decide +kernel)
theorem gw_1260 : Cond.fieldLink "WayMayorModel" 40 "WayMayorModel" "from" "[I" ∈ GW := gw 1260 (by decide +kernel) (by decide +kernel)
theorem gw_1261 : Cond.fieldLink "WayMayorModel" 43 "WayMayorModel" "to" "[I" ∈ GW := gw 1261 (by decide +kernel) (by decide +kernel)
theorem gw_1262 : Cond.fieldLink "WayMayorModel" 46 "WayMayorModel" "every" "[I" ∈ GW := gw 1262 (by decide +kernel) (by decide +kernel)
theorem gw_1263 : Cond.fieldLink "WayMayorModel" 49 "WayMayorModel" "noteHour" "[I" ∈ GW := gw 1263 (by decide +kernel) (by decide +kernel)
theorem gw_1264 : Cond.fieldLink "WayMayorModel" 52 "WayMayorModel" "noteWho" "[I" ∈ GW := gw 1264 (by decide +kernel) (by decide +kernel)
theorem gw_1265 : Cond.fieldLink "WayMayorModel" 55 "WayMayorModel" "noteWhom" "[I" ∈ GW := gw 1265 (by decide +kernel) (by decide +kernel)
theorem gw_1266 : Cond.fieldLink "WayMayorModel" 58 "WayMayorModel" "toldAt" "[I" ∈ GW := gw 1266 (by decide +kernel) (by decide +kernel)
theorem gw_1267 : Cond.fieldLink "WayMayorModel" 61 "WayMayorModel" "toldKind" "[I" ∈ GW := gw 1267 (by decide +kernel) (by decide +kernel)
theorem gw_1268 : Cond.fieldLink "WayMayorModel" 64 "WayMayorModel" "toldStreets" "[I" ∈ GW := gw 1268 (by decide +kernel) (by decide +kernel)
theorem gw_1269 : Cond.fieldLink "WayMayorModel" 67 "WayMayorModel" "newScalar" "[I" ∈ GW := gw 1269 (by decide +kernel) (by decide +kernel)
theorem gw_1270 : Cond.fieldLink "WayMayorModel" 70 "WayMayorModel" "newAt" "[I" ∈ GW := gw 1270 (by decide +kernel) (by decide +kernel)
theorem gw_1271 : Cond.fieldLink "WayMayorModel" 73 "WayMayorModel" "newKind" "[I" ∈ GW := gw 1271 (by decide +kernel) (by decide +kernel)
theorem gw_1272 : Cond.fieldLink "WayMayorModel" 76 "WayMayorModel" "newWrong" "[I" ∈ GW := gw 1272 (by decide +kernel) (by decide +kernel)
theorem gw_1273 : Cond.fieldLink "WayMayorModel" 79 "WayMayorModel" "newFrom" "[I" ∈ GW := gw 1273 (by decide +kernel) (by decide +kernel)
theorem gw_1274 : Cond.fieldLink "WayMayorModel" 82 "WayMayorModel" "newTo" "[I" ∈ GW := gw 1274 (by decide +kernel) (by decide +kernel)
theorem gw_1275 : Cond.fieldLink "WayMayorModel" 85 "WayMayorModel" "newEvery" "[I" ∈ GW := gw 1275 (by decide +kernel) (by decide +kernel)
theorem gw_1276 : Cond.fieldLink "WayMayorModel" 88 "WayMayorModel" "newStreets" "[I" ∈ GW := gw 1276 (by decide +kernel) (by decide +kernel)
theorem gw_1286 : Cond.fieldLink "WayMayorModel" 91 "WayMayorModel" "words" "I" ∈ GW := gw 1286 (by decide +kernel) (by decide +kernel)
theorem gw_1287 : Cond.fieldLink "WayMayorModel" 95 "WayMayorModel" "tape" "[B" ∈ GW := gw 1287 (by decide +kernel) (by decide +kernel)
theorem gw_1288 : Cond.fieldLink "WayMayorModel" 99 "WayMayorModel" "sort" "[I" ∈ GW := gw 1288 (by decide +kernel) (by decide +kernel)
theorem gw_1289 : Cond.fieldLink "WayMayorModel" 102 "WayMayorModel" "number" "[I" ∈ GW := gw 1289 (by decide +kernel) (by decide +kernel)
theorem gw_1290 : Cond.fieldLink "WayMayorModel" 105 "WayMayorModel" "clauses" "[I" ∈ GW := gw 1290 (by decide +kernel) (by decide +kernel)
theorem gw_1291 : Cond.fieldLink "WayMayorModel" 108 "WayMayorModel" "sumAt" "[I" ∈ GW := gw 1291 (by decide +kernel) (by decide +kernel)
theorem gw_1292 : Cond.fieldLink "WayMayorModel" 111 "WayMayorModel" "testAt" "[I" ∈ GW := gw 1292 (by decide +kernel) (by decide +kernel)
theorem gw_1293 : Cond.fieldLink "WayMayorModel" 114 "WayMayorModel" "endAt" "[I" ∈ GW := gw 1293 (by decide +kernel) (by decide +kernel)
theorem gw_1294 : Cond.fieldLink "WayMayorModel" 117 "WayMayorModel" "openAt" "[I" ∈ GW := gw 1294 (by decide +kernel) (by decide +kernel)
theorem gw_1295 : Cond.fieldLink "WayMayorModel" 120 "WayMayorModel" "asked" "[J" ∈ GW := gw 1295 (by decide +kernel) (by decide +kernel)
theorem gw_1296 : Cond.fieldLink "WayMayorModel" 124 "WayMayorModel" "stack" "[J" ∈ GW := gw 1296 (by decide +kernel) (by decide +kernel)
theorem gw_1297 : Cond.fieldLink "WayMayorModel" 127 "WayMayorModel" "gone" "[I" ∈ GW := gw 1297 (by decide +kernel) (by decide +kernel)
theorem gw_1298 : Cond.fieldLink "WayMayorModel" 130 "WayMayorModel" "past" "[I" ∈ GW := gw 1298 (by decide +kernel) (by decide +kernel)
theorem gw_1299 : Cond.fieldLink "WayMayorModel" 133 "WayMayorModel" "pastOf" "[I" ∈ GW := gw 1299 (by decide +kernel) (by decide +kernel)
theorem gw_1303 : Cond.fieldLink "WayMayorModel" 136 "WayMayorModel" "plays" "[I" ∈ GW := gw 1303 (by decide +kernel) (by decide +kernel)
theorem gw_1304 : Cond.fieldLink "WayMayorModel" 139 "WayMayorModel" "firstHas" "[I" ∈ GW := gw 1304 (by decide +kernel) (by decide +kernel)
theorem gw_1305 : Cond.fieldLink "WayMayorModel" 142 "WayMayorModel" "secondHas" "[I" ∈ GW := gw 1305 (by decide +kernel) (by decide +kernel)
theorem gw_1306 : Cond.fieldLink "WayMayorModel" 145 "WayMayorModel" "lay" "[I" ∈ GW := gw 1306 (by decide +kernel) (by decide +kernel)
theorem gw_1307 : Cond.fieldLink "WayMayorModel" 148 "WayMayorModel" "shows" "[I" ∈ GW := gw 1307 (by decide +kernel) (by decide +kernel)
theorem gw_1308 : Cond.fieldLink "WayMayorModel" 151 "WayMayorModel" "images" "[I" ∈ GW := gw 1308 (by decide +kernel) (by decide +kernel)
theorem gw_1309 : Cond.fieldLink "WayMayorModel" 154 "WayMayorModel" "isMade" "[Z" ∈ GW := gw 1309 (by decide +kernel) (by decide +kernel)
theorem gw_1277 : Cond.fieldLink "WayMayorModel" 165 "WayMayorModel" "taped" "I" ∈ GW := gw 1277 (by decide +kernel) (by decide +kernel)
theorem gw_1279 : Cond.fieldLink "WayMayorModel" 194 "WayMayorModel" "fault" "I" ∈ GW := gw 1279 (by decide +kernel) (by decide +kernel)
theorem gw_1278 : Cond.fieldLink "WayMayorModel" 197 "WayMayorModel" "p" "I" ∈ GW := gw 1278 (by decide +kernel) (by decide +kernel)
theorem gw_1280 : Cond.fieldLink "WayMayorModel" 224 "WayMayorModel" "slot" "I" ∈ GW := gw 1280 (by decide +kernel) (by decide +kernel)
theorem gw_1282 : Cond.fieldLink "WayMayorModel" 227 "WayMayorModel" "entries" "I" ∈ GW := gw 1282 (by decide +kernel) (by decide +kernel)
theorem gw_1284 : Cond.fieldLink "WayMayorModel" 230 "WayMayorModel" "counted" "I" ∈ GW := gw 1284 (by decide +kernel) (by decide +kernel)
theorem gw_1285 : Cond.fieldLink "WayMayorModel" 264 "WayMayorModel" "opened" "I" ∈ GW := gw 1285 (by decide +kernel) (by decide +kernel)
theorem gw_1283 : Cond.fieldLink "WayMayorModel" 267 "WayMayorModel" "deep" "I" ∈ GW := gw 1283 (by decide +kernel) (by decide +kernel)
theorem gw_1300 : Cond.fieldLink "WayMayorModel" 331 "WayMayorModel" "pastMany" "I" ∈ GW := gw 1300 (by decide +kernel) (by decide +kernel)
theorem gw_1281 : Cond.fieldLink "WayMayorModel" 344 "WayMayorModel" "rules" "I" ∈ GW := gw 1281 (by decide +kernel) (by decide +kernel)
theorem gw_1302 : Cond.fieldLink "WayMayorModel" 412 "WayMayorModel" "takesBack" "Z" ∈ GW := gw 1302 (by decide +kernel) (by decide +kernel)
theorem gw_1301 : Cond.fieldLink "WayMayorModel" 416 "WayMayorModel" "pastAt" "I" ∈ GW := gw 1301 (by decide +kernel) (by decide +kernel)
theorem gw_1311 : Cond.fieldLink "WayMayorModel" 513 "WayMayorModel" "goesBack" "Z" ∈ GW := gw 1311 (by decide +kernel) (by decide +kernel)
theorem gw_1310 : Cond.fieldLink "WayMayorModel" 516 "WayMayorModel" "imageAt" "I" ∈ GW := gw 1310 (by decide +kernel) (by decide +kernel)
theorem gw_382 : Cond.methodLink "WayMayor$Clock" 3 objectInit ∈ GW := gw 382 (by decide +kernel) (by decide +kernel)
theorem gw_132 : Cond.instanceMethod objectInit ∈ GW := gw 132 (by decide +kernel) (by decide +kernel)
theorem gw_133 : Cond.code objectInit ⟨#[0xb1]⟩ 1 none ∈ GW := gw 133 (by decide +kernel) (by decide +kernel)
theorem gw_385 : Cond.methodLink "WayMayor$Clock" 11 yX11_init ∈ GW := gw 385 (by decide +kernel) (by decide +kernel)
theorem gw_386 : Cond.instanceMethod yX11_init ∈ GW := gw 386 (by decide +kernel) (by decide +kernel)
theorem gw_178 : Cond.instanceMethod yX9_init ∈ GW := gw 178 (by decide +kernel) (by decide +kernel)
theorem gw_1053 : Cond.methodLink "WayMayor$Clock" 40 yX0_pass ∈ GW := gw 1053 (by decide +kernel) (by decide +kernel)
theorem gw_947 : Cond.instanceMethod yX0_pass ∈ GW := gw 947 (by decide +kernel) (by decide +kernel)
theorem gw_948 : Cond.selects "WayMayor$Clock" yX0_pass yX0_pass ∈ GW := gw 948 (by decide +kernel) (by decide +kernel)
theorem gw_950 : Cond.methodLink "WayMayor$Clock" 50 yX11_follow ∈ GW := gw 950 (by decide +kernel) (by decide +kernel)
theorem gw_951 : Cond.instanceMethod yX11_follow ∈ GW := gw 951 (by decide +kernel) (by decide +kernel)
theorem gw_952 : Cond.selects "WayMayor$Ways" yX11_follow yX11_follow ∈ GW := gw 952 (by decide +kernel) (by decide +kernel)
theorem gw_954 : Cond.methodLink "WayMayor$Clock" 54 yX0_arrive ∈ GW := gw 954 (by decide +kernel) (by decide +kernel)
theorem gw_956 : Cond.instanceMethod yX0_arrive ∈ GW := gw 956 (by decide +kernel) (by decide +kernel)
theorem gw_20 : Cond.selects "WayMayor$Clock" yX0_arrive yX0_arrive ∈ GW := gw 20 (by decide +kernel) (by decide +kernel)
theorem gw_958 : Cond.methodLink "WayMayor$Clock" 70 yX0_choose ∈ GW := gw 958 (by decide +kernel) (by decide +kernel)
theorem gw_960 : Cond.instanceMethod yX0_choose ∈ GW := gw 960 (by decide +kernel) (by decide +kernel)
theorem gw_21 : Cond.selects "WayMayor$Clock" yX0_choose yX0_choose ∈ GW := gw 21 (by decide +kernel) (by decide +kernel)
theorem gw_987 : Cond.methodLink "WayMayor$Clock" 74 yX0_countAsked ∈ GW := gw 987 (by decide +kernel) (by decide +kernel)
theorem gw_989 : Cond.instanceMethod yX0_countAsked ∈ GW := gw 989 (by decide +kernel) (by decide +kernel)
theorem gw_25 : Cond.selects "WayMayor$Clock" yX0_countAsked yX0_countAsked ∈ GW := gw 25 (by decide +kernel) (by decide +kernel)
theorem gw_991 : Cond.methodLink "WayMayor$Clock" 78 yX0_whereTo ∈ GW := gw 991 (by decide +kernel) (by decide +kernel)
theorem gw_993 : Cond.instanceMethod yX0_whereTo ∈ GW := gw 993 (by decide +kernel) (by decide +kernel)
theorem gw_26 : Cond.selects "WayMayor$Clock" yX0_whereTo yX0_whereTo ∈ GW := gw 26 (by decide +kernel) (by decide +kernel)
theorem gw_1007 : Cond.methodLink "WayMayor$Clock" 81 yX0_closeTerm ∈ GW := gw 1007 (by decide +kernel) (by decide +kernel)
theorem gw_1009 : Cond.instanceMethod yX0_closeTerm ∈ GW := gw 1009 (by decide +kernel) (by decide +kernel)
theorem gw_27 : Cond.selects "WayMayor$Clock" yX0_closeTerm yX0_closeTerm ∈ GW := gw 27 (by decide +kernel) (by decide +kernel)
theorem gw_963 : Cond.methodLink "WayMayor$Clock" 95 yX0_tellOfStranger ∈ GW := gw 963 (by decide +kernel) (by decide +kernel)
theorem gw_965 : Cond.instanceMethod yX0_tellOfStranger ∈ GW := gw 965 (by decide +kernel) (by decide +kernel)
theorem gw_22 : Cond.selects "WayMayor$Clock" yX0_tellOfStranger yX0_tellOfStranger ∈ GW := gw 22 (by decide +kernel) (by decide +kernel)
theorem gw_971 : Cond.methodLink "WayMayor$Clock" 107 yX0_tellOfPerson ∈ GW := gw 971 (by decide +kernel) (by decide +kernel)
theorem gw_973 : Cond.instanceMethod yX0_tellOfPerson ∈ GW := gw 973 (by decide +kernel) (by decide +kernel)
theorem gw_23 : Cond.selects "WayMayor$Clock" yX0_tellOfPerson yX0_tellOfPerson ∈ GW := gw 23 (by decide +kernel) (by decide +kernel)
theorem gw_975 : Cond.methodLink "WayMayor$Clock" 111 yX4_worth ∈ GW := gw 975 (by decide +kernel) (by decide +kernel)
theorem gw_976 : Cond.instanceMethod yX4_worth ∈ GW := gw 976 (by decide +kernel) (by decide +kernel)
theorem gw_977 : Cond.selects "WayMayor$Rule" yX4_worth yX4_worth ∈ GW := gw 977 (by decide +kernel) (by decide +kernel)
theorem gw_967 : Cond.methodLink "WayMayor$Clock" 117 yX11_far ∈ GW := gw 967 (by decide +kernel) (by decide +kernel)
theorem gw_968 : Cond.instanceMethod yX11_far ∈ GW := gw 968 (by decide +kernel) (by decide +kernel)
theorem gw_969 : Cond.selects "WayMayor$Ways" yX11_far yX11_far ∈ GW := gw 969 (by decide +kernel) (by decide +kernel)
theorem gw_995 : Cond.methodLink "WayMayor$Clock" 136 yX11_neighbours ∈ GW := gw 995 (by decide +kernel) (by decide +kernel)
theorem gw_397 : Cond.static yX11_neighbours ∈ GW := gw 397 (by decide +kernel) (by decide +kernel)
theorem gw_996 : Cond.methodLink "WayMayor$Clock" 140 yX11_least ∈ GW := gw 996 (by decide +kernel) (by decide +kernel)
theorem gw_997 : Cond.static yX11_least ∈ GW := gw 997 (by decide +kernel) (by decide +kernel)
theorem gw_999 : Cond.methodLink "WayMayor$Clock" 143 yX11_greatest ∈ GW := gw 999 (by decide +kernel) (by decide +kernel)
theorem gw_1000 : Cond.static yX11_greatest ∈ GW := gw 1000 (by decide +kernel) (by decide +kernel)
theorem gw_1002 : Cond.methodLink "WayMayor$Clock" 146 yX11_step ∈ GW := gw 1002 (by decide +kernel) (by decide +kernel)
theorem gw_1003 : Cond.instanceMethod yX11_step ∈ GW := gw 1003 (by decide +kernel) (by decide +kernel)
theorem gw_1004 : Cond.selects "WayMayor$Ways" yX11_step yX11_step ∈ GW := gw 1004 (by decide +kernel) (by decide +kernel)
theorem gw_1011 : Cond.methodLink "WayMayor$Clock" 152 yJ7_fill_53178 ∈ GW := gw 1011 (by decide +kernel) (by decide +kernel)
theorem gw_394 : Cond.static yJ7_fill_53178 ∈ GW := gw 394 (by decide +kernel) (by decide +kernel)
theorem gw_538 : Cond.methodLink "WayMayor$History" 3 objectInit ∈ GW := gw 538 (by decide +kernel) (by decide +kernel)
theorem gw_247 : Cond.instanceMethod yX7_init ∈ GW := gw 247 (by decide +kernel) (by decide +kernel)
theorem gw_1188 : Cond.methodLink "WayMayor$History" 42 yX0_wind ∈ GW := gw 1188 (by decide +kernel) (by decide +kernel)
theorem gw_943 : Cond.instanceMethod yX0_wind ∈ GW := gw 943 (by decide +kernel) (by decide +kernel)
theorem gw_944 : Cond.selects "WayMayor$Clock" yX0_wind yX0_wind ∈ GW := gw 944 (by decide +kernel) (by decide +kernel)
theorem gw_1189 : Cond.methodLink "WayMayor$History" 48 yX1_notesAreSo ∈ GW := gw 1189 (by decide +kernel) (by decide +kernel)
theorem gw_1191 : Cond.instanceMethod yX1_notesAreSo ∈ GW := gw 1191 (by decide +kernel) (by decide +kernel)
theorem gw_35 : Cond.selects "WayMayor$History" yX1_notesAreSo yX1_notesAreSo ∈ GW := gw 35 (by decide +kernel) (by decide +kernel)
theorem gw_1194 : Cond.methodLink "WayMayor$History" 55 yX7_begin ∈ GW := gw 1194 (by decide +kernel) (by decide +kernel)
theorem gw_792 : Cond.instanceMethod yX7_begin ∈ GW := gw 792 (by decide +kernel) (by decide +kernel)
theorem gw_793 : Cond.selects "WayMayor$State" yX7_begin yX7_begin ∈ GW := gw 793 (by decide +kernel) (by decide +kernel)
theorem gw_1212 : Cond.methodLink "WayMayor$History" 59 yX0_run ∈ GW := gw 1212 (by decide +kernel) (by decide +kernel)
theorem gw_1050 : Cond.instanceMethod yX0_run ∈ GW := gw 1050 (by decide +kernel) (by decide +kernel)
theorem gw_1051 : Cond.selects "WayMayor$Clock" yX0_run yX0_run ∈ GW := gw 1051 (by decide +kernel) (by decide +kernel)
theorem gw_1213 : Cond.methodLink "WayMayor$History" 69 yX1_mostAlike ∈ GW := gw 1213 (by decide +kernel) (by decide +kernel)
theorem gw_1215 : Cond.instanceMethod yX1_mostAlike ∈ GW := gw 1215 (by decide +kernel) (by decide +kernel)
theorem gw_36 : Cond.selects "WayMayor$History" yX1_mostAlike yX1_mostAlike ∈ GW := gw 36 (by decide +kernel) (by decide +kernel)
theorem gw_1193 : Cond.methodLink "WayMayor$History" 73 Lib.Math.max.name ∈ GW := gw 1193 (by decide +kernel) (by decide +kernel)
theorem gw_744 : Cond.static Lib.Math.max.name ∈ GW := gw 744 (by decide +kernel) (by decide +kernel)
theorem gw_123 : Cond.initialized "java/lang/Math" ∈ GW := gw 123 (by decide +kernel) (by decide +kernel)
theorem gw_745 : Cond.code Lib.Math.max.name Lib.Math.max.code 2 (some .int) ∈ GW := gw 745 (by decide +kernel) (by decide +kernel)
theorem gw_1195 : Cond.methodLink "WayMayor$History" 84 yX0_pass ∈ GW := gw 1195 (by decide +kernel) (by decide +kernel)
theorem gw_496 : Cond.methodLink "WayMayor$Outlook" 3 objectInit ∈ GW := gw 496 (by decide +kernel) (by decide +kernel)
theorem gw_1048 : Cond.methodLink "WayMayor$Outlook" 42 yX7_copyFrom ∈ GW := gw 1048 (by decide +kernel) (by decide +kernel)
theorem gw_930 : Cond.instanceMethod yX7_copyFrom ∈ GW := gw 930 (by decide +kernel) (by decide +kernel)
theorem gw_931 : Cond.selects "WayMayor$State" yX7_copyFrom yX7_copyFrom ∈ GW := gw 931 (by decide +kernel) (by decide +kernel)
theorem gw_1049 : Cond.methodLink "WayMayor$Outlook" 46 yX0_run ∈ GW := gw 1049 (by decide +kernel) (by decide +kernel)
theorem gw_1062 : Cond.methodLink "WayMayor$Outlook" 59 yX0_pass ∈ GW := gw 1062 (by decide +kernel) (by decide +kernel)
theorem gw_1102 : Cond.methodLink "WayMayor$Outlook" 88 yX2_comeBy ∈ GW := gw 1102 (by decide +kernel) (by decide +kernel)
theorem gw_1104 : Cond.instanceMethod yX2_comeBy ∈ GW := gw 1104 (by decide +kernel) (by decide +kernel)
theorem gw_28 : Cond.selects "WayMayor$Outlook" yX2_comeBy yX2_comeBy ∈ GW := gw 28 (by decide +kernel) (by decide +kernel)
theorem gw_1106 : Cond.methodLink "WayMayor$Outlook" 92 yX11_street ∈ GW := gw 1106 (by decide +kernel) (by decide +kernel)
theorem gw_709 : Cond.static yX11_street ∈ GW := gw 709 (by decide +kernel) (by decide +kernel)
theorem gw_1116 : Cond.methodLink "WayMayor$Outlook" 115 yX2_play ∈ GW := gw 1116 (by decide +kernel) (by decide +kernel)
theorem gw_1118 : Cond.instanceMethod yX2_play ∈ GW := gw 1118 (by decide +kernel) (by decide +kernel)
theorem gw_29 : Cond.selects "WayMayor$Outlook" yX2_play yX2_play ∈ GW := gw 29 (by decide +kernel) (by decide +kernel)
theorem gw_1120 : Cond.methodLink "WayMayor$Outlook" 119 yX2_lead ∈ GW := gw 1120 (by decide +kernel) (by decide +kernel)
theorem gw_1122 : Cond.instanceMethod yX2_lead ∈ GW := gw 1122 (by decide +kernel) (by decide +kernel)
theorem gw_30 : Cond.selects "WayMayor$Outlook" yX2_lead yX2_lead ∈ GW := gw 30 (by decide +kernel) (by decide +kernel)
theorem gw_1124 : Cond.methodLink "WayMayor$Outlook" 122 yX11_neighbours ∈ GW := gw 1124 (by decide +kernel) (by decide +kernel)
theorem gw_1133 : Cond.methodLink "WayMayor$Outlook" 125 yX2_fillGains ∈ GW := gw 1133 (by decide +kernel) (by decide +kernel)
theorem gw_1135 : Cond.instanceMethod yX2_fillGains ∈ GW := gw 1135 (by decide +kernel) (by decide +kernel)
theorem gw_31 : Cond.selects "WayMayor$Outlook" yX2_fillGains yX2_fillGains ∈ GW := gw 31 (by decide +kernel) (by decide +kernel)
theorem gw_1137 : Cond.methodLink "WayMayor$Outlook" 129 yX2_rest ∈ GW := gw 1137 (by decide +kernel) (by decide +kernel)
theorem gw_1139 : Cond.instanceMethod yX2_rest ∈ GW := gw 1139 (by decide +kernel) (by decide +kernel)
theorem gw_32 : Cond.selects "WayMayor$Outlook" yX2_rest yX2_rest ∈ GW := gw 32 (by decide +kernel) (by decide +kernel)
theorem gw_1161 : Cond.methodLink "WayMayor$Outlook" 137 yX2_draw ∈ GW := gw 1161 (by decide +kernel) (by decide +kernel)
theorem gw_1163 : Cond.instanceMethod yX2_draw ∈ GW := gw 1163 (by decide +kernel) (by decide +kernel)
theorem gw_33 : Cond.selects "WayMayor$Outlook" yX2_draw yX2_draw ∈ GW := gw 33 (by decide +kernel) (by decide +kernel)
theorem gw_1168 : Cond.methodLink "WayMayor$Outlook" 141 yX2_placeByDraw ∈ GW := gw 1168 (by decide +kernel) (by decide +kernel)
theorem gw_1170 : Cond.instanceMethod yX2_placeByDraw ∈ GW := gw 1170 (by decide +kernel) (by decide +kernel)
theorem gw_34 : Cond.selects "WayMayor$Outlook" yX2_placeByDraw yX2_placeByDraw ∈ GW := gw 34 (by decide +kernel) (by decide +kernel)
theorem gw_320 : Cond.methodLink "WayMayor$Past" 3 objectInit ∈ GW := gw 320 (by decide +kernel) (by decide +kernel)
theorem gw_929 : Cond.methodLink "WayMayor$Past" 25 yX7_copyFrom ∈ GW := gw 929 (by decide +kernel) (by decide +kernel)
theorem gw_933 : Cond.methodLink "WayMayor$Past" 29 Lib.Math.min.name ∈ GW := gw 933 (by decide +kernel) (by decide +kernel)
theorem gw_747 : Cond.static Lib.Math.min.name ∈ GW := gw 747 (by decide +kernel) (by decide +kernel)
theorem gw_748 : Cond.code Lib.Math.min.name Lib.Math.min.code 2 (some .int) ∈ GW := gw 748 (by decide +kernel) (by decide +kernel)
theorem gw_458 : Cond.methodLink "WayMayor$Rule" 3 objectInit ∈ GW := gw 458 (by decide +kernel) (by decide +kernel)
theorem gw_979 : Cond.methodLink "WayMayor$Rule" 43 Lib.Math.max.name ∈ GW := gw 979 (by decide +kernel) (by decide +kernel)
theorem gw_980 : Cond.methodLink "WayMayor$Rule" 49 yX4_sumOf ∈ GW := gw 980 (by decide +kernel) (by decide +kernel)
theorem gw_982 : Cond.instanceMethod yX4_sumOf ∈ GW := gw 982 (by decide +kernel) (by decide +kernel)
theorem gw_24 : Cond.selects "WayMayor$Rule" yX4_sumOf yX4_sumOf ∈ GW := gw 24 (by decide +kernel) (by decide +kernel)
theorem gw_984 : Cond.methodLink "WayMayor$Rule" 53 yX4_compares ∈ GW := gw 984 (by decide +kernel) (by decide +kernel)
theorem gw_985 : Cond.static yX4_compares ∈ GW := gw 985 (by decide +kernel) (by decide +kernel)
theorem gw_444 : Cond.methodLink "WayMayor$RuleReader" 3 objectInit ∈ GW := gw 444 (by decide +kernel) (by decide +kernel)
theorem gw_812 : Cond.methodLink "WayMayor$RuleReader" 19 yX4_clear ∈ GW := gw 812 (by decide +kernel) (by decide +kernel)
theorem gw_813 : Cond.instanceMethod yX4_clear ∈ GW := gw 813 (by decide +kernel) (by decide +kernel)
theorem gw_814 : Cond.selects "WayMayor$Rule" yX4_clear yX4_clear ∈ GW := gw 814 (by decide +kernel) (by decide +kernel)
theorem gw_816 : Cond.methodLink "WayMayor$RuleReader" 24 yX8_open ∈ GW := gw 816 (by decide +kernel) (by decide +kernel)
theorem gw_611 : Cond.instanceMethod yX8_open ∈ GW := gw 611 (by decide +kernel) (by decide +kernel)
theorem gw_612 : Cond.selects "WayMayor$Tape" yX8_open yX8_open ∈ GW := gw 612 (by decide +kernel) (by decide +kernel)
theorem gw_817 : Cond.methodLink "WayMayor$RuleReader" 29 yX4_beginSum ∈ GW := gw 817 (by decide +kernel) (by decide +kernel)
theorem gw_818 : Cond.instanceMethod yX4_beginSum ∈ GW := gw 818 (by decide +kernel) (by decide +kernel)
theorem gw_819 : Cond.selects "WayMayor$Rule" yX4_beginSum yX4_beginSum ∈ GW := gw 819 (by decide +kernel) (by decide +kernel)
theorem gw_821 : Cond.methodLink "WayMayor$RuleReader" 33 yX5_clauseBegins ∈ GW := gw 821 (by decide +kernel) (by decide +kernel)
theorem gw_823 : Cond.instanceMethod yX5_clauseBegins ∈ GW := gw 823 (by decide +kernel) (by decide +kernel)
theorem gw_8 : Cond.selects "WayMayor$RuleReader" yX5_clauseBegins yX5_clauseBegins ∈ GW := gw 8 (by decide +kernel) (by decide +kernel)
theorem gw_829 : Cond.methodLink "WayMayor$RuleReader" 37 yX5_sum ∈ GW := gw 829 (by decide +kernel) (by decide +kernel)
theorem gw_831 : Cond.instanceMethod yX5_sum ∈ GW := gw 831 (by decide +kernel) (by decide +kernel)
theorem gw_9 : Cond.selects "WayMayor$RuleReader" yX5_sum yX5_sum ∈ GW := gw 9 (by decide +kernel) (by decide +kernel)
theorem gw_826 : Cond.methodLink "WayMayor$RuleReader" 42 yX8_wordAmong ∈ GW := gw 826 (by decide +kernel) (by decide +kernel)
theorem gw_632 : Cond.instanceMethod yX8_wordAmong ∈ GW := gw 632 (by decide +kernel) (by decide +kernel)
theorem gw_633 : Cond.selects "WayMayor$Tape" yX8_wordAmong yX8_wordAmong ∈ GW := gw 633 (by decide +kernel) (by decide +kernel)
theorem gw_828 : Cond.methodLink "WayMayor$RuleReader" 46 yX8_advance ∈ GW := gw 828 (by decide +kernel) (by decide +kernel)
theorem gw_615 : Cond.instanceMethod yX8_advance ∈ GW := gw 615 (by decide +kernel) (by decide +kernel)
theorem gw_616 : Cond.selects "WayMayor$Tape" yX8_advance yX8_advance ∈ GW := gw 616 (by decide +kernel) (by decide +kernel)
theorem gw_854 : Cond.methodLink "WayMayor$RuleReader" 49 yX5_test ∈ GW := gw 854 (by decide +kernel) (by decide +kernel)
theorem gw_856 : Cond.instanceMethod yX5_test ∈ GW := gw 856 (by decide +kernel) (by decide +kernel)
theorem gw_11 : Cond.selects "WayMayor$RuleReader" yX5_test yX5_test ∈ GW := gw 11 (by decide +kernel) (by decide +kernel)
theorem gw_868 : Cond.methodLink "WayMayor$RuleReader" 52 yX4_addStep ∈ GW := gw 868 (by decide +kernel) (by decide +kernel)
theorem gw_869 : Cond.instanceMethod yX4_addStep ∈ GW := gw 869 (by decide +kernel) (by decide +kernel)
theorem gw_870 : Cond.selects "WayMayor$Rule" yX4_addStep yX4_addStep ∈ GW := gw 870 (by decide +kernel) (by decide +kernel)
theorem gw_879 : Cond.methodLink "WayMayor$RuleReader" 56 yX4_landHere ∈ GW := gw 879 (by decide +kernel) (by decide +kernel)
theorem gw_880 : Cond.instanceMethod yX4_landHere ∈ GW := gw 880 (by decide +kernel) (by decide +kernel)
theorem gw_881 : Cond.selects "WayMayor$Rule" yX4_landHere yX4_landHere ∈ GW := gw 881 (by decide +kernel) (by decide +kernel)
theorem gw_883 : Cond.methodLink "WayMayor$RuleReader" 60 yX8_clauseFollows ∈ GW := gw 883 (by decide +kernel) (by decide +kernel)
theorem gw_720 : Cond.instanceMethod yX8_clauseFollows ∈ GW := gw 720 (by decide +kernel) (by decide +kernel)
theorem gw_721 : Cond.selects "WayMayor$Tape" yX8_clauseFollows yX8_clauseFollows ∈ GW := gw 721 (by decide +kernel) (by decide +kernel)
theorem gw_827 : Cond.methodLink "WayMayor$RuleReader" 70 yX8_refuse ∈ GW := gw 827 (by decide +kernel) (by decide +kernel)
theorem gw_684 : Cond.instanceMethod yX8_refuse ∈ GW := gw 684 (by decide +kernel) (by decide +kernel)
theorem gw_685 : Cond.selects "WayMayor$Tape" yX8_refuse yX8_refuse ∈ GW := gw 685 (by decide +kernel) (by decide +kernel)
theorem gw_858 : Cond.methodLink "WayMayor$RuleReader" 73 yX5_fact ∈ GW := gw 858 (by decide +kernel) (by decide +kernel)
theorem gw_860 : Cond.instanceMethod yX5_fact ∈ GW := gw 860 (by decide +kernel) (by decide +kernel)
theorem gw_12 : Cond.selects "WayMayor$RuleReader" yX5_fact yX5_fact ∈ GW := gw 12 (by decide +kernel) (by decide +kernel)
theorem gw_848 : Cond.methodLink "WayMayor$RuleReader" 82 yX8_signAmong ∈ GW := gw 848 (by decide +kernel) (by decide +kernel)
theorem gw_725 : Cond.instanceMethod yX8_signAmong ∈ GW := gw 725 (by decide +kernel) (by decide +kernel)
theorem gw_726 : Cond.selects "WayMayor$Tape" yX8_signAmong yX8_signAmong ∈ GW := gw 726 (by decide +kernel) (by decide +kernel)
theorem gw_864 : Cond.methodLink "WayMayor$RuleReader" 85 yX5_innerFact ∈ GW := gw 864 (by decide +kernel) (by decide +kernel)
theorem gw_866 : Cond.instanceMethod yX5_innerFact ∈ GW := gw 866 (by decide +kernel) (by decide +kernel)
theorem gw_13 : Cond.selects "WayMayor$RuleReader" yX5_innerFact yX5_innerFact ∈ GW := gw 13 (by decide +kernel) (by decide +kernel)
theorem gw_839 : Cond.methodLink "WayMayor$RuleReader" 90 yX4_isFull ∈ GW := gw 839 (by decide +kernel) (by decide +kernel)
theorem gw_840 : Cond.instanceMethod yX4_isFull ∈ GW := gw 840 (by decide +kernel) (by decide +kernel)
theorem gw_841 : Cond.selects "WayMayor$Rule" yX4_isFull yX4_isFull ∈ GW := gw 841 (by decide +kernel) (by decide +kernel)
theorem gw_874 : Cond.methodLink "WayMayor$RuleReader" 93 yX4_countFact ∈ GW := gw 874 (by decide +kernel) (by decide +kernel)
theorem gw_875 : Cond.instanceMethod yX4_countFact ∈ GW := gw 875 (by decide +kernel) (by decide +kernel)
theorem gw_876 : Cond.selects "WayMayor$Rule" yX4_countFact yX4_countFact ∈ GW := gw 876 (by decide +kernel) (by decide +kernel)
theorem gw_833 : Cond.methodLink "WayMayor$RuleReader" 101 yX5_addValue ∈ GW := gw 833 (by decide +kernel) (by decide +kernel)
theorem gw_835 : Cond.instanceMethod yX5_addValue ∈ GW := gw 835 (by decide +kernel) (by decide +kernel)
theorem gw_10 : Cond.selects "WayMayor$RuleReader" yX5_addValue yX5_addValue ∈ GW := gw 10 (by decide +kernel) (by decide +kernel)
theorem gw_849 : Cond.methodLink "WayMayor$RuleReader" 106 yX4_endSum ∈ GW := gw 849 (by decide +kernel) (by decide +kernel)
theorem gw_850 : Cond.instanceMethod yX4_endSum ∈ GW := gw 850 (by decide +kernel) (by decide +kernel)
theorem gw_851 : Cond.selects "WayMayor$Rule" yX4_endSum yX4_endSum ∈ GW := gw 851 (by decide +kernel) (by decide +kernel)
theorem gw_838 : Cond.methodLink "WayMayor$RuleReader" 111 yX8_numberHere ∈ GW := gw 838 (by decide +kernel) (by decide +kernel)
theorem gw_701 : Cond.instanceMethod yX8_numberHere ∈ GW := gw 701 (by decide +kernel) (by decide +kernel)
theorem gw_702 : Cond.selects "WayMayor$Tape" yX8_numberHere yX8_numberHere ∈ GW := gw 702 (by decide +kernel) (by decide +kernel)
theorem gw_843 : Cond.methodLink "WayMayor$RuleReader" 114 yX4_addValue ∈ GW := gw 843 (by decide +kernel) (by decide +kernel)
theorem gw_844 : Cond.instanceMethod yX4_addValue ∈ GW := gw 844 (by decide +kernel) (by decide +kernel)
theorem gw_845 : Cond.selects "WayMayor$Rule" yX4_addValue yX4_addValue ∈ GW := gw 845 (by decide +kernel) (by decide +kernel)
theorem gw_174 : Cond.methodLink "WayMayor$Scene" 3 objectInit ∈ GW := gw 174 (by decide +kernel) (by decide +kernel)
theorem gw_317 : Cond.methodLink "WayMayor$Scene" 27 yX3_init ∈ GW := gw 317 (by decide +kernel) (by decide +kernel)
theorem gw_318 : Cond.instanceMethod yX3_init ∈ GW := gw 318 (by decide +kernel) (by decide +kernel)
theorem gw_791 : Cond.methodLink "WayMayor$Scene" 46 yX7_begin ∈ GW := gw 791 (by decide +kernel) (by decide +kernel)
theorem gw_799 : Cond.methodLink "WayMayor$Scene" 50 yX3_clear ∈ GW := gw 799 (by decide +kernel) (by decide +kernel)
theorem gw_800 : Cond.instanceMethod yX3_clear ∈ GW := gw 800 (by decide +kernel) (by decide +kernel)
theorem gw_801 : Cond.selects "WayMayor$Past" yX3_clear yX3_clear ∈ GW := gw 801 (by decide +kernel) (by decide +kernel)
theorem gw_1234 : Cond.methodLink "WayMayor$Scene" 56 yX7_copyFrom ∈ GW := gw 1234 (by decide +kernel) (by decide +kernel)
theorem gw_1235 : Cond.methodLink "WayMayor$Scene" 60 yX3_copyFrom ∈ GW := gw 1235 (by decide +kernel) (by decide +kernel)
theorem gw_1236 : Cond.instanceMethod yX3_copyFrom ∈ GW := gw 1236 (by decide +kernel) (by decide +kernel)
theorem gw_1237 : Cond.selects "WayMayor$Past" yX3_copyFrom yX3_copyFrom ∈ GW := gw 1237 (by decide +kernel) (by decide +kernel)
theorem gw_1239 : Cond.methodLink "WayMayor$Scene" 66 arraycopyName ∈ GW := gw 1239 (by decide +kernel) (by decide +kernel)
theorem gw_797 : Cond.native arraycopyName ∈ GW := gw 797 (by decide +kernel) (by decide +kernel)
theorem gw_796 : Cond.static arraycopyName ∈ GW := gw 796 (by decide +kernel) (by decide +kernel)
theorem gw_125 : Cond.initialized "java/lang/System" ∈ GW := gw 125 (by decide +kernel) (by decide +kernel)
theorem gw_1149 : Cond.methodLink "WayMayor$Scene" 72 yX7_askedInAll ∈ GW := gw 1149 (by decide +kernel) (by decide +kernel)
theorem gw_1150 : Cond.instanceMethod yX7_askedInAll ∈ GW := gw 1150 (by decide +kernel) (by decide +kernel)
theorem gw_1151 : Cond.selects "WayMayor$State" yX7_askedInAll yX7_askedInAll ∈ GW := gw 1151 (by decide +kernel) (by decide +kernel)
theorem gw_249 : Cond.methodLink "WayMayor$State" 3 objectInit ∈ GW := gw 249 (by decide +kernel) (by decide +kernel)
theorem gw_795 : Cond.methodLink "WayMayor$State" 53 arraycopyName ∈ GW := gw 795 (by decide +kernel) (by decide +kernel)
theorem gw_798 : Cond.methodLink "WayMayor$State" 60 yJ7_fill_53178 ∈ GW := gw 798 (by decide +kernel) (by decide +kernel)
theorem gw_139 : Cond.methodLink "WayMayor$Tape" 3 objectInit ∈ GW := gw 139 (by decide +kernel) (by decide +kernel)
theorem gw_614 : Cond.methodLink "WayMayor$Tape" 25 yX8_advance ∈ GW := gw 614 (by decide +kernel) (by decide +kernel)
theorem gw_618 : Cond.methodLink "WayMayor$Tape" 31 yX8_kindAt ∈ GW := gw 618 (by decide +kernel) (by decide +kernel)
theorem gw_620 : Cond.instanceMethod yX8_kindAt ∈ GW := gw 620 (by decide +kernel) (by decide +kernel)
theorem gw_1 : Cond.selects "WayMayor$Tape" yX8_kindAt yX8_kindAt ∈ GW := gw 1 (by decide +kernel) (by decide +kernel)
theorem gw_622 : Cond.methodLink "WayMayor$Tape" 38 yX8_joinsEqual ∈ GW := gw 622 (by decide +kernel) (by decide +kernel)
theorem gw_624 : Cond.instanceMethod yX8_joinsEqual ∈ GW := gw 624 (by decide +kernel) (by decide +kernel)
theorem gw_2 : Cond.selects "WayMayor$Tape" yX8_joinsEqual yX8_joinsEqual ∈ GW := gw 2 (by decide +kernel) (by decide +kernel)
theorem gw_699 : Cond.methodLink "WayMayor$Tape" 54 yX8_refuse ∈ GW := gw 699 (by decide +kernel) (by decide +kernel)
theorem gw_700 : Cond.methodLink "WayMayor$Tape" 58 yX8_numberHere ∈ GW := gw 700 (by decide +kernel) (by decide +kernel)
theorem gw_724 : Cond.methodLink "WayMayor$Tape" 66 yX8_signAmong ∈ GW := gw 724 (by decide +kernel) (by decide +kernel)
theorem gw_180 : Cond.methodLink "WayMayor$Town" 3 objectInit ∈ GW := gw 180 (by decide +kernel) (by decide +kernel)
theorem gw_434 : Cond.methodLink "WayMayor$TownReader" 3 objectInit ∈ GW := gw 434 (by decide +kernel) (by decide +kernel)
theorem gw_610 : Cond.methodLink "WayMayor$TownReader" 18 yX8_open ∈ GW := gw 610 (by decide +kernel) (by decide +kernel)
theorem gw_626 : Cond.methodLink "WayMayor$TownReader" 23 yX10_clause ∈ GW := gw 626 (by decide +kernel) (by decide +kernel)
theorem gw_628 : Cond.instanceMethod yX10_clause ∈ GW := gw 628 (by decide +kernel) (by decide +kernel)
theorem gw_3 : Cond.selects "WayMayor$TownReader" yX10_clause yX10_clause ∈ GW := gw 3 (by decide +kernel) (by decide +kernel)
theorem gw_719 : Cond.methodLink "WayMayor$TownReader" 27 yX8_clauseFollows ∈ GW := gw 719 (by decide +kernel) (by decide +kernel)
theorem gw_631 : Cond.methodLink "WayMayor$TownReader" 37 yX8_wordAmong ∈ GW := gw 631 (by decide +kernel) (by decide +kernel)
theorem gw_683 : Cond.methodLink "WayMayor$TownReader" 41 yX8_refuse ∈ GW := gw 683 (by decide +kernel) (by decide +kernel)
theorem gw_687 : Cond.methodLink "WayMayor$TownReader" 45 yX10_isFull ∈ GW := gw 687 (by decide +kernel) (by decide +kernel)
theorem gw_688 : Cond.static yX10_isFull ∈ GW := gw 688 (by decide +kernel) (by decide +kernel)
theorem gw_690 : Cond.methodLink "WayMayor$TownReader" 48 yX8_advance ∈ GW := gw 690 (by decide +kernel) (by decide +kernel)
theorem gw_691 : Cond.methodLink "WayMayor$TownReader" 51 yX10_tellSize ∈ GW := gw 691 (by decide +kernel) (by decide +kernel)
theorem gw_693 : Cond.instanceMethod yX10_tellSize ∈ GW := gw 693 (by decide +kernel) (by decide +kernel)
theorem gw_4 : Cond.selects "WayMayor$TownReader" yX10_tellSize yX10_tellSize ∈ GW := gw 4 (by decide +kernel) (by decide +kernel)
theorem gw_704 : Cond.methodLink "WayMayor$TownReader" 55 yX10_tellStreet ∈ GW := gw 704 (by decide +kernel) (by decide +kernel)
theorem gw_706 : Cond.instanceMethod yX10_tellStreet ∈ GW := gw 706 (by decide +kernel) (by decide +kernel)
theorem gw_5 : Cond.selects "WayMayor$TownReader" yX10_tellStreet yX10_tellStreet ∈ GW := gw 5 (by decide +kernel) (by decide +kernel)
theorem gw_711 : Cond.methodLink "WayMayor$TownReader" 58 yX10_tellPerson ∈ GW := gw 711 (by decide +kernel) (by decide +kernel)
theorem gw_713 : Cond.instanceMethod yX10_tellPerson ∈ GW := gw 713 (by decide +kernel) (by decide +kernel)
theorem gw_6 : Cond.selects "WayMayor$TownReader" yX10_tellPerson yX10_tellPerson ∈ GW := gw 6 (by decide +kernel) (by decide +kernel)
theorem gw_715 : Cond.methodLink "WayMayor$TownReader" 61 yX10_tellStranger ∈ GW := gw 715 (by decide +kernel) (by decide +kernel)
theorem gw_717 : Cond.instanceMethod yX10_tellStranger ∈ GW := gw 717 (by decide +kernel) (by decide +kernel)
theorem gw_7 : Cond.selects "WayMayor$TownReader" yX10_tellStranger yX10_tellStranger ∈ GW := gw 7 (by decide +kernel) (by decide +kernel)
theorem gw_695 : Cond.methodLink "WayMayor$TownReader" 70 yX8_take ∈ GW := gw 695 (by decide +kernel) (by decide +kernel)
theorem gw_696 : Cond.instanceMethod yX8_take ∈ GW := gw 696 (by decide +kernel) (by decide +kernel)
theorem gw_697 : Cond.selects "WayMayor$Tape" yX8_take yX8_take ∈ GW := gw 697 (by decide +kernel) (by decide +kernel)
theorem gw_708 : Cond.methodLink "WayMayor$TownReader" 87 yX11_street ∈ GW := gw 708 (by decide +kernel) (by decide +kernel)
theorem gw_388 : Cond.methodLink "WayMayor$Ways" 3 objectInit ∈ GW := gw 388 (by decide +kernel) (by decide +kernel)
theorem gw_389 : Cond.methodLink "WayMayor$Ways" 15 yX11_measure ∈ GW := gw 389 (by decide +kernel) (by decide +kernel)
theorem gw_391 : Cond.instanceMethod yX11_measure ∈ GW := gw 391 (by decide +kernel) (by decide +kernel)
theorem gw_0 : Cond.selects "WayMayor$Ways" yX11_measure yX11_measure ∈ GW := gw 0 (by decide +kernel) (by decide +kernel)
theorem gw_393 : Cond.methodLink "WayMayor$Ways" 23 yJ7_fill_53178 ∈ GW := gw 393 (by decide +kernel) (by decide +kernel)
theorem gw_396 : Cond.methodLink "WayMayor$Ways" 29 yX11_neighbours ∈ GW := gw 396 (by decide +kernel) (by decide +kernel)
theorem gw_1006 : Cond.methodLink "WayMayor$Ways" 33 yX11_far ∈ GW := gw 1006 (by decide +kernel) (by decide +kernel)
theorem gw_131 : Cond.methodLink "WayMayor" 1 objectInit ∈ GW := gw 131 (by decide +kernel) (by decide +kernel)
theorem gw_137 : Cond.instanceMethod yX8_init ∈ GW := gw 137 (by decide +kernel) (by decide +kernel)
theorem gw_172 : Cond.instanceMethod yX6_init ∈ GW := gw 172 (by decide +kernel) (by decide +kernel)
theorem gw_380 : Cond.instanceMethod yX0_init ∈ GW := gw 380 (by decide +kernel) (by decide +kernel)
theorem gw_431 : Cond.methodLink "WayMayor" 24 yX10_init ∈ GW := gw 431 (by decide +kernel) (by decide +kernel)
theorem gw_432 : Cond.instanceMethod yX10_init ∈ GW := gw 432 (by decide +kernel) (by decide +kernel)
theorem gw_441 : Cond.methodLink "WayMayor" 33 yX5_init ∈ GW := gw 441 (by decide +kernel) (by decide +kernel)
theorem gw_442 : Cond.instanceMethod yX5_init ∈ GW := gw 442 (by decide +kernel) (by decide +kernel)
theorem gw_456 : Cond.instanceMethod yX4_init ∈ GW := gw 456 (by decide +kernel) (by decide +kernel)
theorem gw_493 : Cond.methodLink "WayMayor" 67 yX2_init ∈ GW := gw 493 (by decide +kernel) (by decide +kernel)
theorem gw_494 : Cond.instanceMethod yX2_init ∈ GW := gw 494 (by decide +kernel) (by decide +kernel)
theorem gw_535 : Cond.methodLink "WayMayor" 76 yX1_init ∈ GW := gw 535 (by decide +kernel) (by decide +kernel)
theorem gw_536 : Cond.instanceMethod yX1_init ∈ GW := gw 536 (by decide +kernel) (by decide +kernel)
theorem gw_592 : Cond.methodLink "WayMayor" 84 yX8_add ∈ GW := gw 592 (by decide +kernel) (by decide +kernel)
theorem gw_593 : Cond.instanceMethod yX8_add ∈ GW := gw 593 (by decide +kernel) (by decide +kernel)
theorem gw_594 : Cond.selects "WayMayor$Tape" yX8_add yX8_add ∈ GW := gw 594 (by decide +kernel) (by decide +kernel)
theorem gw_604 : Cond.methodLink "WayMayor" 88 yX10_read ∈ GW := gw 604 (by decide +kernel) (by decide +kernel)
theorem gw_605 : Cond.instanceMethod yX10_read ∈ GW := gw 605 (by decide +kernel) (by decide +kernel)
theorem gw_606 : Cond.selects "WayMayor$TownReader" yX10_read yX10_read ∈ GW := gw 606 (by decide +kernel) (by decide +kernel)
theorem gw_787 : Cond.methodLink "WayMayor" 95 yX6_move ∈ GW := gw 787 (by decide +kernel) (by decide +kernel)
theorem gw_788 : Cond.instanceMethod yX6_move ∈ GW := gw 788 (by decide +kernel) (by decide +kernel)
theorem gw_789 : Cond.selects "WayMayor$Scene" yX6_move yX6_move ∈ GW := gw 789 (by decide +kernel) (by decide +kernel)
theorem gw_808 : Cond.methodLink "WayMayor" 104 yX5_read ∈ GW := gw 808 (by decide +kernel) (by decide +kernel)
theorem gw_809 : Cond.instanceMethod yX5_read ∈ GW := gw 809 (by decide +kernel) (by decide +kernel)
theorem gw_810 : Cond.selects "WayMayor$RuleReader" yX5_read yX5_read ∈ GW := gw 810 (by decide +kernel) (by decide +kernel)
theorem gw_892 : Cond.methodLink "WayMayor" 110 yX12_isPerson ∈ GW := gw 892 (by decide +kernel) (by decide +kernel)
theorem gw_894 : Cond.instanceMethod yX12_isPerson ∈ GW := gw 894 (by decide +kernel) (by decide +kernel)
theorem gw_14 : Cond.selects "WayMayor" yX12_isPerson yX12_isPerson ∈ GW := gw 14 (by decide +kernel) (by decide +kernel)
theorem gw_900 : Cond.methodLink "WayMayor" 143 yX12_isStranger ∈ GW := gw 900 (by decide +kernel) (by decide +kernel)
theorem gw_902 : Cond.instanceMethod yX12_isStranger ∈ GW := gw 902 (by decide +kernel) (by decide +kernel)
theorem gw_15 : Cond.selects "WayMayor" yX12_isStranger yX12_isStranger ∈ GW := gw 15 (by decide +kernel) (by decide +kernel)
theorem gw_908 : Cond.methodLink "WayMayor" 158 yX12_isPlace ∈ GW := gw 908 (by decide +kernel) (by decide +kernel)
theorem gw_910 : Cond.instanceMethod yX12_isPlace ∈ GW := gw 910 (by decide +kernel) (by decide +kernel)
theorem gw_16 : Cond.selects "WayMayor" yX12_isPlace yX12_isPlace ∈ GW := gw 16 (by decide +kernel) (by decide +kernel)
theorem gw_912 : Cond.methodLink "WayMayor" 165 yX11_neighbours ∈ GW := gw 912 (by decide +kernel) (by decide +kernel)
theorem gw_921 : Cond.methodLink "WayMayor" 174 yX12_hasTown ∈ GW := gw 921 (by decide +kernel) (by decide +kernel)
theorem gw_923 : Cond.instanceMethod yX12_hasTown ∈ GW := gw 923 (by decide +kernel) (by decide +kernel)
theorem gw_17 : Cond.selects "WayMayor" yX12_hasTown yX12_hasTown ∈ GW := gw 17 (by decide +kernel) (by decide +kernel)
theorem gw_925 : Cond.methodLink "WayMayor" 185 yX3_push ∈ GW := gw 925 (by decide +kernel) (by decide +kernel)
theorem gw_926 : Cond.instanceMethod yX3_push ∈ GW := gw 926 (by decide +kernel) (by decide +kernel)
theorem gw_927 : Cond.selects "WayMayor$Past" yX3_push yX3_push ∈ GW := gw 927 (by decide +kernel) (by decide +kernel)
theorem gw_934 : Cond.methodLink "WayMayor" 191 yX12_windClock ∈ GW := gw 934 (by decide +kernel) (by decide +kernel)
theorem gw_936 : Cond.instanceMethod yX12_windClock ∈ GW := gw 936 (by decide +kernel) (by decide +kernel)
theorem gw_18 : Cond.selects "WayMayor" yX12_windClock yX12_windClock ∈ GW := gw 18 (by decide +kernel) (by decide +kernel)
theorem gw_946 : Cond.methodLink "WayMayor" 194 yX0_pass ∈ GW := gw 946 (by decide +kernel) (by decide +kernel)
theorem gw_1020 : Cond.methodLink "WayMayor" 198 yX12_within ∈ GW := gw 1020 (by decide +kernel) (by decide +kernel)
theorem gw_1021 : Cond.static yX12_within ∈ GW := gw 1021 (by decide +kernel) (by decide +kernel)
theorem gw_1027 : Cond.methodLink "WayMayor" 202 yX11_street ∈ GW := gw 1027 (by decide +kernel) (by decide +kernel)
theorem gw_1036 : Cond.methodLink "WayMayor" 212 yX3_pop ∈ GW := gw 1036 (by decide +kernel) (by decide +kernel)
theorem gw_1037 : Cond.instanceMethod yX3_pop ∈ GW := gw 1037 (by decide +kernel) (by decide +kernel)
theorem gw_1038 : Cond.selects "WayMayor$Past" yX3_pop yX3_pop ∈ GW := gw 1038 (by decide +kernel) (by decide +kernel)
theorem gw_1044 : Cond.methodLink "WayMayor" 215 yX2_after ∈ GW := gw 1044 (by decide +kernel) (by decide +kernel)
theorem gw_1045 : Cond.instanceMethod yX2_after ∈ GW := gw 1045 (by decide +kernel) (by decide +kernel)
theorem gw_1046 : Cond.selects "WayMayor$Outlook" yX2_after yX2_after ∈ GW := gw 1046 (by decide +kernel) (by decide +kernel)
theorem gw_1058 : Cond.methodLink "WayMayor" 225 yX2_firstChain ∈ GW := gw 1058 (by decide +kernel) (by decide +kernel)
theorem gw_1059 : Cond.instanceMethod yX2_firstChain ∈ GW := gw 1059 (by decide +kernel) (by decide +kernel)
theorem gw_1060 : Cond.selects "WayMayor$Outlook" yX2_firstChain yX2_firstChain ∈ GW := gw 1060 (by decide +kernel) (by decide +kernel)
theorem gw_1067 : Cond.methodLink "WayMayor" 229 yX2_bestPitch ∈ GW := gw 1067 (by decide +kernel) (by decide +kernel)
theorem gw_1068 : Cond.instanceMethod yX2_bestPitch ∈ GW := gw 1068 (by decide +kernel) (by decide +kernel)
theorem gw_1069 : Cond.selects "WayMayor$Outlook" yX2_bestPitch yX2_bestPitch ∈ GW := gw 1069 (by decide +kernel) (by decide +kernel)
theorem gw_1075 : Cond.methodLink "WayMayor" 233 yX2_leastSmile ∈ GW := gw 1075 (by decide +kernel) (by decide +kernel)
theorem gw_1076 : Cond.instanceMethod yX2_leastSmile ∈ GW := gw 1076 (by decide +kernel) (by decide +kernel)
theorem gw_1077 : Cond.selects "WayMayor$Outlook" yX2_leastSmile yX2_leastSmile ∈ GW := gw 1077 (by decide +kernel) (by decide +kernel)
theorem gw_1083 : Cond.methodLink "WayMayor" 241 yX11_follow ∈ GW := gw 1083 (by decide +kernel) (by decide +kernel)
theorem gw_1084 : Cond.methodLink "WayMayor" 245 yX11_far ∈ GW := gw 1084 (by decide +kernel) (by decide +kernel)
theorem gw_1085 : Cond.methodLink "WayMayor" 248 yX11_step ∈ GW := gw 1085 (by decide +kernel) (by decide +kernel)
theorem gw_1090 : Cond.methodLink "WayMayor" 251 yX2_cameFrom ∈ GW := gw 1090 (by decide +kernel) (by decide +kernel)
theorem gw_1091 : Cond.instanceMethod yX2_cameFrom ∈ GW := gw 1091 (by decide +kernel) (by decide +kernel)
theorem gw_1092 : Cond.selects "WayMayor$Outlook" yX2_cameFrom yX2_cameFrom ∈ GW := gw 1092 (by decide +kernel) (by decide +kernel)
theorem gw_1098 : Cond.methodLink "WayMayor" 255 yX2_bestShut ∈ GW := gw 1098 (by decide +kernel) (by decide +kernel)
theorem gw_1099 : Cond.instanceMethod yX2_bestShut ∈ GW := gw 1099 (by decide +kernel) (by decide +kernel)
theorem gw_1100 : Cond.selects "WayMayor$Outlook" yX2_bestShut yX2_bestShut ∈ GW := gw 1100 (by decide +kernel) (by decide +kernel)
theorem gw_1112 : Cond.methodLink "WayMayor" 258 yX2_duel ∈ GW := gw 1112 (by decide +kernel) (by decide +kernel)
theorem gw_1113 : Cond.instanceMethod yX2_duel ∈ GW := gw 1113 (by decide +kernel) (by decide +kernel)
theorem gw_1114 : Cond.selects "WayMayor$Outlook" yX2_duel yX2_duel ∈ GW := gw 1114 (by decide +kernel) (by decide +kernel)
theorem gw_1129 : Cond.methodLink "WayMayor" 261 yX2_stableTwos ∈ GW := gw 1129 (by decide +kernel) (by decide +kernel)
theorem gw_1130 : Cond.instanceMethod yX2_stableTwos ∈ GW := gw 1130 (by decide +kernel) (by decide +kernel)
theorem gw_1131 : Cond.selects "WayMayor$Outlook" yX2_stableTwos yX2_stableTwos ∈ GW := gw 1131 (by decide +kernel) (by decide +kernel)
theorem gw_1145 : Cond.methodLink "WayMayor" 264 yX6_share ∈ GW := gw 1145 (by decide +kernel) (by decide +kernel)
theorem gw_1146 : Cond.instanceMethod yX6_share ∈ GW := gw 1146 (by decide +kernel) (by decide +kernel)
theorem gw_1147 : Cond.selects "WayMayor$Scene" yX6_share yX6_share ∈ GW := gw 1147 (by decide +kernel) (by decide +kernel)
theorem gw_1157 : Cond.methodLink "WayMayor" 267 yX2_drawn ∈ GW := gw 1157 (by decide +kernel) (by decide +kernel)
theorem gw_1158 : Cond.instanceMethod yX2_drawn ∈ GW := gw 1158 (by decide +kernel) (by decide +kernel)
theorem gw_1159 : Cond.selects "WayMayor$Outlook" yX2_drawn yX2_drawn ∈ GW := gw 1159 (by decide +kernel) (by decide +kernel)
theorem gw_1176 : Cond.methodLink "WayMayor" 273 yX6_addNote ∈ GW := gw 1176 (by decide +kernel) (by decide +kernel)
theorem gw_1177 : Cond.instanceMethod yX6_addNote ∈ GW := gw 1177 (by decide +kernel) (by decide +kernel)
theorem gw_1178 : Cond.selects "WayMayor$Scene" yX6_addNote yX6_addNote ∈ GW := gw 1178 (by decide +kernel) (by decide +kernel)
theorem gw_938 : Cond.methodLink "WayMayor" 277 yX12_ruleNumbered ∈ GW := gw 938 (by decide +kernel) (by decide +kernel)
theorem gw_940 : Cond.instanceMethod yX12_ruleNumbered ∈ GW := gw 940 (by decide +kernel) (by decide +kernel)
theorem gw_19 : Cond.selects "WayMayor" yX12_ruleNumbered yX12_ruleNumbered ∈ GW := gw 19 (by decide +kernel) (by decide +kernel)
theorem gw_1184 : Cond.methodLink "WayMayor" 281 yX1_wrongSets ∈ GW := gw 1184 (by decide +kernel) (by decide +kernel)
theorem gw_1185 : Cond.instanceMethod yX1_wrongSets ∈ GW := gw 1185 (by decide +kernel) (by decide +kernel)
theorem gw_1186 : Cond.selects "WayMayor$History" yX1_wrongSets yX1_wrongSets ∈ GW := gw 1186 (by decide +kernel) (by decide +kernel)
theorem gw_1200 : Cond.methodLink "WayMayor" 285 yX1_rulesThatFit ∈ GW := gw 1200 (by decide +kernel) (by decide +kernel)
theorem gw_1201 : Cond.instanceMethod yX1_rulesThatFit ∈ GW := gw 1201 (by decide +kernel) (by decide +kernel)
theorem gw_1202 : Cond.selects "WayMayor$History" yX1_rulesThatFit yX1_rulesThatFit ∈ GW := gw 1202 (by decide +kernel) (by decide +kernel)
theorem gw_1208 : Cond.methodLink "WayMayor" 289 yX1_bestLook ∈ GW := gw 1208 (by decide +kernel) (by decide +kernel)
theorem gw_1209 : Cond.instanceMethod yX1_bestLook ∈ GW := gw 1209 (by decide +kernel) (by decide +kernel)
theorem gw_1210 : Cond.selects "WayMayor$History" yX1_bestLook yX1_bestLook ∈ GW := gw 1210 (by decide +kernel) (by decide +kernel)
theorem gw_1225 : Cond.methodLink "WayMayor" 305 yX7_askedInAll ∈ GW := gw 1225 (by decide +kernel) (by decide +kernel)
theorem gw_1230 : Cond.methodLink "WayMayor" 309 yX6_copyFrom ∈ GW := gw 1230 (by decide +kernel) (by decide +kernel)
theorem gw_1231 : Cond.instanceMethod yX6_copyFrom ∈ GW := gw 1231 (by decide +kernel) (by decide +kernel)
theorem gw_1232 : Cond.selects "WayMayor$Scene" yX6_copyFrom yX6_copyFrom ∈ GW := gw 1232 (by decide +kernel) (by decide +kernel)
theorem gw_942 : Cond.methodLink "WayMayor" 313 yX0_wind ∈ GW := gw 942 (by decide +kernel) (by decide +kernel)
theorem gw_1249 : Cond.methodLink "WayMayorModel" 3 objectInit ∈ GW := gw 1249 (by decide +kernel) (by decide +kernel)
theorem gw_1517 : Cond.methodLink "WayMayorModel" 161 yX13_in ∈ GW := gw 1517 (by decide +kernel) (by decide +kernel)
theorem gw_1518 : Cond.static yX13_in ∈ GW := gw 1518 (by decide +kernel) (by decide +kernel)
theorem gw_1445 : Cond.methodLink "WayMayorModel" 168 yX13_put ∈ GW := gw 1445 (by decide +kernel) (by decide +kernel)
theorem gw_1447 : Cond.instanceMethod yX13_put ∈ GW := gw 1447 (by decide +kernel) (by decide +kernel)
theorem gw_37 : Cond.selects "WayMayorModel" yX13_put yX13_put ∈ GW := gw 37 (by decide +kernel) (by decide +kernel)
theorem gw_1473 : Cond.methodLink "WayMayorModel" 200 yX13_sign ∈ GW := gw 1473 (by decide +kernel) (by decide +kernel)
theorem gw_1475 : Cond.instanceMethod yX13_sign ∈ GW := gw 1475 (by decide +kernel) (by decide +kernel)
theorem gw_42 : Cond.selects "WayMayorModel" yX13_sign yX13_sign ∈ GW := gw 42 (by decide +kernel) (by decide +kernel)
theorem gw_1469 : Cond.methodLink "WayMayorModel" 217 yX13_blanks ∈ GW := gw 1469 (by decide +kernel) (by decide +kernel)
theorem gw_1471 : Cond.instanceMethod yX13_blanks ∈ GW := gw 1471 (by decide +kernel) (by decide +kernel)
theorem gw_41 : Cond.selects "WayMayorModel" yX13_blanks yX13_blanks ∈ GW := gw 41 (by decide +kernel) (by decide +kernel)
theorem gw_1484 : Cond.methodLink "WayMayorModel" 220 yX13_stood ∈ GW := gw 1484 (by decide +kernel) (by decide +kernel)
theorem gw_1486 : Cond.instanceMethod yX13_stood ∈ GW := gw 1486 (by decide +kernel) (by decide +kernel)
theorem gw_43 : Cond.selects "WayMayorModel" yX13_stood yX13_stood ∈ GW := gw 43 (by decide +kernel) (by decide +kernel)
theorem gw_1490 : Cond.methodLink "WayMayorModel" 233 yX13_fails ∈ GW := gw 1490 (by decide +kernel) (by decide +kernel)
theorem gw_1492 : Cond.instanceMethod yX13_fails ∈ GW := gw 1492 (by decide +kernel) (by decide +kernel)
theorem gw_44 : Cond.selects "WayMayorModel" yX13_fails yX13_fails ∈ GW := gw 44 (by decide +kernel) (by decide +kernel)
theorem gw_1511 : Cond.methodLink "WayMayorModel" 237 yX13_isDigit ∈ GW := gw 1511 (by decide +kernel) (by decide +kernel)
theorem gw_1513 : Cond.instanceMethod yX13_isDigit ∈ GW := gw 1513 (by decide +kernel) (by decide +kernel)
theorem gw_49 : Cond.selects "WayMayorModel" yX13_isDigit yX13_isDigit ∈ GW := gw 49 (by decide +kernel) (by decide +kernel)
theorem gw_1507 : Cond.methodLink "WayMayorModel" 242 yX13_digits ∈ GW := gw 1507 (by decide +kernel) (by decide +kernel)
theorem gw_1509 : Cond.instanceMethod yX13_digits ∈ GW := gw 1509 (by decide +kernel) (by decide +kernel)
theorem gw_48 : Cond.selects "WayMayorModel" yX13_digits yX13_digits ∈ GW := gw 48 (by decide +kernel) (by decide +kernel)
theorem gw_1556 : Cond.methodLink "WayMayorModel" 246 yX13_isCounted ∈ GW := gw 1556 (by decide +kernel) (by decide +kernel)
theorem gw_1558 : Cond.instanceMethod yX13_isCounted ∈ GW := gw 1558 (by decide +kernel) (by decide +kernel)
theorem gw_57 : Cond.selects "WayMayorModel" yX13_isCounted yX13_isCounted ∈ GW := gw 57 (by decide +kernel) (by decide +kernel)
theorem gw_1560 : Cond.methodLink "WayMayorModel" 249 yX13_entry ∈ GW := gw 1560 (by decide +kernel) (by decide +kernel)
theorem gw_1562 : Cond.instanceMethod yX13_entry ∈ GW := gw 1562 (by decide +kernel) (by decide +kernel)
theorem gw_58 : Cond.selects "WayMayorModel" yX13_entry yX13_entry ∈ GW := gw 58 (by decide +kernel) (by decide +kernel)
theorem gw_1564 : Cond.methodLink "WayMayorModel" 252 yX13_wordOf ∈ GW := gw 1564 (by decide +kernel) (by decide +kernel)
theorem gw_1565 : Cond.static yX13_wordOf ∈ GW := gw 1565 (by decide +kernel) (by decide +kernel)
theorem gw_1552 : Cond.methodLink "WayMayorModel" 256 yX13_value ∈ GW := gw 1552 (by decide +kernel) (by decide +kernel)
theorem gw_1554 : Cond.instanceMethod yX13_value ∈ GW := gw 1554 (by decide +kernel) (by decide +kernel)
theorem gw_56 : Cond.selects "WayMayorModel" yX13_value yX13_value ∈ GW := gw 56 (by decide +kernel) (by decide +kernel)
theorem gw_1548 : Cond.methodLink "WayMayorModel" 259 yX13_term ∈ GW := gw 1548 (by decide +kernel) (by decide +kernel)
theorem gw_1550 : Cond.instanceMethod yX13_term ∈ GW := gw 1550 (by decide +kernel) (by decide +kernel)
theorem gw_55 : Cond.selects "WayMayorModel" yX13_term yX13_term ∈ GW := gw 55 (by decide +kernel) (by decide +kernel)
theorem gw_1544 : Cond.methodLink "WayMayorModel" 261 yX13_sum ∈ GW := gw 1544 (by decide +kernel) (by decide +kernel)
theorem gw_1546 : Cond.instanceMethod yX13_sum ∈ GW := gw 1546 (by decide +kernel) (by decide +kernel)
theorem gw_54 : Cond.selects "WayMayorModel" yX13_sum yX13_sum ∈ GW := gw 54 (by decide +kernel) (by decide +kernel)
theorem gw_1603 : Cond.methodLink "WayMayorModel" 270 yX13_top ∈ GW := gw 1603 (by decide +kernel) (by decide +kernel)
theorem gw_1605 : Cond.instanceMethod yX13_top ∈ GW := gw 1605 (by decide +kernel) (by decide +kernel)
theorem gw_65 : Cond.selects "WayMayorModel" yX13_top yX13_top ∈ GW := gw 65 (by decide +kernel) (by decide +kernel)
theorem gw_1591 : Cond.methodLink "WayMayorModel" 275 yX13_opens ∈ GW := gw 1591 (by decide +kernel) (by decide +kernel)
theorem gw_1593 : Cond.instanceMethod yX13_opens ∈ GW := gw 1593 (by decide +kernel) (by decide +kernel)
theorem gw_62 : Cond.selects "WayMayorModel" yX13_opens yX13_opens ∈ GW := gw 62 (by decide +kernel) (by decide +kernel)
theorem gw_1595 : Cond.methodLink "WayMayorModel" 278 yX13_compared ∈ GW := gw 1595 (by decide +kernel) (by decide +kernel)
theorem gw_1597 : Cond.instanceMethod yX13_compared ∈ GW := gw 1597 (by decide +kernel) (by decide +kernel)
theorem gw_63 : Cond.selects "WayMayorModel" yX13_compared yX13_compared ∈ GW := gw 63 (by decide +kernel) (by decide +kernel)
theorem gw_1586 : Cond.methodLink "WayMayorModel" 281 yX13_fact ∈ GW := gw 1586 (by decide +kernel) (by decide +kernel)
theorem gw_1588 : Cond.instanceMethod yX13_fact ∈ GW := gw 1588 (by decide +kernel) (by decide +kernel)
theorem gw_61 : Cond.selects "WayMayorModel" yX13_fact yX13_fact ∈ GW := gw 61 (by decide +kernel) (by decide +kernel)
theorem gw_1599 : Cond.methodLink "WayMayorModel" 284 yX13_answers ∈ GW := gw 1599 (by decide +kernel) (by decide +kernel)
theorem gw_1601 : Cond.instanceMethod yX13_answers ∈ GW := gw 1601 (by decide +kernel) (by decide +kernel)
theorem gw_64 : Cond.selects "WayMayorModel" yX13_answers yX13_answers ∈ GW := gw 64 (by decide +kernel) (by decide +kernel)
theorem gw_1502 : Cond.methodLink "WayMayorModel" 291 yX13_amount ∈ GW := gw 1502 (by decide +kernel) (by decide +kernel)
theorem gw_1504 : Cond.instanceMethod yX13_amount ∈ GW := gw 1504 (by decide +kernel) (by decide +kernel)
theorem gw_47 : Cond.selects "WayMayorModel" yX13_amount yX13_amount ∈ GW := gw 47 (by decide +kernel) (by decide +kernel)
theorem gw_1520 : Cond.methodLink "WayMayorModel" 299 yX13_unlikePlace ∈ GW := gw 1520 (by decide +kernel) (by decide +kernel)
theorem gw_1522 : Cond.instanceMethod yX13_unlikePlace ∈ GW := gw 1522 (by decide +kernel) (by decide +kernel)
theorem gw_50 : Cond.selects "WayMayorModel" yX13_unlikePlace yX13_unlikePlace ∈ GW := gw 50 (by decide +kernel) (by decide +kernel)
theorem gw_1477 : Cond.methodLink "WayMayorModel" 302 yX13_townWord ∈ GW := gw 1477 (by decide +kernel) (by decide +kernel)
theorem gw_1478 : Cond.static yX13_townWord ∈ GW := gw 1478 (by decide +kernel) (by decide +kernel)
theorem gw_1494 : Cond.methodLink "WayMayorModel" 305 yX13_isFull ∈ GW := gw 1494 (by decide +kernel) (by decide +kernel)
theorem gw_1496 : Cond.instanceMethod yX13_isFull ∈ GW := gw 1496 (by decide +kernel) (by decide +kernel)
theorem gw_45 : Cond.selects "WayMayorModel" yX13_isFull yX13_isFull ∈ GW := gw 45 (by decide +kernel) (by decide +kernel)
theorem gw_1498 : Cond.methodLink "WayMayorModel" 309 yX13_townPart ∈ GW := gw 1498 (by decide +kernel) (by decide +kernel)
theorem gw_1500 : Cond.instanceMethod yX13_townPart ∈ GW := gw 1500 (by decide +kernel) (by decide +kernel)
theorem gw_46 : Cond.selects "WayMayorModel" yX13_townPart yX13_townPart ∈ GW := gw 46 (by decide +kernel) (by decide +kernel)
theorem gw_1461 : Cond.methodLink "WayMayorModel" 312 yX13_starts ∈ GW := gw 1461 (by decide +kernel) (by decide +kernel)
theorem gw_1463 : Cond.instanceMethod yX13_starts ∈ GW := gw 1463 (by decide +kernel) (by decide +kernel)
theorem gw_39 : Cond.selects "WayMayorModel" yX13_starts yX13_starts ∈ GW := gw 39 (by decide +kernel) (by decide +kernel)
theorem gw_1465 : Cond.methodLink "WayMayorModel" 315 yX13_townClause ∈ GW := gw 1465 (by decide +kernel) (by decide +kernel)
theorem gw_1467 : Cond.instanceMethod yX13_townClause ∈ GW := gw 1467 (by decide +kernel) (by decide +kernel)
theorem gw_40 : Cond.selects "WayMayorModel" yX13_townClause yX13_townClause ∈ GW := gw 40 (by decide +kernel) (by decide +kernel)
theorem gw_1524 : Cond.methodLink "WayMayorModel" 318 yX13_goesOn ∈ GW := gw 1524 (by decide +kernel) (by decide +kernel)
theorem gw_1526 : Cond.instanceMethod yX13_goesOn ∈ GW := gw 1526 (by decide +kernel) (by decide +kernel)
theorem gw_51 : Cond.selects "WayMayorModel" yX13_goesOn yX13_goesOn ∈ GW := gw 51 (by decide +kernel) (by decide +kernel)
theorem gw_1528 : Cond.methodLink "WayMayorModel" 321 yX13_copies ∈ GW := gw 1528 (by decide +kernel) (by decide +kernel)
theorem gw_1529 : Cond.static yX13_copies ∈ GW := gw 1529 (by decide +kernel) (by decide +kernel)
theorem gw_1457 : Cond.methodLink "WayMayorModel" 325 yX13_readsAll ∈ GW := gw 1457 (by decide +kernel) (by decide +kernel)
theorem gw_1459 : Cond.instanceMethod yX13_readsAll ∈ GW := gw 1459 (by decide +kernel) (by decide +kernel)
theorem gw_38 : Cond.selects "WayMayorModel" yX13_readsAll yX13_readsAll ∈ GW := gw 38 (by decide +kernel) (by decide +kernel)
theorem gw_1531 : Cond.methodLink "WayMayorModel" 328 yX13_begins ∈ GW := gw 1531 (by decide +kernel) (by decide +kernel)
theorem gw_1533 : Cond.instanceMethod yX13_begins ∈ GW := gw 1533 (by decide +kernel) (by decide +kernel)
theorem gw_52 : Cond.selects "WayMayorModel" yX13_begins yX13_begins ∈ GW := gw 52 (by decide +kernel) (by decide +kernel)
theorem gw_1578 : Cond.methodLink "WayMayorModel" 338 yX13_takes ∈ GW := gw 1578 (by decide +kernel) (by decide +kernel)
theorem gw_1580 : Cond.instanceMethod yX13_takes ∈ GW := gw 1580 (by decide +kernel) (by decide +kernel)
theorem gw_59 : Cond.selects "WayMayorModel" yX13_takes yX13_takes ∈ GW := gw 59 (by decide +kernel) (by decide +kernel)
theorem gw_1582 : Cond.methodLink "WayMayorModel" 341 yX13_test ∈ GW := gw 1582 (by decide +kernel) (by decide +kernel)
theorem gw_1584 : Cond.instanceMethod yX13_test ∈ GW := gw 1584 (by decide +kernel) (by decide +kernel)
theorem gw_60 : Cond.selects "WayMayorModel" yX13_test yX13_test ∈ GW := gw 60 (by decide +kernel) (by decide +kernel)
theorem gw_1539 : Cond.methodLink "WayMayorModel" 347 yX13_ruleClause ∈ GW := gw 1539 (by decide +kernel) (by decide +kernel)
theorem gw_1541 : Cond.instanceMethod yX13_ruleClause ∈ GW := gw 1541 (by decide +kernel) (by decide +kernel)
theorem gw_53 : Cond.selects "WayMayorModel" yX13_ruleClause yX13_ruleClause ∈ GW := gw 53 (by decide +kernel) (by decide +kernel)
theorem gw_1701 : Cond.methodLink "WayMayorModel" 352 yX13_answer ∈ GW := gw 1701 (by decide +kernel) (by decide +kernel)
theorem gw_1703 : Cond.instanceMethod yX13_answer ∈ GW := gw 1703 (by decide +kernel) (by decide +kernel)
theorem gw_81 : Cond.selects "WayMayorModel" yX13_answer yX13_answer ∈ GW := gw 81 (by decide +kernel) (by decide +kernel)
theorem gw_1708 : Cond.methodLink "WayMayorModel" 356 yX13_truth ∈ GW := gw 1708 (by decide +kernel) (by decide +kernel)
theorem gw_1709 : Cond.static yX13_truth ∈ GW := gw 1709 (by decide +kernel) (by decide +kernel)
theorem gw_1705 : Cond.methodLink "WayMayorModel" 360 yX13_both ∈ GW := gw 1705 (by decide +kernel) (by decide +kernel)
theorem gw_1706 : Cond.static yX13_both ∈ GW := gw 1706 (by decide +kernel) (by decide +kernel)
theorem gw_1618 : Cond.methodLink "WayMayorModel" 364 yX13_isPerson ∈ GW := gw 1618 (by decide +kernel) (by decide +kernel)
theorem gw_1620 : Cond.instanceMethod yX13_isPerson ∈ GW := gw 1620 (by decide +kernel) (by decide +kernel)
theorem gw_66 : Cond.selects "WayMayorModel" yX13_isPerson yX13_isPerson ∈ GW := gw 66 (by decide +kernel) (by decide +kernel)
theorem gw_1626 : Cond.methodLink "WayMayorModel" 368 yX13_isStranger ∈ GW := gw 1626 (by decide +kernel) (by decide +kernel)
theorem gw_1628 : Cond.instanceMethod yX13_isStranger ∈ GW := gw 1628 (by decide +kernel) (by decide +kernel)
theorem gw_67 : Cond.selects "WayMayorModel" yX13_isStranger yX13_isStranger ∈ GW := gw 67 (by decide +kernel) (by decide +kernel)
theorem gw_1634 : Cond.methodLink "WayMayorModel" 371 yX13_isPlace ∈ GW := gw 1634 (by decide +kernel) (by decide +kernel)
theorem gw_1636 : Cond.instanceMethod yX13_isPlace ∈ GW := gw 1636 (by decide +kernel) (by decide +kernel)
theorem gw_68 : Cond.selects "WayMayorModel" yX13_isPlace yX13_isPlace ∈ GW := gw 68 (by decide +kernel) (by decide +kernel)
theorem gw_1694 : Cond.methodLink "WayMayorModel" 374 yX13_has ∈ GW := gw 1694 (by decide +kernel) (by decide +kernel)
theorem gw_1695 : Cond.static yX13_has ∈ GW := gw 1695 (by decide +kernel) (by decide +kernel)
theorem gw_1690 : Cond.methodLink "WayMayorModel" 377 yX13_farFrom ∈ GW := gw 1690 (by decide +kernel) (by decide +kernel)
theorem gw_1692 : Cond.instanceMethod yX13_farFrom ∈ GW := gw 1692 (by decide +kernel) (by decide +kernel)
theorem gw_79 : Cond.selects "WayMayorModel" yX13_farFrom yX13_farFrom ∈ GW := gw 79 (by decide +kernel) (by decide +kernel)
theorem gw_1686 : Cond.methodLink "WayMayorModel" 380 yX13_howManyAt ∈ GW := gw 1686 (by decide +kernel) (by decide +kernel)
theorem gw_1688 : Cond.instanceMethod yX13_howManyAt ∈ GW := gw 1688 (by decide +kernel) (by decide +kernel)
theorem gw_78 : Cond.selects "WayMayorModel" yX13_howManyAt yX13_howManyAt ∈ GW := gw 78 (by decide +kernel) (by decide +kernel)
theorem gw_1697 : Cond.methodLink "WayMayorModel" 383 yX13_wanted ∈ GW := gw 1697 (by decide +kernel) (by decide +kernel)
theorem gw_1699 : Cond.instanceMethod yX13_wanted ∈ GW := gw 1699 (by decide +kernel) (by decide +kernel)
theorem gw_80 : Cond.selects "WayMayorModel" yX13_wanted yX13_wanted ∈ GW := gw 80 (by decide +kernel) (by decide +kernel)
theorem gw_1682 : Cond.methodLink "WayMayorModel" 387 yX13_likes ∈ GW := gw 1682 (by decide +kernel) (by decide +kernel)
theorem gw_1684 : Cond.instanceMethod yX13_likes ∈ GW := gw 1684 (by decide +kernel) (by decide +kernel)
theorem gw_77 : Cond.selects "WayMayorModel" yX13_likes yX13_likes ∈ GW := gw 77 (by decide +kernel) (by decide +kernel)
theorem gw_1678 : Cond.methodLink "WayMayorModel" 391 yX13_whom ∈ GW := gw 1678 (by decide +kernel) (by decide +kernel)
theorem gw_1680 : Cond.instanceMethod yX13_whom ∈ GW := gw 1680 (by decide +kernel) (by decide +kernel)
theorem gw_76 : Cond.selects "WayMayorModel" yX13_whom yX13_whom ∈ GW := gw 76 (by decide +kernel) (by decide +kernel)
theorem gw_1711 : Cond.methodLink "WayMayorModel" 394 yX13_leastBy ∈ GW := gw 1711 (by decide +kernel) (by decide +kernel)
theorem gw_1713 : Cond.instanceMethod yX13_leastBy ∈ GW := gw 1713 (by decide +kernel) (by decide +kernel)
theorem gw_82 : Cond.selects "WayMayorModel" yX13_leastBy yX13_leastBy ∈ GW := gw 82 (by decide +kernel) (by decide +kernel)
theorem gw_1715 : Cond.methodLink "WayMayorModel" 397 yX13_greatestBy ∈ GW := gw 1715 (by decide +kernel) (by decide +kernel)
theorem gw_1717 : Cond.instanceMethod yX13_greatestBy ∈ GW := gw 1717 (by decide +kernel) (by decide +kernel)
theorem gw_83 : Cond.selects "WayMayorModel" yX13_greatestBy yX13_greatestBy ∈ GW := gw 83 (by decide +kernel) (by decide +kernel)
theorem gw_1719 : Cond.methodLink "WayMayorModel" 400 yX13_firstOn ∈ GW := gw 1719 (by decide +kernel) (by decide +kernel)
theorem gw_1721 : Cond.instanceMethod yX13_firstOn ∈ GW := gw 1721 (by decide +kernel) (by decide +kernel)
theorem gw_84 : Cond.selects "WayMayorModel" yX13_firstOn yX13_firstOn ∈ GW := gw 84 (by decide +kernel) (by decide +kernel)
theorem gw_1674 : Cond.methodLink "WayMayorModel" 403 yX13_walks ∈ GW := gw 1674 (by decide +kernel) (by decide +kernel)
theorem gw_1676 : Cond.instanceMethod yX13_walks ∈ GW := gw 1676 (by decide +kernel) (by decide +kernel)
theorem gw_75 : Cond.selects "WayMayorModel" yX13_walks yX13_walks ∈ GW := gw 75 (by decide +kernel) (by decide +kernel)
theorem gw_1723 : Cond.methodLink "WayMayorModel" 406 yX13_endsTerm ∈ GW := gw 1723 (by decide +kernel) (by decide +kernel)
theorem gw_1725 : Cond.instanceMethod yX13_endsTerm ∈ GW := gw 1725 (by decide +kernel) (by decide +kernel)
theorem gw_85 : Cond.selects "WayMayorModel" yX13_endsTerm yX13_endsTerm ∈ GW := gw 85 (by decide +kernel) (by decide +kernel)
theorem gw_1670 : Cond.methodLink "WayMayorModel" 409 yX13_goes ∈ GW := gw 1670 (by decide +kernel) (by decide +kernel)
theorem gw_1672 : Cond.instanceMethod yX13_goes ∈ GW := gw 1672 (by decide +kernel) (by decide +kernel)
theorem gw_74 : Cond.selects "WayMayorModel" yX13_goes yX13_goes ∈ GW := gw 74 (by decide +kernel) (by decide +kernel)
theorem gw_1650 : Cond.methodLink "WayMayorModel" 419 yX13_moves ∈ GW := gw 1650 (by decide +kernel) (by decide +kernel)
theorem gw_1652 : Cond.instanceMethod yX13_moves ∈ GW := gw 1652 (by decide +kernel) (by decide +kernel)
theorem gw_70 : Cond.selects "WayMayorModel" yX13_moves yX13_moves ∈ GW := gw 70 (by decide +kernel) (by decide +kernel)
theorem gw_1654 : Cond.methodLink "WayMayorModel" 422 yX13_movesRow ∈ GW := gw 1654 (by decide +kernel) (by decide +kernel)
theorem gw_1656 : Cond.instanceMethod yX13_movesRow ∈ GW := gw 1656 (by decide +kernel) (by decide +kernel)
theorem gw_71 : Cond.selects "WayMayorModel" yX13_movesRow yX13_movesRow ∈ GW := gw 71 (by decide +kernel) (by decide +kernel)
theorem gw_1646 : Cond.methodLink "WayMayorModel" 426 yX13_movesAll ∈ GW := gw 1646 (by decide +kernel) (by decide +kernel)
theorem gw_1648 : Cond.instanceMethod yX13_movesAll ∈ GW := gw 1648 (by decide +kernel) (by decide +kernel)
theorem gw_69 : Cond.selects "WayMayorModel" yX13_movesAll yX13_movesAll ∈ GW := gw 69 (by decide +kernel) (by decide +kernel)
theorem gw_1662 : Cond.methodLink "WayMayorModel" 430 yX13_isTown ∈ GW := gw 1662 (by decide +kernel) (by decide +kernel)
theorem gw_1664 : Cond.instanceMethod yX13_isTown ∈ GW := gw 1664 (by decide +kernel) (by decide +kernel)
theorem gw_72 : Cond.selects "WayMayorModel" yX13_isTown yX13_isTown ∈ GW := gw 72 (by decide +kernel) (by decide +kernel)
theorem gw_1666 : Cond.methodLink "WayMayorModel" 433 yX13_keepsAct ∈ GW := gw 1666 (by decide +kernel) (by decide +kernel)
theorem gw_1668 : Cond.instanceMethod yX13_keepsAct ∈ GW := gw 1668 (by decide +kernel) (by decide +kernel)
theorem gw_73 : Cond.selects "WayMayorModel" yX13_keepsAct yX13_keepsAct ∈ GW := gw 73 (by decide +kernel) (by decide +kernel)
theorem gw_1740 : Cond.methodLink "WayMayorModel" 438 yX13_shuts ∈ GW := gw 1740 (by decide +kernel) (by decide +kernel)
theorem gw_1742 : Cond.instanceMethod yX13_shuts ∈ GW := gw 1742 (by decide +kernel) (by decide +kernel)
theorem gw_86 : Cond.selects "WayMayorModel" yX13_shuts yX13_shuts ∈ GW := gw 86 (by decide +kernel) (by decide +kernel)
theorem gw_1759 : Cond.methodLink "WayMayorModel" 441 yX13_carriesAll ∈ GW := gw 1759 (by decide +kernel) (by decide +kernel)
theorem gw_1761 : Cond.instanceMethod yX13_carriesAll ∈ GW := gw 1761 (by decide +kernel) (by decide +kernel)
theorem gw_88 : Cond.selects "WayMayorModel" yX13_carriesAll yX13_carriesAll ∈ GW := gw 88 (by decide +kernel) (by decide +kernel)
theorem gw_1755 : Cond.methodLink "WayMayorModel" 450 yX13_keepsAll ∈ GW := gw 1755 (by decide +kernel) (by decide +kernel)
theorem gw_1757 : Cond.instanceMethod yX13_keepsAll ∈ GW := gw 1757 (by decide +kernel) (by decide +kernel)
theorem gw_87 : Cond.selects "WayMayorModel" yX13_keepsAll yX13_keepsAll ∈ GW := gw 87 (by decide +kernel) (by decide +kernel)
theorem gw_1767 : Cond.methodLink "WayMayorModel" 453 yX13_goFor ∈ GW := gw 1767 (by decide +kernel) (by decide +kernel)
theorem gw_1769 : Cond.instanceMethod yX13_goFor ∈ GW := gw 1769 (by decide +kernel) (by decide +kernel)
theorem gw_90 : Cond.selects "WayMayorModel" yX13_goFor yX13_goFor ∈ GW := gw 90 (by decide +kernel) (by decide +kernel)
theorem gw_1771 : Cond.methodLink "WayMayorModel" 456 yX13_laysBack ∈ GW := gw 1771 (by decide +kernel) (by decide +kernel)
theorem gw_1773 : Cond.instanceMethod yX13_laysBack ∈ GW := gw 1773 (by decide +kernel) (by decide +kernel)
theorem gw_91 : Cond.selects "WayMayorModel" yX13_laysBack yX13_laysBack ∈ GW := gw 91 (by decide +kernel) (by decide +kernel)
theorem gw_1784 : Cond.methodLink "WayMayorModel" 461 yX13_askedIn ∈ GW := gw 1784 (by decide +kernel) (by decide +kernel)
theorem gw_1786 : Cond.instanceMethod yX13_askedIn ∈ GW := gw 1786 (by decide +kernel) (by decide +kernel)
theorem gw_92 : Cond.selects "WayMayorModel" yX13_askedIn yX13_askedIn ∈ GW := gw 92 (by decide +kernel) (by decide +kernel)
theorem gw_1805 : Cond.methodLink "WayMayorModel" 466 yX13_comeIn ∈ GW := gw 1805 (by decide +kernel) (by decide +kernel)
theorem gw_1807 : Cond.instanceMethod yX13_comeIn ∈ GW := gw 1807 (by decide +kernel) (by decide +kernel)
theorem gw_93 : Cond.selects "WayMayorModel" yX13_comeIn yX13_comeIn ∈ GW := gw 93 (by decide +kernel) (by decide +kernel)
theorem gw_1813 : Cond.methodLink "WayMayorModel" 470 yX13_playOf ∈ GW := gw 1813 (by decide +kernel) (by decide +kernel)
theorem gw_1815 : Cond.instanceMethod yX13_playOf ∈ GW := gw 1815 (by decide +kernel) (by decide +kernel)
theorem gw_94 : Cond.selects "WayMayorModel" yX13_playOf yX13_playOf ∈ GW := gw 94 (by decide +kernel) (by decide +kernel)
theorem gw_1818 : Cond.methodLink "WayMayorModel" 474 yX13_bestAt ∈ GW := gw 1818 (by decide +kernel) (by decide +kernel)
theorem gw_1820 : Cond.instanceMethod yX13_bestAt ∈ GW := gw 1820 (by decide +kernel) (by decide +kernel)
theorem gw_95 : Cond.selects "WayMayorModel" yX13_bestAt yX13_bestAt ∈ GW := gw 95 (by decide +kernel) (by decide +kernel)
theorem gw_1827 : Cond.methodLink "WayMayorModel" 480 yX13_laysPlaces ∈ GW := gw 1827 (by decide +kernel) (by decide +kernel)
theorem gw_1829 : Cond.instanceMethod yX13_laysPlaces ∈ GW := gw 1829 (by decide +kernel) (by decide +kernel)
theorem gw_96 : Cond.selects "WayMayorModel" yX13_laysPlaces yX13_laysPlaces ∈ GW := gw 96 (by decide +kernel) (by decide +kernel)
theorem gw_1831 : Cond.methodLink "WayMayorModel" 484 yX13_isRest ∈ GW := gw 1831 (by decide +kernel) (by decide +kernel)
theorem gw_1833 : Cond.instanceMethod yX13_isRest ∈ GW := gw 1833 (by decide +kernel) (by decide +kernel)
theorem gw_97 : Cond.selects "WayMayorModel" yX13_isRest yX13_isRest ∈ GW := gw 97 (by decide +kernel) (by decide +kernel)
theorem gw_1840 : Cond.methodLink "WayMayorModel" 489 yX13_allAsked ∈ GW := gw 1840 (by decide +kernel) (by decide +kernel)
theorem gw_1842 : Cond.instanceMethod yX13_allAsked ∈ GW := gw 1842 (by decide +kernel) (by decide +kernel)
theorem gw_98 : Cond.selects "WayMayorModel" yX13_allAsked yX13_allAsked ∈ GW := gw 98 (by decide +kernel) (by decide +kernel)
theorem gw_1856 : Cond.methodLink "WayMayorModel" 492 yX13_doNotesFit ∈ GW := gw 1856 (by decide +kernel) (by decide +kernel)
theorem gw_1858 : Cond.instanceMethod yX13_doNotesFit ∈ GW := gw 1858 (by decide +kernel) (by decide +kernel)
theorem gw_100 : Cond.selects "WayMayorModel" yX13_doNotesFit yX13_doNotesFit ∈ GW := gw 100 (by decide +kernel) (by decide +kernel)
theorem gw_1852 : Cond.methodLink "WayMayorModel" 495 yX13_couldRule ∈ GW := gw 1852 (by decide +kernel) (by decide +kernel)
theorem gw_1854 : Cond.instanceMethod yX13_couldRule ∈ GW := gw 1854 (by decide +kernel) (by decide +kernel)
theorem gw_99 : Cond.selects "WayMayorModel" yX13_couldRule yX13_couldRule ∈ GW := gw 99 (by decide +kernel) (by decide +kernel)
theorem gw_1868 : Cond.methodLink "WayMayorModel" 498 yX13_mostAlike ∈ GW := gw 1868 (by decide +kernel) (by decide +kernel)
theorem gw_1870 : Cond.instanceMethod yX13_mostAlike ∈ GW := gw 1870 (by decide +kernel) (by decide +kernel)
theorem gw_101 : Cond.selects "WayMayorModel" yX13_mostAlike yX13_mostAlike ∈ GW := gw 101 (by decide +kernel) (by decide +kernel)
theorem gw_1881 : Cond.methodLink "WayMayorModel" 510 yX13_draws ∈ GW := gw 1881 (by decide +kernel) (by decide +kernel)
theorem gw_1883 : Cond.instanceMethod yX13_draws ∈ GW := gw 1883 (by decide +kernel) (by decide +kernel)
theorem gw_102 : Cond.selects "WayMayorModel" yX13_draws yX13_draws ∈ GW := gw 102 (by decide +kernel) (by decide +kernel)
theorem gw_1763 : Cond.methodLink "WayMayorModel" 519 yX13_carryRow ∈ GW := gw 1763 (by decide +kernel) (by decide +kernel)
theorem gw_1765 : Cond.instanceMethod yX13_carryRow ∈ GW := gw 1765 (by decide +kernel) (by decide +kernel)
theorem gw_89 : Cond.selects "WayMayorModel" yX13_carryRow yX13_carryRow ∈ GW := gw 89 (by decide +kernel) (by decide +kernel)
theorem gw_128 : Cond.methodLink "WayMayorLaw" 9 yX12_init ∈ GW := gw 128 (by decide +kernel) (by decide +kernel)
theorem gw_129 : Cond.instanceMethod yX12_init ∈ GW := gw 129 (by decide +kernel) (by decide +kernel)
theorem gw_1246 : Cond.methodLink "WayMayorLaw" 12 yX13_init ∈ GW := gw 1246 (by decide +kernel) (by decide +kernel)
theorem gw_1247 : Cond.instanceMethod yX13_init ∈ GW := gw 1247 (by decide +kernel) (by decide +kernel)
theorem gw_588 : Cond.methodLink "WayMayorLaw" 13 yX12_feed ∈ GW := gw 588 (by decide +kernel) (by decide +kernel)
theorem gw_589 : Cond.instanceMethod yX12_feed ∈ GW := gw 589 (by decide +kernel) (by decide +kernel)
theorem gw_590 : Cond.selects "WayMayor" yX12_feed yX12_feed ∈ GW := gw 590 (by decide +kernel) (by decide +kernel)
theorem gw_1441 : Cond.methodLink "WayMayorLaw" 17 yX13_feed ∈ GW := gw 1441 (by decide +kernel) (by decide +kernel)
theorem gw_1442 : Cond.instanceMethod yX13_feed ∈ GW := gw 1442 (by decide +kernel) (by decide +kernel)
theorem gw_1443 : Cond.selects "WayMayorModel" yX13_feed yX13_feed ∈ GW := gw 1443 (by decide +kernel) (by decide +kernel)
theorem gw_596 : Cond.methodLink "WayMayorLaw" 18 yX12_end ∈ GW := gw 596 (by decide +kernel) (by decide +kernel)
theorem gw_597 : Cond.instanceMethod yX12_end ∈ GW := gw 597 (by decide +kernel) (by decide +kernel)
theorem gw_598 : Cond.selects "WayMayor" yX12_end yX12_end ∈ GW := gw 598 (by decide +kernel) (by decide +kernel)
theorem gw_1449 : Cond.methodLink "WayMayorLaw" 22 yX13_end ∈ GW := gw 1449 (by decide +kernel) (by decide +kernel)
theorem gw_1450 : Cond.instanceMethod yX13_end ∈ GW := gw 1450 (by decide +kernel) (by decide +kernel)
theorem gw_1451 : Cond.selects "WayMayorModel" yX13_end yX13_end ∈ GW := gw 1451 (by decide +kernel) (by decide +kernel)
theorem gw_600 : Cond.methodLink "WayMayorLaw" 23 yX12_town ∈ GW := gw 600 (by decide +kernel) (by decide +kernel)
theorem gw_601 : Cond.instanceMethod yX12_town ∈ GW := gw 601 (by decide +kernel) (by decide +kernel)
theorem gw_602 : Cond.selects "WayMayor" yX12_town yX12_town ∈ GW := gw 602 (by decide +kernel) (by decide +kernel)
theorem gw_1453 : Cond.methodLink "WayMayorLaw" 27 yX13_town ∈ GW := gw 1453 (by decide +kernel) (by decide +kernel)
theorem gw_1454 : Cond.instanceMethod yX13_town ∈ GW := gw 1454 (by decide +kernel) (by decide +kernel)
theorem gw_1455 : Cond.selects "WayMayorModel" yX13_town yX13_town ∈ GW := gw 1455 (by decide +kernel) (by decide +kernel)
theorem gw_804 : Cond.methodLink "WayMayorLaw" 28 yX12_rule ∈ GW := gw 804 (by decide +kernel) (by decide +kernel)
theorem gw_805 : Cond.instanceMethod yX12_rule ∈ GW := gw 805 (by decide +kernel) (by decide +kernel)
theorem gw_806 : Cond.selects "WayMayor" yX12_rule yX12_rule ∈ GW := gw 806 (by decide +kernel) (by decide +kernel)
theorem gw_1535 : Cond.methodLink "WayMayorLaw" 31 yX13_rule ∈ GW := gw 1535 (by decide +kernel) (by decide +kernel)
theorem gw_1536 : Cond.instanceMethod yX13_rule ∈ GW := gw 1536 (by decide +kernel) (by decide +kernel)
theorem gw_1537 : Cond.selects "WayMayorModel" yX13_rule yX13_rule ∈ GW := gw 1537 (by decide +kernel) (by decide +kernel)
theorem gw_884 : Cond.methodLink "WayMayorLaw" 32 yX12_force ∈ GW := gw 884 (by decide +kernel) (by decide +kernel)
theorem gw_885 : Cond.instanceMethod yX12_force ∈ GW := gw 885 (by decide +kernel) (by decide +kernel)
theorem gw_886 : Cond.selects "WayMayor" yX12_force yX12_force ∈ GW := gw 886 (by decide +kernel) (by decide +kernel)
theorem gw_1609 : Cond.methodLink "WayMayorLaw" 35 yX13_force ∈ GW := gw 1609 (by decide +kernel) (by decide +kernel)
theorem gw_1610 : Cond.instanceMethod yX13_force ∈ GW := gw 1610 (by decide +kernel) (by decide +kernel)
theorem gw_1611 : Cond.selects "WayMayorModel" yX13_force yX13_force ∈ GW := gw 1611 (by decide +kernel) (by decide +kernel)
theorem gw_888 : Cond.methodLink "WayMayorLaw" 36 yX12_person ∈ GW := gw 888 (by decide +kernel) (by decide +kernel)
theorem gw_889 : Cond.instanceMethod yX12_person ∈ GW := gw 889 (by decide +kernel) (by decide +kernel)
theorem gw_890 : Cond.selects "WayMayor" yX12_person yX12_person ∈ GW := gw 890 (by decide +kernel) (by decide +kernel)
theorem gw_1614 : Cond.methodLink "WayMayorLaw" 40 yX13_person ∈ GW := gw 1614 (by decide +kernel) (by decide +kernel)
theorem gw_1615 : Cond.instanceMethod yX13_person ∈ GW := gw 1615 (by decide +kernel) (by decide +kernel)
theorem gw_1616 : Cond.selects "WayMayorModel" yX13_person yX13_person ∈ GW := gw 1616 (by decide +kernel) (by decide +kernel)
theorem gw_896 : Cond.methodLink "WayMayorLaw" 41 yX12_stranger ∈ GW := gw 896 (by decide +kernel) (by decide +kernel)
theorem gw_897 : Cond.instanceMethod yX12_stranger ∈ GW := gw 897 (by decide +kernel) (by decide +kernel)
theorem gw_898 : Cond.selects "WayMayor" yX12_stranger yX12_stranger ∈ GW := gw 898 (by decide +kernel) (by decide +kernel)
theorem gw_1622 : Cond.methodLink "WayMayorLaw" 44 yX13_stranger ∈ GW := gw 1622 (by decide +kernel) (by decide +kernel)
theorem gw_1623 : Cond.instanceMethod yX13_stranger ∈ GW := gw 1623 (by decide +kernel) (by decide +kernel)
theorem gw_1624 : Cond.selects "WayMayorModel" yX13_stranger yX13_stranger ∈ GW := gw 1624 (by decide +kernel) (by decide +kernel)
theorem gw_904 : Cond.methodLink "WayMayorLaw" 45 yX12_streets ∈ GW := gw 904 (by decide +kernel) (by decide +kernel)
theorem gw_905 : Cond.instanceMethod yX12_streets ∈ GW := gw 905 (by decide +kernel) (by decide +kernel)
theorem gw_906 : Cond.selects "WayMayor" yX12_streets yX12_streets ∈ GW := gw 906 (by decide +kernel) (by decide +kernel)
theorem gw_1630 : Cond.methodLink "WayMayorLaw" 48 yX13_streets ∈ GW := gw 1630 (by decide +kernel) (by decide +kernel)
theorem gw_1631 : Cond.instanceMethod yX13_streets ∈ GW := gw 1631 (by decide +kernel) (by decide +kernel)
theorem gw_1632 : Cond.selects "WayMayorModel" yX13_streets yX13_streets ∈ GW := gw 1632 (by decide +kernel) (by decide +kernel)
theorem gw_913 : Cond.methodLink "WayMayorLaw" 49 yX12_before ∈ GW := gw 913 (by decide +kernel) (by decide +kernel)
theorem gw_914 : Cond.instanceMethod yX12_before ∈ GW := gw 914 (by decide +kernel) (by decide +kernel)
theorem gw_915 : Cond.selects "WayMayor" yX12_before yX12_before ∈ GW := gw 915 (by decide +kernel) (by decide +kernel)
theorem gw_1638 : Cond.methodLink "WayMayorLaw" 52 yX13_before ∈ GW := gw 1638 (by decide +kernel) (by decide +kernel)
theorem gw_1639 : Cond.instanceMethod yX13_before ∈ GW := gw 1639 (by decide +kernel) (by decide +kernel)
theorem gw_1640 : Cond.selects "WayMayorModel" yX13_before yX13_before ∈ GW := gw 1640 (by decide +kernel) (by decide +kernel)
theorem gw_917 : Cond.methodLink "WayMayorLaw" 53 yX12_hour ∈ GW := gw 917 (by decide +kernel) (by decide +kernel)
theorem gw_918 : Cond.instanceMethod yX12_hour ∈ GW := gw 918 (by decide +kernel) (by decide +kernel)
theorem gw_919 : Cond.selects "WayMayor" yX12_hour yX12_hour ∈ GW := gw 919 (by decide +kernel) (by decide +kernel)
theorem gw_1658 : Cond.methodLink "WayMayorLaw" 56 yX13_hour ∈ GW := gw 1658 (by decide +kernel) (by decide +kernel)
theorem gw_1659 : Cond.instanceMethod yX13_hour ∈ GW := gw 1659 (by decide +kernel) (by decide +kernel)
theorem gw_1660 : Cond.selects "WayMayorModel" yX13_hour yX13_hour ∈ GW := gw 1660 (by decide +kernel) (by decide +kernel)
theorem gw_1012 : Cond.methodLink "WayMayorLaw" 57 yX12_stand ∈ GW := gw 1012 (by decide +kernel) (by decide +kernel)
theorem gw_1013 : Cond.instanceMethod yX12_stand ∈ GW := gw 1013 (by decide +kernel) (by decide +kernel)
theorem gw_1014 : Cond.selects "WayMayor" yX12_stand yX12_stand ∈ GW := gw 1014 (by decide +kernel) (by decide +kernel)
theorem gw_1727 : Cond.methodLink "WayMayorLaw" 60 yX13_stand ∈ GW := gw 1727 (by decide +kernel) (by decide +kernel)
theorem gw_1728 : Cond.instanceMethod yX13_stand ∈ GW := gw 1728 (by decide +kernel) (by decide +kernel)
theorem gw_1729 : Cond.selects "WayMayorModel" yX13_stand yX13_stand ∈ GW := gw 1729 (by decide +kernel) (by decide +kernel)
theorem gw_1016 : Cond.methodLink "WayMayorLaw" 61 yX12_collar ∈ GW := gw 1016 (by decide +kernel) (by decide +kernel)
theorem gw_1017 : Cond.instanceMethod yX12_collar ∈ GW := gw 1017 (by decide +kernel) (by decide +kernel)
theorem gw_1018 : Cond.selects "WayMayor" yX12_collar yX12_collar ∈ GW := gw 1018 (by decide +kernel) (by decide +kernel)
theorem gw_1731 : Cond.methodLink "WayMayorLaw" 64 yX13_collar ∈ GW := gw 1731 (by decide +kernel) (by decide +kernel)
theorem gw_1732 : Cond.instanceMethod yX13_collar ∈ GW := gw 1732 (by decide +kernel) (by decide +kernel)
theorem gw_1733 : Cond.selects "WayMayorModel" yX13_collar yX13_collar ∈ GW := gw 1733 (by decide +kernel) (by decide +kernel)
theorem gw_1023 : Cond.methodLink "WayMayorLaw" 65 yX12_shut ∈ GW := gw 1023 (by decide +kernel) (by decide +kernel)
theorem gw_1024 : Cond.instanceMethod yX12_shut ∈ GW := gw 1024 (by decide +kernel) (by decide +kernel)
theorem gw_1025 : Cond.selects "WayMayor" yX12_shut yX12_shut ∈ GW := gw 1025 (by decide +kernel) (by decide +kernel)
theorem gw_1736 : Cond.methodLink "WayMayorLaw" 68 yX13_shut ∈ GW := gw 1736 (by decide +kernel) (by decide +kernel)
theorem gw_1737 : Cond.instanceMethod yX13_shut ∈ GW := gw 1737 (by decide +kernel) (by decide +kernel)
theorem gw_1738 : Cond.selects "WayMayorModel" yX13_shut yX13_shut ∈ GW := gw 1738 (by decide +kernel) (by decide +kernel)
theorem gw_1028 : Cond.methodLink "WayMayorLaw" 69 yX12_hunt ∈ GW := gw 1028 (by decide +kernel) (by decide +kernel)
theorem gw_1029 : Cond.instanceMethod yX12_hunt ∈ GW := gw 1029 (by decide +kernel) (by decide +kernel)
theorem gw_1030 : Cond.selects "WayMayor" yX12_hunt yX12_hunt ∈ GW := gw 1030 (by decide +kernel) (by decide +kernel)
theorem gw_1744 : Cond.methodLink "WayMayorLaw" 72 yX13_hunt ∈ GW := gw 1744 (by decide +kernel) (by decide +kernel)
theorem gw_1745 : Cond.instanceMethod yX13_hunt ∈ GW := gw 1745 (by decide +kernel) (by decide +kernel)
theorem gw_1746 : Cond.selects "WayMayorModel" yX13_hunt yX13_hunt ∈ GW := gw 1746 (by decide +kernel) (by decide +kernel)
theorem gw_1032 : Cond.methodLink "WayMayorLaw" 73 yX12_undo ∈ GW := gw 1032 (by decide +kernel) (by decide +kernel)
theorem gw_1033 : Cond.instanceMethod yX12_undo ∈ GW := gw 1033 (by decide +kernel) (by decide +kernel)
theorem gw_1034 : Cond.selects "WayMayor" yX12_undo yX12_undo ∈ GW := gw 1034 (by decide +kernel) (by decide +kernel)
theorem gw_1642 : Cond.methodLink "WayMayorLaw" 76 yX13_undo ∈ GW := gw 1642 (by decide +kernel) (by decide +kernel)
theorem gw_1643 : Cond.instanceMethod yX13_undo ∈ GW := gw 1643 (by decide +kernel) (by decide +kernel)
theorem gw_1644 : Cond.selects "WayMayorModel" yX13_undo yX13_undo ∈ GW := gw 1644 (by decide +kernel) (by decide +kernel)
theorem gw_1040 : Cond.methodLink "WayMayorLaw" 77 yX12_ahead ∈ GW := gw 1040 (by decide +kernel) (by decide +kernel)
theorem gw_1041 : Cond.instanceMethod yX12_ahead ∈ GW := gw 1041 (by decide +kernel) (by decide +kernel)
theorem gw_1042 : Cond.selects "WayMayor" yX12_ahead yX12_ahead ∈ GW := gw 1042 (by decide +kernel) (by decide +kernel)
theorem gw_1748 : Cond.methodLink "WayMayorLaw" 81 yX13_ahead ∈ GW := gw 1748 (by decide +kernel) (by decide +kernel)
theorem gw_1749 : Cond.instanceMethod yX13_ahead ∈ GW := gw 1749 (by decide +kernel) (by decide +kernel)
theorem gw_1750 : Cond.selects "WayMayorModel" yX13_ahead yX13_ahead ∈ GW := gw 1750 (by decide +kernel) (by decide +kernel)
theorem gw_1054 : Cond.methodLink "WayMayorLaw" 82 yX12_mayor ∈ GW := gw 1054 (by decide +kernel) (by decide +kernel)
theorem gw_1055 : Cond.instanceMethod yX12_mayor ∈ GW := gw 1055 (by decide +kernel) (by decide +kernel)
theorem gw_1056 : Cond.selects "WayMayor" yX12_mayor yX12_mayor ∈ GW := gw 1056 (by decide +kernel) (by decide +kernel)
theorem gw_1775 : Cond.methodLink "WayMayorLaw" 85 yX13_mayor ∈ GW := gw 1775 (by decide +kernel) (by decide +kernel)
theorem gw_1776 : Cond.instanceMethod yX13_mayor ∈ GW := gw 1776 (by decide +kernel) (by decide +kernel)
theorem gw_1777 : Cond.selects "WayMayorModel" yX13_mayor yX13_mayor ∈ GW := gw 1777 (by decide +kernel) (by decide +kernel)
theorem gw_1063 : Cond.methodLink "WayMayorLaw" 86 yX12_pitch ∈ GW := gw 1063 (by decide +kernel) (by decide +kernel)
theorem gw_1064 : Cond.instanceMethod yX12_pitch ∈ GW := gw 1064 (by decide +kernel) (by decide +kernel)
theorem gw_1065 : Cond.selects "WayMayor" yX12_pitch yX12_pitch ∈ GW := gw 1065 (by decide +kernel) (by decide +kernel)
theorem gw_1779 : Cond.methodLink "WayMayorLaw" 89 yX13_pitch ∈ GW := gw 1779 (by decide +kernel) (by decide +kernel)
theorem gw_1780 : Cond.instanceMethod yX13_pitch ∈ GW := gw 1780 (by decide +kernel) (by decide +kernel)
theorem gw_1781 : Cond.selects "WayMayorModel" yX13_pitch yX13_pitch ∈ GW := gw 1781 (by decide +kernel) (by decide +kernel)
theorem gw_1071 : Cond.methodLink "WayMayorLaw" 90 yX12_smile ∈ GW := gw 1071 (by decide +kernel) (by decide +kernel)
theorem gw_1072 : Cond.instanceMethod yX12_smile ∈ GW := gw 1072 (by decide +kernel) (by decide +kernel)
theorem gw_1073 : Cond.selects "WayMayor" yX12_smile yX12_smile ∈ GW := gw 1073 (by decide +kernel) (by decide +kernel)
theorem gw_1788 : Cond.methodLink "WayMayorLaw" 93 yX13_smile ∈ GW := gw 1788 (by decide +kernel) (by decide +kernel)
theorem gw_1789 : Cond.instanceMethod yX13_smile ∈ GW := gw 1789 (by decide +kernel) (by decide +kernel)
theorem gw_1790 : Cond.selects "WayMayorModel" yX13_smile yX13_smile ∈ GW := gw 1790 (by decide +kernel) (by decide +kernel)
theorem gw_1079 : Cond.methodLink "WayMayorLaw" 94 yX12_way ∈ GW := gw 1079 (by decide +kernel) (by decide +kernel)
theorem gw_1080 : Cond.instanceMethod yX12_way ∈ GW := gw 1080 (by decide +kernel) (by decide +kernel)
theorem gw_1081 : Cond.selects "WayMayor" yX12_way yX12_way ∈ GW := gw 1081 (by decide +kernel) (by decide +kernel)
theorem gw_1792 : Cond.methodLink "WayMayorLaw" 97 yX13_way ∈ GW := gw 1792 (by decide +kernel) (by decide +kernel)
theorem gw_1793 : Cond.instanceMethod yX13_way ∈ GW := gw 1793 (by decide +kernel) (by decide +kernel)
theorem gw_1794 : Cond.selects "WayMayorModel" yX13_way yX13_way ∈ GW := gw 1794 (by decide +kernel) (by decide +kernel)
theorem gw_1086 : Cond.methodLink "WayMayorLaw" 98 yX12_came ∈ GW := gw 1086 (by decide +kernel) (by decide +kernel)
theorem gw_1087 : Cond.instanceMethod yX12_came ∈ GW := gw 1087 (by decide +kernel) (by decide +kernel)
theorem gw_1088 : Cond.selects "WayMayor" yX12_came yX12_came ∈ GW := gw 1088 (by decide +kernel) (by decide +kernel)
theorem gw_1796 : Cond.methodLink "WayMayorLaw" 102 yX13_came ∈ GW := gw 1796 (by decide +kernel) (by decide +kernel)
theorem gw_1797 : Cond.instanceMethod yX13_came ∈ GW := gw 1797 (by decide +kernel) (by decide +kernel)
theorem gw_1798 : Cond.selects "WayMayorModel" yX13_came yX13_came ∈ GW := gw 1798 (by decide +kernel) (by decide +kernel)
theorem gw_1180 : Cond.methodLink "WayMayorLaw" 103 yX12_liars ∈ GW := gw 1180 (by decide +kernel) (by decide +kernel)
theorem gw_1181 : Cond.instanceMethod yX12_liars ∈ GW := gw 1181 (by decide +kernel) (by decide +kernel)
theorem gw_1182 : Cond.selects "WayMayor" yX12_liars yX12_liars ∈ GW := gw 1182 (by decide +kernel) (by decide +kernel)
theorem gw_1860 : Cond.methodLink "WayMayorLaw" 106 yX13_liars ∈ GW := gw 1860 (by decide +kernel) (by decide +kernel)
theorem gw_1861 : Cond.instanceMethod yX13_liars ∈ GW := gw 1861 (by decide +kernel) (by decide +kernel)
theorem gw_1862 : Cond.selects "WayMayorModel" yX13_liars yX13_liars ∈ GW := gw 1862 (by decide +kernel) (by decide +kernel)
theorem gw_1094 : Cond.methodLink "WayMayorLaw" 107 yX12_post ∈ GW := gw 1094 (by decide +kernel) (by decide +kernel)
theorem gw_1095 : Cond.instanceMethod yX12_post ∈ GW := gw 1095 (by decide +kernel) (by decide +kernel)
theorem gw_1096 : Cond.selects "WayMayor" yX12_post yX12_post ∈ GW := gw 1096 (by decide +kernel) (by decide +kernel)
theorem gw_1801 : Cond.methodLink "WayMayorLaw" 110 yX13_post ∈ GW := gw 1801 (by decide +kernel) (by decide +kernel)
theorem gw_1802 : Cond.instanceMethod yX13_post ∈ GW := gw 1802 (by decide +kernel) (by decide +kernel)
theorem gw_1803 : Cond.selects "WayMayorModel" yX13_post yX13_post ∈ GW := gw 1803 (by decide +kernel) (by decide +kernel)
theorem gw_1108 : Cond.methodLink "WayMayorLaw" 111 yX12_game ∈ GW := gw 1108 (by decide +kernel) (by decide +kernel)
theorem gw_1109 : Cond.instanceMethod yX12_game ∈ GW := gw 1109 (by decide +kernel) (by decide +kernel)
theorem gw_1110 : Cond.selects "WayMayor" yX12_game yX12_game ∈ GW := gw 1110 (by decide +kernel) (by decide +kernel)
theorem gw_1809 : Cond.methodLink "WayMayorLaw" 114 yX13_game ∈ GW := gw 1809 (by decide +kernel) (by decide +kernel)
theorem gw_1810 : Cond.instanceMethod yX13_game ∈ GW := gw 1810 (by decide +kernel) (by decide +kernel)
theorem gw_1811 : Cond.selects "WayMayorModel" yX13_game yX13_game ∈ GW := gw 1811 (by decide +kernel) (by decide +kernel)
theorem gw_1125 : Cond.methodLink "WayMayorLaw" 115 yX12_rests ∈ GW := gw 1125 (by decide +kernel) (by decide +kernel)
theorem gw_1126 : Cond.instanceMethod yX12_rests ∈ GW := gw 1126 (by decide +kernel) (by decide +kernel)
theorem gw_1127 : Cond.selects "WayMayor" yX12_rests yX12_rests ∈ GW := gw 1127 (by decide +kernel) (by decide +kernel)
theorem gw_1822 : Cond.methodLink "WayMayorLaw" 118 yX13_rests ∈ GW := gw 1822 (by decide +kernel) (by decide +kernel)
theorem gw_1823 : Cond.instanceMethod yX13_rests ∈ GW := gw 1823 (by decide +kernel) (by decide +kernel)
theorem gw_1824 : Cond.selects "WayMayorModel" yX13_rests yX13_rests ∈ GW := gw 1824 (by decide +kernel) (by decide +kernel)
theorem gw_1141 : Cond.methodLink "WayMayorLaw" 119 yX12_pence ∈ GW := gw 1141 (by decide +kernel) (by decide +kernel)
theorem gw_1142 : Cond.instanceMethod yX12_pence ∈ GW := gw 1142 (by decide +kernel) (by decide +kernel)
theorem gw_1143 : Cond.selects "WayMayor" yX12_pence yX12_pence ∈ GW := gw 1143 (by decide +kernel) (by decide +kernel)
theorem gw_1835 : Cond.methodLink "WayMayorLaw" 122 yX13_pence ∈ GW := gw 1835 (by decide +kernel) (by decide +kernel)
theorem gw_1836 : Cond.instanceMethod yX13_pence ∈ GW := gw 1836 (by decide +kernel) (by decide +kernel)
theorem gw_1837 : Cond.selects "WayMayorModel" yX13_pence yX13_pence ∈ GW := gw 1837 (by decide +kernel) (by decide +kernel)
theorem gw_1172 : Cond.methodLink "WayMayorLaw" 123 yX12_note ∈ GW := gw 1172 (by decide +kernel) (by decide +kernel)
theorem gw_1173 : Cond.instanceMethod yX12_note ∈ GW := gw 1173 (by decide +kernel) (by decide +kernel)
theorem gw_1174 : Cond.selects "WayMayor" yX12_note yX12_note ∈ GW := gw 1174 (by decide +kernel) (by decide +kernel)
theorem gw_1844 : Cond.methodLink "WayMayorLaw" 126 yX13_note ∈ GW := gw 1844 (by decide +kernel) (by decide +kernel)
theorem gw_1845 : Cond.instanceMethod yX13_note ∈ GW := gw 1845 (by decide +kernel) (by decide +kernel)
theorem gw_1846 : Cond.selects "WayMayorModel" yX13_note yX13_note ∈ GW := gw 1846 (by decide +kernel) (by decide +kernel)
theorem gw_1196 : Cond.methodLink "WayMayorLaw" 127 yX12_ruled ∈ GW := gw 1196 (by decide +kernel) (by decide +kernel)
theorem gw_1197 : Cond.instanceMethod yX12_ruled ∈ GW := gw 1197 (by decide +kernel) (by decide +kernel)
theorem gw_1198 : Cond.selects "WayMayor" yX12_ruled yX12_ruled ∈ GW := gw 1198 (by decide +kernel) (by decide +kernel)
theorem gw_1848 : Cond.methodLink "WayMayorLaw" 130 yX13_ruled ∈ GW := gw 1848 (by decide +kernel) (by decide +kernel)
theorem gw_1849 : Cond.instanceMethod yX13_ruled ∈ GW := gw 1849 (by decide +kernel) (by decide +kernel)
theorem gw_1850 : Cond.selects "WayMayorModel" yX13_ruled yX13_ruled ∈ GW := gw 1850 (by decide +kernel) (by decide +kernel)
theorem gw_1204 : Cond.methodLink "WayMayorLaw" 131 yX12_look ∈ GW := gw 1204 (by decide +kernel) (by decide +kernel)
theorem gw_1205 : Cond.instanceMethod yX12_look ∈ GW := gw 1205 (by decide +kernel) (by decide +kernel)
theorem gw_1206 : Cond.selects "WayMayor" yX12_look yX12_look ∈ GW := gw 1206 (by decide +kernel) (by decide +kernel)
theorem gw_1864 : Cond.methodLink "WayMayorLaw" 134 yX13_look ∈ GW := gw 1864 (by decide +kernel) (by decide +kernel)
theorem gw_1865 : Cond.instanceMethod yX13_look ∈ GW := gw 1865 (by decide +kernel) (by decide +kernel)
theorem gw_1866 : Cond.selects "WayMayorModel" yX13_look yX13_look ∈ GW := gw 1866 (by decide +kernel) (by decide +kernel)
theorem gw_1217 : Cond.methodLink "WayMayorLaw" 135 yX12_seed ∈ GW := gw 1217 (by decide +kernel) (by decide +kernel)
theorem gw_1218 : Cond.instanceMethod yX12_seed ∈ GW := gw 1218 (by decide +kernel) (by decide +kernel)
theorem gw_1219 : Cond.selects "WayMayor" yX12_seed yX12_seed ∈ GW := gw 1219 (by decide +kernel) (by decide +kernel)
theorem gw_1872 : Cond.methodLink "WayMayorLaw" 138 yX13_seed ∈ GW := gw 1872 (by decide +kernel) (by decide +kernel)
theorem gw_1873 : Cond.instanceMethod yX13_seed ∈ GW := gw 1873 (by decide +kernel) (by decide +kernel)
theorem gw_1874 : Cond.selects "WayMayorModel" yX13_seed yX13_seed ∈ GW := gw 1874 (by decide +kernel) (by decide +kernel)
theorem gw_1153 : Cond.methodLink "WayMayorLaw" 139 yX12_markets ∈ GW := gw 1153 (by decide +kernel) (by decide +kernel)
theorem gw_1154 : Cond.instanceMethod yX12_markets ∈ GW := gw 1154 (by decide +kernel) (by decide +kernel)
theorem gw_1155 : Cond.selects "WayMayor" yX12_markets yX12_markets ∈ GW := gw 1155 (by decide +kernel) (by decide +kernel)
theorem gw_1876 : Cond.methodLink "WayMayorLaw" 142 yX13_markets ∈ GW := gw 1876 (by decide +kernel) (by decide +kernel)
theorem gw_1877 : Cond.instanceMethod yX13_markets ∈ GW := gw 1877 (by decide +kernel) (by decide +kernel)
theorem gw_1878 : Cond.selects "WayMayorModel" yX13_markets yX13_markets ∈ GW := gw 1878 (by decide +kernel) (by decide +kernel)
theorem gw_1221 : Cond.methodLink "WayMayorLaw" 143 yX12_count ∈ GW := gw 1221 (by decide +kernel) (by decide +kernel)
theorem gw_1222 : Cond.instanceMethod yX12_count ∈ GW := gw 1222 (by decide +kernel) (by decide +kernel)
theorem gw_1223 : Cond.selects "WayMayor" yX12_count yX12_count ∈ GW := gw 1223 (by decide +kernel) (by decide +kernel)
theorem gw_1889 : Cond.methodLink "WayMayorLaw" 146 yX13_count ∈ GW := gw 1889 (by decide +kernel) (by decide +kernel)
theorem gw_1890 : Cond.instanceMethod yX13_count ∈ GW := gw 1890 (by decide +kernel) (by decide +kernel)
theorem gw_1891 : Cond.selects "WayMayorModel" yX13_count yX13_count ∈ GW := gw 1891 (by decide +kernel) (by decide +kernel)
theorem gw_1226 : Cond.methodLink "WayMayorLaw" 147 yX12_image ∈ GW := gw 1226 (by decide +kernel) (by decide +kernel)
theorem gw_1227 : Cond.instanceMethod yX12_image ∈ GW := gw 1227 (by decide +kernel) (by decide +kernel)
theorem gw_1228 : Cond.selects "WayMayor" yX12_image yX12_image ∈ GW := gw 1228 (by decide +kernel) (by decide +kernel)
theorem gw_1893 : Cond.methodLink "WayMayorLaw" 150 yX13_image ∈ GW := gw 1893 (by decide +kernel) (by decide +kernel)
theorem gw_1894 : Cond.instanceMethod yX13_image ∈ GW := gw 1894 (by decide +kernel) (by decide +kernel)
theorem gw_1895 : Cond.selects "WayMayorModel" yX13_image yX13_image ∈ GW := gw 1895 (by decide +kernel) (by decide +kernel)
theorem gw_1240 : Cond.methodLink "WayMayorLaw" 151 yX12_back ∈ GW := gw 1240 (by decide +kernel) (by decide +kernel)
theorem gw_1241 : Cond.instanceMethod yX12_back ∈ GW := gw 1241 (by decide +kernel) (by decide +kernel)
theorem gw_1242 : Cond.selects "WayMayor" yX12_back yX12_back ∈ GW := gw 1242 (by decide +kernel) (by decide +kernel)
theorem gw_1897 : Cond.methodLink "WayMayorLaw" 154 yX13_back ∈ GW := gw 1897 (by decide +kernel) (by decide +kernel)
theorem gw_1898 : Cond.instanceMethod yX13_back ∈ GW := gw 1898 (by decide +kernel) (by decide +kernel)
theorem gw_1899 : Cond.selects "WayMayorModel" yX13_back yX13_back ∈ GW := gw 1899 (by decide +kernel) (by decide +kernel)
theorem gw_383 : Cond.classLink "WayMayor$Clock" 9 "WayMayor$Ways" ∈ GW := gw 383 (by decide +kernel) (by decide +kernel)
theorem gw_384 : Cond.instantiable "WayMayor$Ways" 2 ∈ GW := gw 384 (by decide +kernel) (by decide +kernel)
theorem gw_406 : Cond.classLink "WayMayor$Clock" 25 "WayMayor$Town" ∈ GW := gw 406 (by decide +kernel) (by decide +kernel)
theorem gw_176 : Cond.instantiable "WayMayor$Town" 11 ∈ GW := gw 176 (by decide +kernel) (by decide +kernel)
theorem gw_539 : Cond.classLink "WayMayor$History" 9 "WayMayor$State" ∈ GW := gw 539 (by decide +kernel) (by decide +kernel)
theorem gw_245 : Cond.instantiable "WayMayor$State" 11 ∈ GW := gw 245 (by decide +kernel) (by decide +kernel)
theorem gw_497 : Cond.classLink "WayMayor$Outlook" 9 "WayMayor$State" ∈ GW := gw 497 (by decide +kernel) (by decide +kernel)
theorem gw_321 : Cond.classLink "WayMayor$Past" 9 "WayMayor$State" ∈ GW := gw 321 (by decide +kernel) (by decide +kernel)
theorem gw_175 : Cond.classLink "WayMayor$Scene" 9 "WayMayor$Town" ∈ GW := gw 175 (by decide +kernel) (by decide +kernel)
theorem gw_244 : Cond.classLink "WayMayor$Scene" 18 "WayMayor$State" ∈ GW := gw 244 (by decide +kernel) (by decide +kernel)
theorem gw_315 : Cond.classLink "WayMayor$Scene" 25 "WayMayor$Past" ∈ GW := gw 315 (by decide +kernel) (by decide +kernel)
theorem gw_316 : Cond.instantiable "WayMayor$Past" 3 ∈ GW := gw 316 (by decide +kernel) (by decide +kernel)
theorem gw_608 : Cond.classLink "WayMayor$TownReader" 15 "WayMayor$Town" ∈ GW := gw 608 (by decide +kernel) (by decide +kernel)
theorem gw_134 : Cond.classLink "WayMayor" 7 "WayMayor$Tape" ∈ GW := gw 134 (by decide +kernel) (by decide +kernel)
theorem gw_135 : Cond.instantiable "WayMayor$Tape" 7 ∈ GW := gw 135 (by decide +kernel) (by decide +kernel)
theorem gw_169 : Cond.classLink "WayMayor" 10 "WayMayor$Scene" ∈ GW := gw 169 (by decide +kernel) (by decide +kernel)
theorem gw_170 : Cond.instantiable "WayMayor$Scene" 9 ∈ GW := gw 170 (by decide +kernel) (by decide +kernel)
theorem gw_377 : Cond.classLink "WayMayor" 13 "WayMayor$Clock" ∈ GW := gw 377 (by decide +kernel) (by decide +kernel)
theorem gw_378 : Cond.instantiable "WayMayor$Clock" 6 ∈ GW := gw 378 (by decide +kernel) (by decide +kernel)
theorem gw_429 : Cond.classLink "WayMayor" 22 "WayMayor$TownReader" ∈ GW := gw 429 (by decide +kernel) (by decide +kernel)
theorem gw_430 : Cond.instantiable "WayMayor$TownReader" 1 ∈ GW := gw 430 (by decide +kernel) (by decide +kernel)
theorem gw_439 : Cond.classLink "WayMayor" 31 "WayMayor$RuleReader" ∈ GW := gw 439 (by decide +kernel) (by decide +kernel)
theorem gw_440 : Cond.instantiable "WayMayor$RuleReader" 2 ∈ GW := gw 440 (by decide +kernel) (by decide +kernel)
theorem gw_452 : Cond.classLink "WayMayor" 38 "WayMayor$Rule" ∈ GW := gw 452 (by decide +kernel) (by decide +kernel)
theorem gw_454 : Cond.instantiable "WayMayor$Rule" 10 ∈ GW := gw 454 (by decide +kernel) (by decide +kernel)
theorem gw_491 : Cond.classLink "WayMayor" 65 "WayMayor$Outlook" ∈ GW := gw 491 (by decide +kernel) (by decide +kernel)
theorem gw_492 : Cond.instantiable "WayMayor$Outlook" 11 ∈ GW := gw 492 (by decide +kernel) (by decide +kernel)
theorem gw_533 : Cond.classLink "WayMayor" 74 "WayMayor$History" ∈ GW := gw 533 (by decide +kernel) (by decide +kernel)
theorem gw_534 : Cond.instantiable "WayMayor$History" 4 ∈ GW := gw 534 (by decide +kernel) (by decide +kernel)
theorem gw_126 : Cond.classLink "WayMayorLaw" 7 "WayMayor" ∈ GW := gw 126 (by decide +kernel) (by decide +kernel)
theorem gw_127 : Cond.instantiable "WayMayor" 11 ∈ GW := gw 127 (by decide +kernel) (by decide +kernel)
theorem gw_1244 : Cond.classLink "WayMayorLaw" 10 "WayMayorModel" ∈ GW := gw 1244 (by decide +kernel) (by decide +kernel)
theorem gw_1245 : Cond.instantiable "WayMayorModel" 63 ∈ GW := gw 1245 (by decide +kernel) (by decide +kernel)
theorem gw_962 : Cond.constantLong "WayMayor$Clock" 93 (-1) ∈ GW := gw 962 (by decide +kernel) (by decide +kernel)
theorem gw_1107 : Cond.constantLong "WayMayor$Outlook" 98 (-1) ∈ GW := gw 1107 (by decide +kernel) (by decide +kernel)
theorem gw_1165 : Cond.constant "WayMayor$Outlook" 147 (1103515245) ∈ GW := gw 1165 (by decide +kernel) (by decide +kernel)
theorem gw_1166 : Cond.constant "WayMayor$Outlook" 148 (2147483647) ∈ GW := gw 1166 (by decide +kernel) (by decide +kernel)
theorem gw_1167 : Cond.constant "WayMayor$Outlook" 149 (65536) ∈ GW := gw 1167 (by decide +kernel) (by decide +kernel)
theorem gw_1515 : Cond.constantLong "WayMayorModel" 204 (48) ∈ GW := gw 1515 (by decide +kernel) (by decide +kernel)
theorem gw_1516 : Cond.constantLong "WayMayorModel" 206 (57) ∈ GW := gw 1516 (by decide +kernel) (by decide +kernel)
theorem gw_1506 : Cond.constant "WayMayorModel" 241 (99999) ∈ GW := gw 1506 (by decide +kernel) (by decide +kernel)
theorem gw_1613 : Cond.constantLong "WayMayorModel" 350 (-1) ∈ GW := gw 1613 (by decide +kernel) (by decide +kernel)
theorem gw_1735 : Cond.constantLong "WayMayorModel" 436 (9) ∈ GW := gw 1735 (by decide +kernel) (by decide +kernel)
theorem gw_1752 : Cond.constantLong "WayMayorModel" 444 (2) ∈ GW := gw 1752 (by decide +kernel) (by decide +kernel)
theorem gw_1753 : Cond.constantLong "WayMayorModel" 446 (3) ∈ GW := gw 1753 (by decide +kernel) (by decide +kernel)
theorem gw_1754 : Cond.constantLong "WayMayorModel" 448 (100) ∈ GW := gw 1754 (by decide +kernel) (by decide +kernel)
theorem gw_1783 : Cond.constantLong "WayMayorModel" 459 (60) ∈ GW := gw 1783 (by decide +kernel) (by decide +kernel)
theorem gw_1800 : Cond.constantLong "WayMayorModel" 464 (30) ∈ GW := gw 1800 (by decide +kernel) (by decide +kernel)
theorem gw_1817 : Cond.constant "WayMayorModel" 469 (-100000) ∈ GW := gw 1817 (by decide +kernel) (by decide +kernel)
theorem gw_1826 : Cond.constantLong "WayMayorModel" 478 (20) ∈ GW := gw 1826 (by decide +kernel) (by decide +kernel)
theorem gw_1839 : Cond.constantLong "WayMayorModel" 487 (9999) ∈ GW := gw 1839 (by decide +kernel) (by decide +kernel)
theorem gw_1885 : Cond.constantLong "WayMayorModel" 501 (1103515245) ∈ GW := gw 1885 (by decide +kernel) (by decide +kernel)
theorem gw_1886 : Cond.constantLong "WayMayorModel" 503 (12345) ∈ GW := gw 1886 (by decide +kernel) (by decide +kernel)
theorem gw_1887 : Cond.constantLong "WayMayorModel" 505 (2147483648) ∈ GW := gw 1887 (by decide +kernel) (by decide +kernel)
theorem gw_1888 : Cond.constant "WayMayorModel" 507 (65536) ∈ GW := gw 1888 (by decide +kernel) (by decide +kernel)
theorem gw_1880 : Cond.constantLong "WayMayorModel" 508 (10) ∈ GW := gw 1880 (by decide +kernel) (by decide +kernel)
theorem gw_416 : Cond.laysFinal "WayMayor$Clock" "WayMayor$Clock" "ways" "LWayMayor$Ways;" ∈ GW := gw 416 (by decide +kernel) (by decide +kernel)
theorem gw_418 : Cond.laysFinal "WayMayor$Clock" "WayMayor$Clock" "whom" "[I" ∈ GW := gw 418 (by decide +kernel) (by decide +kernel)
theorem gw_420 : Cond.laysFinal "WayMayor$Clock" "WayMayor$Clock" "words" "[I" ∈ GW := gw 420 (by decide +kernel) (by decide +kernel)
theorem gw_422 : Cond.lays "WayMayor$Clock" "WayMayor$Clock" "town" "LWayMayor$Town;" ∈ GW := gw 422 (by decide +kernel) (by decide +kernel)
theorem gw_424 : Cond.lays "WayMayor$Clock" "WayMayor$Clock" "rule" "LWayMayor$Rule;" ∈ GW := gw 424 (by decide +kernel) (by decide +kernel)
theorem gw_426 : Cond.lays "WayMayor$Clock" "WayMayor$Clock" "wrong" "I" ∈ GW := gw 426 (by decide +kernel) (by decide +kernel)
theorem gw_545 : Cond.laysFinal "WayMayor$History" "WayMayor$History" "now" "LWayMayor$Scene;" ∈ GW := gw 545 (by decide +kernel) (by decide +kernel)
theorem gw_547 : Cond.laysFinal "WayMayor$History" "WayMayor$History" "clock" "LWayMayor$Clock;" ∈ GW := gw 547 (by decide +kernel) (by decide +kernel)
theorem gw_549 : Cond.laysFinal "WayMayor$History" "WayMayor$History" "trial" "LWayMayor$State;" ∈ GW := gw 549 (by decide +kernel) (by decide +kernel)
theorem gw_551 : Cond.laysFinal "WayMayor$History" "WayMayor$History" "answers" "[I" ∈ GW := gw 551 (by decide +kernel) (by decide +kernel)
theorem gw_510 : Cond.laysFinal "WayMayor$Outlook" "WayMayor$Outlook" "now" "LWayMayor$Scene;" ∈ GW := gw 510 (by decide +kernel) (by decide +kernel)
theorem gw_512 : Cond.laysFinal "WayMayor$Outlook" "WayMayor$Outlook" "clock" "LWayMayor$Clock;" ∈ GW := gw 512 (by decide +kernel) (by decide +kernel)
theorem gw_514 : Cond.laysFinal "WayMayor$Outlook" "WayMayor$Outlook" "trial" "LWayMayor$State;" ∈ GW := gw 514 (by decide +kernel) (by decide +kernel)
theorem gw_516 : Cond.laysFinal "WayMayor$Outlook" "WayMayor$Outlook" "turns" "[LWayMayor$State;" ∈ GW := gw 516 (by decide +kernel) (by decide +kernel)
theorem gw_518 : Cond.laysFinal "WayMayor$Outlook" "WayMayor$Outlook" "gainOfOne" "[I" ∈ GW := gw 518 (by decide +kernel) (by decide +kernel)
theorem gw_520 : Cond.laysFinal "WayMayor$Outlook" "WayMayor$Outlook" "gainOfOther" "[I" ∈ GW := gw 520 (by decide +kernel) (by decide +kernel)
theorem gw_522 : Cond.lays "WayMayor$Outlook" "WayMayor$Outlook" "one" "I" ∈ GW := gw 522 (by decide +kernel) (by decide +kernel)
theorem gw_524 : Cond.lays "WayMayor$Outlook" "WayMayor$Outlook" "other" "I" ∈ GW := gw 524 (by decide +kernel) (by decide +kernel)
theorem gw_526 : Cond.lays "WayMayor$Outlook" "WayMayor$Outlook" "turnCount" "I" ∈ GW := gw 526 (by decide +kernel) (by decide +kernel)
theorem gw_528 : Cond.lays "WayMayor$Outlook" "WayMayor$Outlook" "firstMove" "I" ∈ GW := gw 528 (by decide +kernel) (by decide +kernel)
theorem gw_530 : Cond.lays "WayMayor$Outlook" "WayMayor$Outlook" "x" "I" ∈ GW := gw 530 (by decide +kernel) (by decide +kernel)
theorem gw_328 : Cond.lays "WayMayor$Past" "WayMayor$Past" "size" "I" ∈ GW := gw 328 (by decide +kernel) (by decide +kernel)
theorem gw_330 : Cond.lays "WayMayor$Past" "WayMayor$Past" "next" "I" ∈ GW := gw 330 (by decide +kernel) (by decide +kernel)
theorem gw_332 : Cond.laysFinal "WayMayor$Past" "WayMayor$Past" "kept" "[LWayMayor$State;" ∈ GW := gw 332 (by decide +kernel) (by decide +kernel)
theorem gw_469 : Cond.lays "WayMayor$Rule" "WayMayor$Rule" "values" "I" ∈ GW := gw 469 (by decide +kernel) (by decide +kernel)
theorem gw_471 : Cond.laysFinal "WayMayor$Rule" "WayMayor$Rule" "join" "[I" ∈ GW := gw 471 (by decide +kernel) (by decide +kernel)
theorem gw_473 : Cond.laysFinal "WayMayor$Rule" "WayMayor$Rule" "value" "[I" ∈ GW := gw 473 (by decide +kernel) (by decide +kernel)
theorem gw_475 : Cond.lays "WayMayor$Rule" "WayMayor$Rule" "sums" "I" ∈ GW := gw 475 (by decide +kernel) (by decide +kernel)
theorem gw_477 : Cond.laysFinal "WayMayor$Rule" "WayMayor$Rule" "sumFrom" "[I" ∈ GW := gw 477 (by decide +kernel) (by decide +kernel)
theorem gw_479 : Cond.laysFinal "WayMayor$Rule" "WayMayor$Rule" "sumTo" "[I" ∈ GW := gw 479 (by decide +kernel) (by decide +kernel)
theorem gw_481 : Cond.lays "WayMayor$Rule" "WayMayor$Rule" "facts" "I" ∈ GW := gw 481 (by decide +kernel) (by decide +kernel)
theorem gw_483 : Cond.lays "WayMayor$Rule" "WayMayor$Rule" "steps" "I" ∈ GW := gw 483 (by decide +kernel) (by decide +kernel)
theorem gw_485 : Cond.laysFinal "WayMayor$Rule" "WayMayor$Rule" "step" "[I" ∈ GW := gw 485 (by decide +kernel) (by decide +kernel)
theorem gw_487 : Cond.laysFinal "WayMayor$Rule" "WayMayor$Rule" "with" "[I" ∈ GW := gw 487 (by decide +kernel) (by decide +kernel)
theorem gw_447 : Cond.laysFinal "WayMayor$RuleReader" "WayMayor$RuleReader" "tape" "LWayMayor$Tape;" ∈ GW := gw 447 (by decide +kernel) (by decide +kernel)
theorem gw_449 : Cond.lays "WayMayor$RuleReader" "WayMayor$RuleReader" "rule" "LWayMayor$Rule;" ∈ GW := gw 449 (by decide +kernel) (by decide +kernel)
theorem gw_358 : Cond.lays "WayMayor$Scene" "WayMayor$Scene" "town" "LWayMayor$Town;" ∈ GW := gw 358 (by decide +kernel) (by decide +kernel)
theorem gw_360 : Cond.laysFinal "WayMayor$Scene" "WayMayor$Scene" "state" "LWayMayor$State;" ∈ GW := gw 360 (by decide +kernel) (by decide +kernel)
theorem gw_362 : Cond.laysFinal "WayMayor$Scene" "WayMayor$Scene" "past" "LWayMayor$Past;" ∈ GW := gw 362 (by decide +kernel) (by decide +kernel)
theorem gw_364 : Cond.lays "WayMayor$Scene" "WayMayor$Scene" "force" "I" ∈ GW := gw 364 (by decide +kernel) (by decide +kernel)
theorem gw_366 : Cond.lays "WayMayor$Scene" "WayMayor$Scene" "x" "I" ∈ GW := gw 366 (by decide +kernel) (by decide +kernel)
theorem gw_368 : Cond.lays "WayMayor$Scene" "WayMayor$Scene" "notes" "I" ∈ GW := gw 368 (by decide +kernel) (by decide +kernel)
theorem gw_370 : Cond.laysFinal "WayMayor$Scene" "WayMayor$Scene" "noteHour" "[I" ∈ GW := gw 370 (by decide +kernel) (by decide +kernel)
theorem gw_372 : Cond.laysFinal "WayMayor$Scene" "WayMayor$Scene" "noteStranger" "[I" ∈ GW := gw 372 (by decide +kernel) (by decide +kernel)
theorem gw_374 : Cond.laysFinal "WayMayor$Scene" "WayMayor$Scene" "notePerson" "[I" ∈ GW := gw 374 (by decide +kernel) (by decide +kernel)
theorem gw_292 : Cond.lays "WayMayor$State" "WayMayor$State" "hour" "I" ∈ GW := gw 292 (by decide +kernel) (by decide +kernel)
theorem gw_294 : Cond.lays "WayMayor$State" "WayMayor$State" "chain" "I" ∈ GW := gw 294 (by decide +kernel) (by decide +kernel)
theorem gw_296 : Cond.lays "WayMayor$State" "WayMayor$State" "come" "I" ∈ GW := gw 296 (by decide +kernel) (by decide +kernel)
theorem gw_298 : Cond.lays "WayMayor$State" "WayMayor$State" "open" "J" ∈ GW := gw 298 (by decide +kernel) (by decide +kernel)
theorem gw_300 : Cond.laysFinal "WayMayor$State" "WayMayor$State" "place" "[I" ∈ GW := gw 300 (by decide +kernel) (by decide +kernel)
theorem gw_302 : Cond.laysFinal "WayMayor$State" "WayMayor$State" "kind" "[I" ∈ GW := gw 302 (by decide +kernel) (by decide +kernel)
theorem gw_304 : Cond.laysFinal "WayMayor$State" "WayMayor$State" "asked" "[I" ∈ GW := gw 304 (by decide +kernel) (by decide +kernel)
theorem gw_306 : Cond.laysFinal "WayMayor$State" "WayMayor$State" "total" "[I" ∈ GW := gw 306 (by decide +kernel) (by decide +kernel)
theorem gw_308 : Cond.laysFinal "WayMayor$State" "WayMayor$State" "chains" "[I" ∈ GW := gw 308 (by decide +kernel) (by decide +kernel)
theorem gw_310 : Cond.laysFinal "WayMayor$State" "WayMayor$State" "at" "[I" ∈ GW := gw 310 (by decide +kernel) (by decide +kernel)
theorem gw_312 : Cond.laysFinal "WayMayor$State" "WayMayor$State" "before" "[I" ∈ GW := gw 312 (by decide +kernel) (by decide +kernel)
theorem gw_153 : Cond.laysFinal "WayMayor$Tape" "WayMayor$Tape" "bytes" "[I" ∈ GW := gw 153 (by decide +kernel) (by decide +kernel)
theorem gw_155 : Cond.lays "WayMayor$Tape" "WayMayor$Tape" "length" "I" ∈ GW := gw 155 (by decide +kernel) (by decide +kernel)
theorem gw_157 : Cond.lays "WayMayor$Tape" "WayMayor$Tape" "kind" "I" ∈ GW := gw 157 (by decide +kernel) (by decide +kernel)
theorem gw_159 : Cond.lays "WayMayor$Tape" "WayMayor$Tape" "taken" "I" ∈ GW := gw 159 (by decide +kernel) (by decide +kernel)
theorem gw_161 : Cond.lays "WayMayor$Tape" "WayMayor$Tape" "fault" "I" ∈ GW := gw 161 (by decide +kernel) (by decide +kernel)
theorem gw_163 : Cond.lays "WayMayor$Tape" "WayMayor$Tape" "start" "I" ∈ GW := gw 163 (by decide +kernel) (by decide +kernel)
theorem gw_165 : Cond.lays "WayMayor$Tape" "WayMayor$Tape" "behind" "I" ∈ GW := gw 165 (by decide +kernel) (by decide +kernel)
theorem gw_221 : Cond.lays "WayMayor$Town" "WayMayor$Town" "places" "I" ∈ GW := gw 221 (by decide +kernel) (by decide +kernel)
theorem gw_223 : Cond.lays "WayMayor$Town" "WayMayor$Town" "term" "I" ∈ GW := gw 223 (by decide +kernel) (by decide +kernel)
theorem gw_225 : Cond.lays "WayMayor$Town" "WayMayor$Town" "people" "I" ∈ GW := gw 225 (by decide +kernel) (by decide +kernel)
theorem gw_227 : Cond.lays "WayMayor$Town" "WayMayor$Town" "strangers" "I" ∈ GW := gw 227 (by decide +kernel) (by decide +kernel)
theorem gw_229 : Cond.lays "WayMayor$Town" "WayMayor$Town" "streets" "J" ∈ GW := gw 229 (by decide +kernel) (by decide +kernel)
theorem gw_231 : Cond.lays "WayMayor$Town" "WayMayor$Town" "wrong" "I" ∈ GW := gw 231 (by decide +kernel) (by decide +kernel)
theorem gw_233 : Cond.laysFinal "WayMayor$Town" "WayMayor$Town" "place" "[I" ∈ GW := gw 233 (by decide +kernel) (by decide +kernel)
theorem gw_235 : Cond.laysFinal "WayMayor$Town" "WayMayor$Town" "kind" "[I" ∈ GW := gw 235 (by decide +kernel) (by decide +kernel)
theorem gw_237 : Cond.laysFinal "WayMayor$Town" "WayMayor$Town" "from" "[I" ∈ GW := gw 237 (by decide +kernel) (by decide +kernel)
theorem gw_239 : Cond.laysFinal "WayMayor$Town" "WayMayor$Town" "to" "[I" ∈ GW := gw 239 (by decide +kernel) (by decide +kernel)
theorem gw_241 : Cond.laysFinal "WayMayor$Town" "WayMayor$Town" "every" "[I" ∈ GW := gw 241 (by decide +kernel) (by decide +kernel)
theorem gw_436 : Cond.laysFinal "WayMayor$TownReader" "WayMayor$TownReader" "tape" "LWayMayor$Tape;" ∈ GW := gw 436 (by decide +kernel) (by decide +kernel)
theorem gw_401 : Cond.lays "WayMayor$Ways" "WayMayor$Ways" "measured" "J" ∈ GW := gw 401 (by decide +kernel) (by decide +kernel)
theorem gw_403 : Cond.laysFinal "WayMayor$Ways" "WayMayor$Ways" "far" "[I" ∈ GW := gw 403 (by decide +kernel) (by decide +kernel)
theorem gw_565 : Cond.laysFinal "WayMayor" "WayMayor" "tape" "LWayMayor$Tape;" ∈ GW := gw 565 (by decide +kernel) (by decide +kernel)
theorem gw_567 : Cond.laysFinal "WayMayor" "WayMayor" "townReader" "LWayMayor$TownReader;" ∈ GW := gw 567 (by decide +kernel) (by decide +kernel)
theorem gw_569 : Cond.laysFinal "WayMayor" "WayMayor" "ruleReader" "LWayMayor$RuleReader;" ∈ GW := gw 569 (by decide +kernel) (by decide +kernel)
theorem gw_571 : Cond.laysFinal "WayMayor" "WayMayor" "rules" "[LWayMayor$Rule;" ∈ GW := gw 571 (by decide +kernel) (by decide +kernel)
theorem gw_573 : Cond.lays "WayMayor" "WayMayor" "ruleCount" "I" ∈ GW := gw 573 (by decide +kernel) (by decide +kernel)
theorem gw_575 : Cond.lays "WayMayor" "WayMayor" "blankRule" "LWayMayor$Rule;" ∈ GW := gw 575 (by decide +kernel) (by decide +kernel)
theorem gw_577 : Cond.laysFinal "WayMayor" "WayMayor" "now" "LWayMayor$Scene;" ∈ GW := gw 577 (by decide +kernel) (by decide +kernel)
theorem gw_579 : Cond.laysFinal "WayMayor" "WayMayor" "images" "[LWayMayor$Scene;" ∈ GW := gw 579 (by decide +kernel) (by decide +kernel)
theorem gw_581 : Cond.laysFinal "WayMayor" "WayMayor" "clock" "LWayMayor$Clock;" ∈ GW := gw 581 (by decide +kernel) (by decide +kernel)
theorem gw_583 : Cond.laysFinal "WayMayor" "WayMayor" "outlook" "LWayMayor$Outlook;" ∈ GW := gw 583 (by decide +kernel) (by decide +kernel)
theorem gw_585 : Cond.laysFinal "WayMayor" "WayMayor" "history" "LWayMayor$History;" ∈ GW := gw 585 (by decide +kernel) (by decide +kernel)
theorem gw_1312 : Cond.lays "WayMayorModel" "WayMayorModel" "thrown" "I" ∈ GW := gw 1312 (by decide +kernel) (by decide +kernel)
theorem gw_1314 : Cond.laysFinal "WayMayorModel" "WayMayorModel" "scalar" "[I" ∈ GW := gw 1314 (by decide +kernel) (by decide +kernel)
theorem gw_1316 : Cond.laysFinal "WayMayorModel" "WayMayorModel" "at" "[I" ∈ GW := gw 1316 (by decide +kernel) (by decide +kernel)
theorem gw_1318 : Cond.laysFinal "WayMayorModel" "WayMayorModel" "kind" "[I" ∈ GW := gw 1318 (by decide +kernel) (by decide +kernel)
theorem gw_1320 : Cond.laysFinal "WayMayorModel" "WayMayorModel" "asks" "[I" ∈ GW := gw 1320 (by decide +kernel) (by decide +kernel)
theorem gw_1322 : Cond.laysFinal "WayMayorModel" "WayMayorModel" "askedAll" "[I" ∈ GW := gw 1322 (by decide +kernel) (by decide +kernel)
theorem gw_1324 : Cond.laysFinal "WayMayorModel" "WayMayorModel" "chains" "[I" ∈ GW := gw 1324 (by decide +kernel) (by decide +kernel)
theorem gw_1326 : Cond.laysFinal "WayMayorModel" "WayMayorModel" "where" "[I" ∈ GW := gw 1326 (by decide +kernel) (by decide +kernel)
theorem gw_1328 : Cond.laysFinal "WayMayorModel" "WayMayorModel" "knows" "[I" ∈ GW := gw 1328 (by decide +kernel) (by decide +kernel)
theorem gw_1330 : Cond.laysFinal "WayMayorModel" "WayMayorModel" "open" "[I" ∈ GW := gw 1330 (by decide +kernel) (by decide +kernel)
theorem gw_1332 : Cond.laysFinal "WayMayorModel" "WayMayorModel" "wrong" "[I" ∈ GW := gw 1332 (by decide +kernel) (by decide +kernel)
theorem gw_1334 : Cond.laysFinal "WayMayorModel" "WayMayorModel" "from" "[I" ∈ GW := gw 1334 (by decide +kernel) (by decide +kernel)
theorem gw_1336 : Cond.laysFinal "WayMayorModel" "WayMayorModel" "to" "[I" ∈ GW := gw 1336 (by decide +kernel) (by decide +kernel)
theorem gw_1338 : Cond.laysFinal "WayMayorModel" "WayMayorModel" "every" "[I" ∈ GW := gw 1338 (by decide +kernel) (by decide +kernel)
theorem gw_1340 : Cond.laysFinal "WayMayorModel" "WayMayorModel" "noteHour" "[I" ∈ GW := gw 1340 (by decide +kernel) (by decide +kernel)
theorem gw_1342 : Cond.laysFinal "WayMayorModel" "WayMayorModel" "noteWho" "[I" ∈ GW := gw 1342 (by decide +kernel) (by decide +kernel)
theorem gw_1344 : Cond.laysFinal "WayMayorModel" "WayMayorModel" "noteWhom" "[I" ∈ GW := gw 1344 (by decide +kernel) (by decide +kernel)
theorem gw_1346 : Cond.laysFinal "WayMayorModel" "WayMayorModel" "toldAt" "[I" ∈ GW := gw 1346 (by decide +kernel) (by decide +kernel)
theorem gw_1348 : Cond.laysFinal "WayMayorModel" "WayMayorModel" "toldKind" "[I" ∈ GW := gw 1348 (by decide +kernel) (by decide +kernel)
theorem gw_1350 : Cond.laysFinal "WayMayorModel" "WayMayorModel" "toldStreets" "[I" ∈ GW := gw 1350 (by decide +kernel) (by decide +kernel)
theorem gw_1352 : Cond.laysFinal "WayMayorModel" "WayMayorModel" "newScalar" "[I" ∈ GW := gw 1352 (by decide +kernel) (by decide +kernel)
theorem gw_1354 : Cond.laysFinal "WayMayorModel" "WayMayorModel" "newAt" "[I" ∈ GW := gw 1354 (by decide +kernel) (by decide +kernel)
theorem gw_1356 : Cond.laysFinal "WayMayorModel" "WayMayorModel" "newKind" "[I" ∈ GW := gw 1356 (by decide +kernel) (by decide +kernel)
theorem gw_1358 : Cond.laysFinal "WayMayorModel" "WayMayorModel" "newWrong" "[I" ∈ GW := gw 1358 (by decide +kernel) (by decide +kernel)
theorem gw_1360 : Cond.laysFinal "WayMayorModel" "WayMayorModel" "newFrom" "[I" ∈ GW := gw 1360 (by decide +kernel) (by decide +kernel)
theorem gw_1362 : Cond.laysFinal "WayMayorModel" "WayMayorModel" "newTo" "[I" ∈ GW := gw 1362 (by decide +kernel) (by decide +kernel)
theorem gw_1364 : Cond.laysFinal "WayMayorModel" "WayMayorModel" "newEvery" "[I" ∈ GW := gw 1364 (by decide +kernel) (by decide +kernel)
theorem gw_1366 : Cond.laysFinal "WayMayorModel" "WayMayorModel" "newStreets" "[I" ∈ GW := gw 1366 (by decide +kernel) (by decide +kernel)
theorem gw_1368 : Cond.lays "WayMayorModel" "WayMayorModel" "taped" "I" ∈ GW := gw 1368 (by decide +kernel) (by decide +kernel)
theorem gw_1370 : Cond.lays "WayMayorModel" "WayMayorModel" "p" "I" ∈ GW := gw 1370 (by decide +kernel) (by decide +kernel)
theorem gw_1372 : Cond.lays "WayMayorModel" "WayMayorModel" "fault" "I" ∈ GW := gw 1372 (by decide +kernel) (by decide +kernel)
theorem gw_1374 : Cond.lays "WayMayorModel" "WayMayorModel" "slot" "I" ∈ GW := gw 1374 (by decide +kernel) (by decide +kernel)
theorem gw_1376 : Cond.lays "WayMayorModel" "WayMayorModel" "rules" "I" ∈ GW := gw 1376 (by decide +kernel) (by decide +kernel)
theorem gw_1378 : Cond.lays "WayMayorModel" "WayMayorModel" "entries" "I" ∈ GW := gw 1378 (by decide +kernel) (by decide +kernel)
theorem gw_1380 : Cond.lays "WayMayorModel" "WayMayorModel" "deep" "I" ∈ GW := gw 1380 (by decide +kernel) (by decide +kernel)
theorem gw_1382 : Cond.lays "WayMayorModel" "WayMayorModel" "counted" "I" ∈ GW := gw 1382 (by decide +kernel) (by decide +kernel)
theorem gw_1384 : Cond.lays "WayMayorModel" "WayMayorModel" "opened" "I" ∈ GW := gw 1384 (by decide +kernel) (by decide +kernel)
theorem gw_1386 : Cond.lays "WayMayorModel" "WayMayorModel" "words" "I" ∈ GW := gw 1386 (by decide +kernel) (by decide +kernel)
theorem gw_1388 : Cond.laysFinal "WayMayorModel" "WayMayorModel" "tape" "[B" ∈ GW := gw 1388 (by decide +kernel) (by decide +kernel)
theorem gw_1390 : Cond.laysFinal "WayMayorModel" "WayMayorModel" "sort" "[I" ∈ GW := gw 1390 (by decide +kernel) (by decide +kernel)
theorem gw_1392 : Cond.laysFinal "WayMayorModel" "WayMayorModel" "number" "[I" ∈ GW := gw 1392 (by decide +kernel) (by decide +kernel)
theorem gw_1394 : Cond.laysFinal "WayMayorModel" "WayMayorModel" "clauses" "[I" ∈ GW := gw 1394 (by decide +kernel) (by decide +kernel)
theorem gw_1396 : Cond.laysFinal "WayMayorModel" "WayMayorModel" "sumAt" "[I" ∈ GW := gw 1396 (by decide +kernel) (by decide +kernel)
theorem gw_1398 : Cond.laysFinal "WayMayorModel" "WayMayorModel" "testAt" "[I" ∈ GW := gw 1398 (by decide +kernel) (by decide +kernel)
theorem gw_1400 : Cond.laysFinal "WayMayorModel" "WayMayorModel" "endAt" "[I" ∈ GW := gw 1400 (by decide +kernel) (by decide +kernel)
theorem gw_1402 : Cond.laysFinal "WayMayorModel" "WayMayorModel" "openAt" "[I" ∈ GW := gw 1402 (by decide +kernel) (by decide +kernel)
theorem gw_1404 : Cond.laysFinal "WayMayorModel" "WayMayorModel" "asked" "[J" ∈ GW := gw 1404 (by decide +kernel) (by decide +kernel)
theorem gw_1406 : Cond.laysFinal "WayMayorModel" "WayMayorModel" "stack" "[J" ∈ GW := gw 1406 (by decide +kernel) (by decide +kernel)
theorem gw_1408 : Cond.laysFinal "WayMayorModel" "WayMayorModel" "gone" "[I" ∈ GW := gw 1408 (by decide +kernel) (by decide +kernel)
theorem gw_1410 : Cond.laysFinal "WayMayorModel" "WayMayorModel" "past" "[I" ∈ GW := gw 1410 (by decide +kernel) (by decide +kernel)
theorem gw_1412 : Cond.laysFinal "WayMayorModel" "WayMayorModel" "pastOf" "[I" ∈ GW := gw 1412 (by decide +kernel) (by decide +kernel)
theorem gw_1414 : Cond.lays "WayMayorModel" "WayMayorModel" "pastMany" "I" ∈ GW := gw 1414 (by decide +kernel) (by decide +kernel)
theorem gw_1416 : Cond.lays "WayMayorModel" "WayMayorModel" "pastAt" "I" ∈ GW := gw 1416 (by decide +kernel) (by decide +kernel)
theorem gw_1418 : Cond.lays "WayMayorModel" "WayMayorModel" "takesBack" "Z" ∈ GW := gw 1418 (by decide +kernel) (by decide +kernel)
theorem gw_1420 : Cond.laysFinal "WayMayorModel" "WayMayorModel" "plays" "[I" ∈ GW := gw 1420 (by decide +kernel) (by decide +kernel)
theorem gw_1422 : Cond.laysFinal "WayMayorModel" "WayMayorModel" "firstHas" "[I" ∈ GW := gw 1422 (by decide +kernel) (by decide +kernel)
theorem gw_1424 : Cond.laysFinal "WayMayorModel" "WayMayorModel" "secondHas" "[I" ∈ GW := gw 1424 (by decide +kernel) (by decide +kernel)
theorem gw_1426 : Cond.laysFinal "WayMayorModel" "WayMayorModel" "lay" "[I" ∈ GW := gw 1426 (by decide +kernel) (by decide +kernel)
theorem gw_1428 : Cond.laysFinal "WayMayorModel" "WayMayorModel" "shows" "[I" ∈ GW := gw 1428 (by decide +kernel) (by decide +kernel)
theorem gw_1430 : Cond.laysFinal "WayMayorModel" "WayMayorModel" "images" "[I" ∈ GW := gw 1430 (by decide +kernel) (by decide +kernel)
theorem gw_1432 : Cond.laysFinal "WayMayorModel" "WayMayorModel" "isMade" "[Z" ∈ GW := gw 1432 (by decide +kernel) (by decide +kernel)
theorem gw_1434 : Cond.lays "WayMayorModel" "WayMayorModel" "imageAt" "I" ∈ GW := gw 1434 (by decide +kernel) (by decide +kernel)
theorem gw_1436 : Cond.lays "WayMayorModel" "WayMayorModel" "goesBack" "Z" ∈ GW := gw 1436 (by decide +kernel) (by decide +kernel)
theorem gw_168 : Cond.arrayClass .int ∈ GW := gw 168 (by decide +kernel) (by decide +kernel)
theorem gw_1439 : Cond.arrayClass .long ∈ GW := gw 1439 (by decide +kernel) (by decide +kernel)
theorem gw_803 : Cond.arrayClass .byte ∈ GW := gw 803 (by decide +kernel) (by decide +kernel)
theorem gw_1440 : Cond.arrayClass .boolean ∈ GW := gw 1440 (by decide +kernel) (by decide +kernel)
