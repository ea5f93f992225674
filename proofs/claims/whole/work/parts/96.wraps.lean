theorem kw_1074 : (Cond.classLink "BackVillageLaw" 13 "java/lang/IllegalArgumentException") ∈ GW := gw_4 (i := 218) (by decide +kernel) rfl
theorem kw_1075 : (Cond.classLink "BackVillageLaw" 15 "java/lang/UnsupportedOperationException") ∈ GW := gw_4 (i := 219) (by decide +kernel) rfl
theorem kw_1076 : (Cond.methodLink "BackVillageLaw" 7 ⟨"BackVillage", "village", "()I"⟩) ∈ GW := gw_4 (i := 220) (by decide +kernel) rfl
theorem kw_1077 : (Cond.instanceMethod ⟨"BackVillage", "village", "()I"⟩) ∈ GW := gw_4 (i := 221) (by decide +kernel) rfl
theorem kw_1078 : (Cond.selects "BackVillage" ⟨"BackVillage", "village", "()I"⟩ ⟨"BackVillage", "village", "()I"⟩) ∈ GW := gw_4 (i := 222) (by decide +kernel) rfl
theorem kw_1079 : (Cond.code ⟨"BackVillage", "village", "()I"⟩ prog_1_method_4_code 4 (some .int)) ∈ GW := gw_4 (i := 223) (by decide +kernel) rfl
theorem kw_1347 : (Cond.methodLink "BackVillageLaw" 17 ⟨"BackVillage", "law", "()I"⟩) ∈ GW := gw_6 (i := 11) (by decide +kernel) rfl
theorem kw_1348 : (Cond.instanceMethod ⟨"BackVillage", "law", "()I"⟩) ∈ GW := gw_6 (i := 12) (by decide +kernel) rfl
theorem kw_1349 : (Cond.selects "BackVillage" ⟨"BackVillage", "law", "()I"⟩ ⟨"BackVillage", "law", "()I"⟩) ∈ GW := gw_6 (i := 13) (by decide +kernel) rfl
theorem kw_1350 : (Cond.code ⟨"BackVillage", "law", "()I"⟩ prog_1_method_5_code 3 (some .int)) ∈ GW := gw_6 (i := 14) (by decide +kernel) rfl
theorem kw_1388 : (Cond.classLink "BackVillageLaw" 24 "java/lang/IndexOutOfBoundsException") ∈ GW := gw_6 (i := 52) (by decide +kernel) rfl
theorem kw_1389 : (Cond.classLink "BackVillageLaw" 26 "java/util/NoSuchElementException") ∈ GW := gw_6 (i := 53) (by decide +kernel) rfl
theorem kw_1390 : (Cond.methodLink "BackVillageLaw" 20 ⟨"BackVillage", "person", "(II)I"⟩) ∈ GW := gw_6 (i := 54) (by decide +kernel) rfl
theorem kw_1391 : (Cond.instanceMethod ⟨"BackVillage", "person", "(II)I"⟩) ∈ GW := gw_6 (i := 55) (by decide +kernel) rfl
theorem kw_1392 : (Cond.selects "BackVillage" ⟨"BackVillage", "person", "(II)I"⟩ ⟨"BackVillage", "person", "(II)I"⟩) ∈ GW := gw_6 (i := 56) (by decide +kernel) rfl
theorem kw_1393 : (Cond.code ⟨"BackVillage", "person", "(II)I"⟩ prog_1_method_7_code 3 (some .int)) ∈ GW := gw_6 (i := 57) (by decide +kernel) rfl
theorem kw_1450 : (Cond.methodLink "BackVillageLaw" 28 ⟨"BackVillage", "left", "(I)Z"⟩) ∈ GW := gw_6 (i := 114) (by decide +kernel) rfl
theorem kw_1451 : (Cond.instanceMethod ⟨"BackVillage", "left", "(I)Z"⟩) ∈ GW := gw_6 (i := 115) (by decide +kernel) rfl
theorem kw_1452 : (Cond.selects "BackVillage" ⟨"BackVillage", "left", "(I)Z"⟩ ⟨"BackVillage", "left", "(I)Z"⟩) ∈ GW := gw_6 (i := 116) (by decide +kernel) rfl
theorem kw_1453 : (Cond.code ⟨"BackVillage", "left", "(I)Z"⟩ prog_1_method_8_code 2 (some .boolean)) ∈ GW := gw_6 (i := 117) (by decide +kernel) rfl
theorem kw_1467 : (Cond.classLink "BackVillageLaw" 36 "java/lang/IllegalStateException") ∈ GW := gw_6 (i := 131) (by decide +kernel) rfl
theorem kw_1468 : (Cond.methodLink "BackVillageLaw" 32 ⟨"BackVillage", "apart", "(III)Z"⟩) ∈ GW := gw_6 (i := 132) (by decide +kernel) rfl
theorem kw_1469 : (Cond.instanceMethod ⟨"BackVillage", "apart", "(III)Z"⟩) ∈ GW := gw_6 (i := 133) (by decide +kernel) rfl
theorem kw_1470 : (Cond.selects "BackVillage" ⟨"BackVillage", "apart", "(III)Z"⟩ ⟨"BackVillage", "apart", "(III)Z"⟩) ∈ GW := gw_6 (i := 134) (by decide +kernel) rfl
theorem kw_1471 : (Cond.code ⟨"BackVillage", "apart", "(III)Z"⟩ prog_1_method_9_code 4 (some .boolean)) ∈ GW := gw_6 (i := 135) (by decide +kernel) rfl
theorem kw_1496 : (Cond.methodLink "BackVillageLaw" 38 ⟨"BackVillage", "sure", "(II)Z"⟩) ∈ GW := gw_6 (i := 160) (by decide +kernel) rfl
theorem kw_1497 : (Cond.instanceMethod ⟨"BackVillage", "sure", "(II)Z"⟩) ∈ GW := gw_6 (i := 161) (by decide +kernel) rfl
theorem kw_1498 : (Cond.selects "BackVillage" ⟨"BackVillage", "sure", "(II)Z"⟩ ⟨"BackVillage", "sure", "(II)Z"⟩) ∈ GW := gw_6 (i := 162) (by decide +kernel) rfl
theorem kw_1499 : (Cond.code ⟨"BackVillage", "sure", "(II)Z"⟩ prog_1_method_10_code 3 (some .boolean)) ∈ GW := gw_6 (i := 163) (by decide +kernel) rfl
theorem kw_1503 : (Cond.methodLink "BackVillageLaw" 42 ⟨"BackVillage", "manner", "(III)I"⟩) ∈ GW := gw_6 (i := 167) (by decide +kernel) rfl
theorem kw_1504 : (Cond.instanceMethod ⟨"BackVillage", "manner", "(III)I"⟩) ∈ GW := gw_6 (i := 168) (by decide +kernel) rfl
theorem kw_1505 : (Cond.selects "BackVillage" ⟨"BackVillage", "manner", "(III)I"⟩ ⟨"BackVillage", "manner", "(III)I"⟩) ∈ GW := gw_6 (i := 169) (by decide +kernel) rfl
theorem kw_1506 : (Cond.code ⟨"BackVillage", "manner", "(III)I"⟩ prog_1_method_11_code 4 (some .int)) ∈ GW := gw_6 (i := 170) (by decide +kernel) rfl
theorem kw_1543 : (Cond.methodLink "BackVillageLaw" 46 ⟨"BackVillage", "treat", "(IIZ)I"⟩) ∈ GW := gw_6 (i := 207) (by decide +kernel) rfl
theorem kw_1544 : (Cond.instanceMethod ⟨"BackVillage", "treat", "(IIZ)I"⟩) ∈ GW := gw_6 (i := 208) (by decide +kernel) rfl
theorem kw_1545 : (Cond.selects "BackVillage" ⟨"BackVillage", "treat", "(IIZ)I"⟩ ⟨"BackVillage", "treat", "(IIZ)I"⟩) ∈ GW := gw_6 (i := 209) (by decide +kernel) rfl
theorem kw_1546 : (Cond.code ⟨"BackVillage", "treat", "(IIZ)I"⟩ prog_1_method_12_code 4 (some .int)) ∈ GW := gw_6 (i := 210) (by decide +kernel) rfl
theorem kw_1557 : (Cond.methodLink "BackVillageLaw" 50 ⟨"BackVillage", "turn", "(II)I"⟩) ∈ GW := gw_6 (i := 221) (by decide +kernel) rfl
theorem kw_1558 : (Cond.instanceMethod ⟨"BackVillage", "turn", "(II)I"⟩) ∈ GW := gw_6 (i := 222) (by decide +kernel) rfl
theorem kw_1559 : (Cond.selects "BackVillage" ⟨"BackVillage", "turn", "(II)I"⟩ ⟨"BackVillage", "turn", "(II)I"⟩) ∈ GW := gw_6 (i := 223) (by decide +kernel) rfl
theorem kw_1560 : (Cond.code ⟨"BackVillage", "turn", "(II)I"⟩ prog_1_method_13_code 3 (some .int)) ∈ GW := gw_6 (i := 224) (by decide +kernel) rfl
theorem kw_1570 : (Cond.methodLink "BackVillageLaw" 53 ⟨"BackVillage", "ask", "(I)Z"⟩) ∈ GW := gw_6 (i := 234) (by decide +kernel) rfl
theorem kw_1571 : (Cond.instanceMethod ⟨"BackVillage", "ask", "(I)Z"⟩) ∈ GW := gw_6 (i := 235) (by decide +kernel) rfl
theorem kw_1572 : (Cond.selects "BackVillage" ⟨"BackVillage", "ask", "(I)Z"⟩ ⟨"BackVillage", "ask", "(I)Z"⟩) ∈ GW := gw_6 (i := 236) (by decide +kernel) rfl
theorem kw_1573 : (Cond.code ⟨"BackVillage", "ask", "(I)Z"⟩ prog_1_method_14_code 2 (some .boolean)) ∈ GW := gw_6 (i := 237) (by decide +kernel) rfl
theorem kw_1585 : (Cond.methodLink "BackVillageLaw" 56 ⟨"BackVillage", "read", "(I)I"⟩) ∈ GW := gw_7 (i := 9) (by decide +kernel) rfl
theorem kw_1586 : (Cond.instanceMethod ⟨"BackVillage", "read", "(I)I"⟩) ∈ GW := gw_7 (i := 10) (by decide +kernel) rfl
theorem kw_1587 : (Cond.selects "BackVillage" ⟨"BackVillage", "read", "(I)I"⟩ ⟨"BackVillage", "read", "(I)I"⟩) ∈ GW := gw_7 (i := 11) (by decide +kernel) rfl
theorem kw_1588 : (Cond.code ⟨"BackVillage", "read", "(I)I"⟩ prog_1_method_16_code 2 (some .int)) ∈ GW := gw_7 (i := 12) (by decide +kernel) rfl
theorem kw_1597 : (Cond.methodLink "BackVillageLaw" 60 ⟨"BackVillage", "claim", "(II)I"⟩) ∈ GW := gw_7 (i := 21) (by decide +kernel) rfl
theorem kw_1598 : (Cond.instanceMethod ⟨"BackVillage", "claim", "(II)I"⟩) ∈ GW := gw_7 (i := 22) (by decide +kernel) rfl
theorem kw_1599 : (Cond.selects "BackVillage" ⟨"BackVillage", "claim", "(II)I"⟩ ⟨"BackVillage", "claim", "(II)I"⟩) ∈ GW := gw_7 (i := 23) (by decide +kernel) rfl
theorem kw_1600 : (Cond.code ⟨"BackVillage", "claim", "(II)I"⟩ prog_1_method_17_code 3 (some .int)) ∈ GW := gw_7 (i := 24) (by decide +kernel) rfl
theorem kw_1626 : (Cond.methodLink "BackVillageLaw" 63 ⟨"BackVillage", "query", "(III)I"⟩) ∈ GW := gw_7 (i := 50) (by decide +kernel) rfl
theorem kw_1627 : (Cond.instanceMethod ⟨"BackVillage", "query", "(III)I"⟩) ∈ GW := gw_7 (i := 51) (by decide +kernel) rfl
theorem kw_1628 : (Cond.selects "BackVillage" ⟨"BackVillage", "query", "(III)I"⟩ ⟨"BackVillage", "query", "(III)I"⟩) ∈ GW := gw_7 (i := 52) (by decide +kernel) rfl
theorem kw_1629 : (Cond.code ⟨"BackVillage", "query", "(III)I"⟩ prog_1_method_18_code 4 (some .int)) ∈ GW := gw_7 (i := 53) (by decide +kernel) rfl
theorem kw_1641 : (Cond.methodLink "BackVillageLaw" 66 ⟨"BackVillage", "stroll", "(I)I"⟩) ∈ GW := gw_7 (i := 65) (by decide +kernel) rfl
theorem kw_1642 : (Cond.instanceMethod ⟨"BackVillage", "stroll", "(I)I"⟩) ∈ GW := gw_7 (i := 66) (by decide +kernel) rfl
theorem kw_1643 : (Cond.selects "BackVillage" ⟨"BackVillage", "stroll", "(I)I"⟩ ⟨"BackVillage", "stroll", "(I)I"⟩) ∈ GW := gw_7 (i := 67) (by decide +kernel) rfl
theorem kw_1644 : (Cond.code ⟨"BackVillage", "stroll", "(I)I"⟩ prog_1_method_19_code 2 (some .int)) ∈ GW := gw_7 (i := 68) (by decide +kernel) rfl
theorem kw_1659 : (Cond.methodLink "BackVillageLaw" 69 ⟨"BackVillage", "possible", "(II)I"⟩) ∈ GW := gw_7 (i := 83) (by decide +kernel) rfl
theorem kw_1660 : (Cond.instanceMethod ⟨"BackVillage", "possible", "(II)I"⟩) ∈ GW := gw_7 (i := 84) (by decide +kernel) rfl
theorem kw_1661 : (Cond.selects "BackVillage" ⟨"BackVillage", "possible", "(II)I"⟩ ⟨"BackVillage", "possible", "(II)I"⟩) ∈ GW := gw_7 (i := 85) (by decide +kernel) rfl
theorem kw_1662 : (Cond.code ⟨"BackVillage", "possible", "(II)I"⟩ prog_1_method_20_code 3 (some .int)) ∈ GW := gw_7 (i := 86) (by decide +kernel) rfl
theorem kw_1667 : (Cond.methodLink "BackVillageLaw" 72 ⟨"BackVillage", "knows", "(II)I"⟩) ∈ GW := gw_7 (i := 91) (by decide +kernel) rfl
theorem kw_1668 : (Cond.instanceMethod ⟨"BackVillage", "knows", "(II)I"⟩) ∈ GW := gw_7 (i := 92) (by decide +kernel) rfl
theorem kw_1669 : (Cond.selects "BackVillage" ⟨"BackVillage", "knows", "(II)I"⟩ ⟨"BackVillage", "knows", "(II)I"⟩) ∈ GW := gw_7 (i := 93) (by decide +kernel) rfl
theorem kw_1670 : (Cond.code ⟨"BackVillage", "knows", "(II)I"⟩ prog_1_method_21_code 3 (some .int)) ∈ GW := gw_7 (i := 94) (by decide +kernel) rfl
theorem kw_1675 : (Cond.methodLink "BackVillageLaw" 75 ⟨"BackVillage", "thinks", "(III)Z"⟩) ∈ GW := gw_7 (i := 99) (by decide +kernel) rfl
theorem kw_1676 : (Cond.instanceMethod ⟨"BackVillage", "thinks", "(III)Z"⟩) ∈ GW := gw_7 (i := 100) (by decide +kernel) rfl
theorem kw_1677 : (Cond.selects "BackVillage" ⟨"BackVillage", "thinks", "(III)Z"⟩ ⟨"BackVillage", "thinks", "(III)Z"⟩) ∈ GW := gw_7 (i := 101) (by decide +kernel) rfl
theorem kw_1678 : (Cond.code ⟨"BackVillage", "thinks", "(III)Z"⟩ prog_1_method_22_code 4 (some .boolean)) ∈ GW := gw_7 (i := 102) (by decide +kernel) rfl
theorem kw_1686 : (Cond.methodLink "BackVillageLaw" 78 ⟨"BackVillage", "common", "(I)I"⟩) ∈ GW := gw_7 (i := 110) (by decide +kernel) rfl
theorem kw_1687 : (Cond.instanceMethod ⟨"BackVillage", "common", "(I)I"⟩) ∈ GW := gw_7 (i := 111) (by decide +kernel) rfl
theorem kw_1688 : (Cond.selects "BackVillage" ⟨"BackVillage", "common", "(I)I"⟩ ⟨"BackVillage", "common", "(I)I"⟩) ∈ GW := gw_7 (i := 112) (by decide +kernel) rfl
theorem kw_1689 : (Cond.code ⟨"BackVillage", "common", "(I)I"⟩ prog_1_method_23_code 2 (some .int)) ∈ GW := gw_7 (i := 113) (by decide +kernel) rfl
theorem kw_1701 : (Cond.methodLink "BackVillageLaw" 81 ⟨"BackVillage", "muddy", "(I)I"⟩) ∈ GW := gw_7 (i := 125) (by decide +kernel) rfl
theorem kw_1702 : (Cond.instanceMethod ⟨"BackVillage", "muddy", "(I)I"⟩) ∈ GW := gw_7 (i := 126) (by decide +kernel) rfl
theorem kw_1703 : (Cond.selects "BackVillage" ⟨"BackVillage", "muddy", "(I)I"⟩ ⟨"BackVillage", "muddy", "(I)I"⟩) ∈ GW := gw_7 (i := 127) (by decide +kernel) rfl
theorem kw_1704 : (Cond.code ⟨"BackVillage", "muddy", "(I)I"⟩ prog_1_method_24_code 2 (some .int)) ∈ GW := gw_7 (i := 128) (by decide +kernel) rfl
theorem kw_1720 : (Cond.methodLink "BackVillageLaw" 84 ⟨"BackVillage", "backs", "(I)I"⟩) ∈ GW := gw_7 (i := 144) (by decide +kernel) rfl
theorem kw_1721 : (Cond.instanceMethod ⟨"BackVillage", "backs", "(I)I"⟩) ∈ GW := gw_7 (i := 145) (by decide +kernel) rfl
theorem kw_1722 : (Cond.selects "BackVillage" ⟨"BackVillage", "backs", "(I)I"⟩ ⟨"BackVillage", "backs", "(I)I"⟩) ∈ GW := gw_7 (i := 146) (by decide +kernel) rfl
theorem kw_1723 : (Cond.code ⟨"BackVillage", "backs", "(I)I"⟩ prog_1_method_25_code 2 (some .int)) ∈ GW := gw_7 (i := 147) (by decide +kernel) rfl
theorem kw_1749 : (Cond.methodLink "BackVillageLaw" 87 ⟨"BackVillage", "gives", "(I)I"⟩) ∈ GW := gw_7 (i := 173) (by decide +kernel) rfl
theorem kw_1750 : (Cond.instanceMethod ⟨"BackVillage", "gives", "(I)I"⟩) ∈ GW := gw_7 (i := 174) (by decide +kernel) rfl
theorem kw_1751 : (Cond.selects "BackVillage" ⟨"BackVillage", "gives", "(I)I"⟩ ⟨"BackVillage", "gives", "(I)I"⟩) ∈ GW := gw_7 (i := 175) (by decide +kernel) rfl
theorem kw_1752 : (Cond.code ⟨"BackVillage", "gives", "(I)I"⟩ prog_1_method_26_code 2 (some .int)) ∈ GW := gw_7 (i := 176) (by decide +kernel) rfl
theorem kw_1769 : (Cond.methodLink "BackVillageLaw" 90 ⟨"BackVillage", "never", "(I)I"⟩) ∈ GW := gw_7 (i := 193) (by decide +kernel) rfl
theorem kw_1770 : (Cond.instanceMethod ⟨"BackVillage", "never", "(I)I"⟩) ∈ GW := gw_7 (i := 194) (by decide +kernel) rfl
theorem kw_1771 : (Cond.selects "BackVillage" ⟨"BackVillage", "never", "(I)I"⟩ ⟨"BackVillage", "never", "(I)I"⟩) ∈ GW := gw_7 (i := 195) (by decide +kernel) rfl
theorem kw_1772 : (Cond.code ⟨"BackVillage", "never", "(I)I"⟩ prog_1_method_27_code 2 (some .int)) ∈ GW := gw_7 (i := 196) (by decide +kernel) rfl
theorem kw_1784 : (Cond.methodLink "BackVillageLaw" 93 ⟨"BackVillage", "question", "(I)I"⟩) ∈ GW := gw_7 (i := 208) (by decide +kernel) rfl
theorem kw_1785 : (Cond.instanceMethod ⟨"BackVillage", "question", "(I)I"⟩) ∈ GW := gw_7 (i := 209) (by decide +kernel) rfl
theorem kw_1786 : (Cond.selects "BackVillage" ⟨"BackVillage", "question", "(I)I"⟩ ⟨"BackVillage", "question", "(I)I"⟩) ∈ GW := gw_7 (i := 210) (by decide +kernel) rfl
theorem kw_1787 : (Cond.code ⟨"BackVillage", "question", "(I)I"⟩ prog_1_method_28_code 2 (some .int)) ∈ GW := gw_7 (i := 211) (by decide +kernel) rfl
theorem kw_1802 : (Cond.methodLink "BackVillageLaw" 96 ⟨"BackVillage", "queries", "(I)I"⟩) ∈ GW := gw_7 (i := 226) (by decide +kernel) rfl
theorem kw_1803 : (Cond.instanceMethod ⟨"BackVillage", "queries", "(I)I"⟩) ∈ GW := gw_7 (i := 227) (by decide +kernel) rfl
theorem kw_1804 : (Cond.selects "BackVillage" ⟨"BackVillage", "queries", "(I)I"⟩ ⟨"BackVillage", "queries", "(I)I"⟩) ∈ GW := gw_7 (i := 228) (by decide +kernel) rfl
theorem kw_1805 : (Cond.code ⟨"BackVillage", "queries", "(I)I"⟩ prog_1_method_29_code 2 (some .int)) ∈ GW := gw_7 (i := 229) (by decide +kernel) rfl
theorem kw_1819 : (Cond.methodLink "BackVillageLaw" 99 ⟨"BackVillage", "spill", "(I)I"⟩) ∈ GW := gw_8 (i := 3) (by decide +kernel) rfl
theorem kw_1820 : (Cond.instanceMethod ⟨"BackVillage", "spill", "(I)I"⟩) ∈ GW := gw_8 (i := 4) (by decide +kernel) rfl
theorem kw_1821 : (Cond.selects "BackVillage" ⟨"BackVillage", "spill", "(I)I"⟩ ⟨"BackVillage", "spill", "(I)I"⟩) ∈ GW := gw_8 (i := 5) (by decide +kernel) rfl
theorem kw_1822 : (Cond.code ⟨"BackVillage", "spill", "(I)I"⟩ prog_1_method_30_code 2 (some .int)) ∈ GW := gw_8 (i := 6) (by decide +kernel) rfl
theorem kw_1826 : (Cond.methodLink "BackVillageLaw" 102 ⟨"BackVillage", "game", "(IZ)I"⟩) ∈ GW := gw_8 (i := 10) (by decide +kernel) rfl
theorem kw_1827 : (Cond.instanceMethod ⟨"BackVillage", "game", "(IZ)I"⟩) ∈ GW := gw_8 (i := 11) (by decide +kernel) rfl
theorem kw_1828 : (Cond.selects "BackVillage" ⟨"BackVillage", "game", "(IZ)I"⟩ ⟨"BackVillage", "game", "(IZ)I"⟩) ∈ GW := gw_8 (i := 12) (by decide +kernel) rfl
theorem kw_1829 : (Cond.code ⟨"BackVillage", "game", "(IZ)I"⟩ prog_1_method_32_code 3 (some .int)) ∈ GW := gw_8 (i := 13) (by decide +kernel) rfl
theorem kw_1841 : (Cond.methodLink "BackVillageLaw" 106 ⟨"BackVillage", "steps", "(II)I"⟩) ∈ GW := gw_8 (i := 25) (by decide +kernel) rfl
theorem kw_1842 : (Cond.instanceMethod ⟨"BackVillage", "steps", "(II)I"⟩) ∈ GW := gw_8 (i := 26) (by decide +kernel) rfl
theorem kw_1843 : (Cond.selects "BackVillage" ⟨"BackVillage", "steps", "(II)I"⟩ ⟨"BackVillage", "steps", "(II)I"⟩) ∈ GW := gw_8 (i := 27) (by decide +kernel) rfl
theorem kw_1844 : (Cond.code ⟨"BackVillage", "steps", "(II)I"⟩ prog_1_method_33_code 3 (some .int)) ∈ GW := gw_8 (i := 28) (by decide +kernel) rfl
theorem kw_1852 : (Cond.methodLink "BackVillageLaw" 109 ⟨"BackVillage", "trial", "(I)I"⟩) ∈ GW := gw_8 (i := 36) (by decide +kernel) rfl
theorem kw_1853 : (Cond.instanceMethod ⟨"BackVillage", "trial", "(I)I"⟩) ∈ GW := gw_8 (i := 37) (by decide +kernel) rfl
theorem kw_1854 : (Cond.selects "BackVillage" ⟨"BackVillage", "trial", "(I)I"⟩ ⟨"BackVillage", "trial", "(I)I"⟩) ∈ GW := gw_8 (i := 38) (by decide +kernel) rfl
theorem kw_1855 : (Cond.code ⟨"BackVillage", "trial", "(I)I"⟩ prog_1_method_34_code 2 (some .int)) ∈ GW := gw_8 (i := 39) (by decide +kernel) rfl
theorem kw_1863 : (Cond.methodLink "BackVillageLaw" 112 ⟨"BackVillage", "span", "(IZ)I"⟩) ∈ GW := gw_8 (i := 47) (by decide +kernel) rfl
theorem kw_1864 : (Cond.instanceMethod ⟨"BackVillage", "span", "(IZ)I"⟩) ∈ GW := gw_8 (i := 48) (by decide +kernel) rfl
theorem kw_1865 : (Cond.selects "BackVillage" ⟨"BackVillage", "span", "(IZ)I"⟩ ⟨"BackVillage", "span", "(IZ)I"⟩) ∈ GW := gw_8 (i := 49) (by decide +kernel) rfl
theorem kw_1866 : (Cond.code ⟨"BackVillage", "span", "(IZ)I"⟩ prog_1_method_35_code 6 (some .int)) ∈ GW := gw_8 (i := 50) (by decide +kernel) rfl
theorem kw_1872 : (Cond.methodLink "BackVillageLaw" 115 ⟨"BackVillage", "nth", "(II)I"⟩) ∈ GW := gw_8 (i := 56) (by decide +kernel) rfl
theorem kw_1873 : (Cond.instanceMethod ⟨"BackVillage", "nth", "(II)I"⟩) ∈ GW := gw_8 (i := 57) (by decide +kernel) rfl
theorem kw_1874 : (Cond.selects "BackVillage" ⟨"BackVillage", "nth", "(II)I"⟩ ⟨"BackVillage", "nth", "(II)I"⟩) ∈ GW := gw_8 (i := 58) (by decide +kernel) rfl
theorem kw_1875 : (Cond.code ⟨"BackVillage", "nth", "(II)I"⟩ prog_1_method_36_code 3 (some .int)) ∈ GW := gw_8 (i := 59) (by decide +kernel) rfl
theorem kw_1883 : (Cond.methodLink "BackVillageLaw" 118 ⟨"BackVillage", "guess", "(I)I"⟩) ∈ GW := gw_8 (i := 67) (by decide +kernel) rfl
theorem kw_1884 : (Cond.instanceMethod ⟨"BackVillage", "guess", "(I)I"⟩) ∈ GW := gw_8 (i := 68) (by decide +kernel) rfl
theorem kw_1885 : (Cond.selects "BackVillage" ⟨"BackVillage", "guess", "(I)I"⟩ ⟨"BackVillage", "guess", "(I)I"⟩) ∈ GW := gw_8 (i := 69) (by decide +kernel) rfl
theorem kw_1886 : (Cond.code ⟨"BackVillage", "guess", "(I)I"⟩ prog_1_method_37_code 2 (some .int)) ∈ GW := gw_8 (i := 70) (by decide +kernel) rfl
theorem kw_1902 : (Cond.methodLink "BackVillageLaw" 121 ⟨"BackVillage", "right", "(I)I"⟩) ∈ GW := gw_8 (i := 86) (by decide +kernel) rfl
theorem kw_1903 : (Cond.instanceMethod ⟨"BackVillage", "right", "(I)I"⟩) ∈ GW := gw_8 (i := 87) (by decide +kernel) rfl
theorem kw_1904 : (Cond.selects "BackVillage" ⟨"BackVillage", "right", "(I)I"⟩ ⟨"BackVillage", "right", "(I)I"⟩) ∈ GW := gw_8 (i := 88) (by decide +kernel) rfl
theorem kw_1905 : (Cond.code ⟨"BackVillage", "right", "(I)I"⟩ prog_1_method_38_code 2 (some .int)) ∈ GW := gw_8 (i := 89) (by decide +kernel) rfl
theorem kw_1917 : (Cond.methodLink "BackVillageLaw" 124 ⟨"BackVillage", "rows", "(I)I"⟩) ∈ GW := gw_8 (i := 101) (by decide +kernel) rfl
theorem kw_1918 : (Cond.instanceMethod ⟨"BackVillage", "rows", "(I)I"⟩) ∈ GW := gw_8 (i := 102) (by decide +kernel) rfl
theorem kw_1919 : (Cond.selects "BackVillage" ⟨"BackVillage", "rows", "(I)I"⟩ ⟨"BackVillage", "rows", "(I)I"⟩) ∈ GW := gw_8 (i := 103) (by decide +kernel) rfl
theorem kw_1920 : (Cond.code ⟨"BackVillage", "rows", "(I)I"⟩ prog_1_method_39_code 3 (some .int)) ∈ GW := gw_8 (i := 104) (by decide +kernel) rfl
theorem kw_1953 : (Cond.methodLink "BackVillageLaw" 127 ⟨"BackVillage", "liars", "(IZ)I"⟩) ∈ GW := gw_8 (i := 137) (by decide +kernel) rfl
theorem kw_1954 : (Cond.instanceMethod ⟨"BackVillage", "liars", "(IZ)I"⟩) ∈ GW := gw_8 (i := 138) (by decide +kernel) rfl
theorem kw_1955 : (Cond.selects "BackVillage" ⟨"BackVillage", "liars", "(IZ)I"⟩ ⟨"BackVillage", "liars", "(IZ)I"⟩) ∈ GW := gw_8 (i := 139) (by decide +kernel) rfl
theorem kw_1956 : (Cond.code ⟨"BackVillage", "liars", "(IZ)I"⟩ prog_1_method_40_code 4 (some .int)) ∈ GW := gw_8 (i := 140) (by decide +kernel) rfl
theorem kw_1974 : (Cond.methodLink "BackVillageLaw" 130 ⟨"BackVillage", "married", "(I)I"⟩) ∈ GW := gw_8 (i := 158) (by decide +kernel) rfl
theorem kw_1975 : (Cond.instanceMethod ⟨"BackVillage", "married", "(I)I"⟩) ∈ GW := gw_8 (i := 159) (by decide +kernel) rfl
theorem kw_1976 : (Cond.selects "BackVillage" ⟨"BackVillage", "married", "(I)I"⟩ ⟨"BackVillage", "married", "(I)I"⟩) ∈ GW := gw_8 (i := 160) (by decide +kernel) rfl
theorem kw_1977 : (Cond.code ⟨"BackVillage", "married", "(I)I"⟩ prog_1_method_41_code 2 (some .int)) ∈ GW := gw_8 (i := 161) (by decide +kernel) rfl
theorem kw_2000 : (Cond.methodLink "BackVillageLaw" 133 ⟨"BackVillage", "led", "(I)I"⟩) ∈ GW := gw_8 (i := 184) (by decide +kernel) rfl
theorem kw_2001 : (Cond.instanceMethod ⟨"BackVillage", "led", "(I)I"⟩) ∈ GW := gw_8 (i := 185) (by decide +kernel) rfl
theorem kw_2002 : (Cond.selects "BackVillage" ⟨"BackVillage", "led", "(I)I"⟩ ⟨"BackVillage", "led", "(I)I"⟩) ∈ GW := gw_8 (i := 186) (by decide +kernel) rfl
theorem kw_2003 : (Cond.code ⟨"BackVillage", "led", "(I)I"⟩ prog_1_method_42_code 4 (some .int)) ∈ GW := gw_8 (i := 187) (by decide +kernel) rfl
theorem kw_2011 : (Cond.methodLink "BackVillageLaw" 136 ⟨"BackVillage", "log", "(II)I"⟩) ∈ GW := gw_8 (i := 195) (by decide +kernel) rfl
theorem kw_2012 : (Cond.instanceMethod ⟨"BackVillage", "log", "(II)I"⟩) ∈ GW := gw_8 (i := 196) (by decide +kernel) rfl
theorem kw_2013 : (Cond.selects "BackVillage" ⟨"BackVillage", "log", "(II)I"⟩ ⟨"BackVillage", "log", "(II)I"⟩) ∈ GW := gw_8 (i := 197) (by decide +kernel) rfl
theorem kw_2014 : (Cond.code ⟨"BackVillage", "log", "(II)I"⟩ prog_1_method_45_code 3 (some .int)) ∈ GW := gw_8 (i := 198) (by decide +kernel) rfl
theorem dL_village_0 : decode cL_village 0 = .ok (.aload_n 1, 1) := by decide +kernel
theorem dL_village_1 : decode cL_village 1 = .ok (.iconst 0, 1) := by decide +kernel
theorem dL_village_2 : decode cL_village 2 = .ok (.aload_n 0, 1) := by decide +kernel
theorem dL_village_3 : decode cL_village 3 = .ok (.invokevirtual 7, 3) := by decide +kernel
theorem dL_village_6 : decode cL_village 6 = .ok (.i2l, 1) := by decide +kernel
theorem dL_village_7 : decode cL_village 7 = .ok (.lastore, 1) := by decide +kernel
theorem dL_village_8 : decode cL_village 8 = .ok (.goto 9, 3) := by decide +kernel
theorem dL_village_17 : decode cL_village 17 = .ok (.iconst 0, 1) := by decide +kernel
theorem dL_village_18 : decode cL_village 18 = .ok (.ireturn, 1) := by decide +kernel
theorem dL_village_11 : decode cL_village 11 = .ok (.astore_n 2, 1) := by decide +kernel
theorem dL_village_12 : decode cL_village 12 = .ok (.iconst 1, 1) := by decide +kernel
theorem dL_village_13 : decode cL_village 13 = .ok (.ireturn, 1) := by decide +kernel
theorem dL_village_14 : decode cL_village 14 = .ok (.astore_n 2, 1) := by decide +kernel
theorem dL_village_15 : decode cL_village 15 = .ok (.iconst 2, 1) := by decide +kernel
theorem dL_village_16 : decode cL_village 16 = .ok (.ireturn, 1) := by decide +kernel
theorem dL_law_0 : decode cL_law 0 = .ok (.aload_n 1, 1) := by decide +kernel
theorem dL_law_1 : decode cL_law 1 = .ok (.iconst 0, 1) := by decide +kernel
theorem dL_law_2 : decode cL_law 2 = .ok (.aload_n 0, 1) := by decide +kernel
theorem dL_law_3 : decode cL_law 3 = .ok (.invokevirtual 17, 3) := by decide +kernel
theorem dL_law_6 : decode cL_law 6 = .ok (.i2l, 1) := by decide +kernel
theorem dL_law_7 : decode cL_law 7 = .ok (.lastore, 1) := by decide +kernel
theorem dL_law_8 : decode cL_law 8 = .ok (.goto 6, 3) := by decide +kernel
theorem dL_law_14 : decode cL_law 14 = .ok (.iconst 0, 1) := by decide +kernel
theorem dL_law_15 : decode cL_law 15 = .ok (.ireturn, 1) := by decide +kernel
theorem dL_law_11 : decode cL_law 11 = .ok (.astore_n 2, 1) := by decide +kernel
theorem dL_law_12 : decode cL_law 12 = .ok (.iconst 1, 1) := by decide +kernel
theorem dL_law_13 : decode cL_law 13 = .ok (.ireturn, 1) := by decide +kernel
theorem dL_person_0 : decode cL_person 0 = .ok (.aload_n 3, 1) := by decide +kernel
theorem dL_person_1 : decode cL_person 1 = .ok (.iconst 0, 1) := by decide +kernel
theorem dL_person_2 : decode cL_person 2 = .ok (.aload_n 0, 1) := by decide +kernel
theorem dL_person_3 : decode cL_person 3 = .ok (.iload_n 1, 1) := by decide +kernel
theorem dL_person_4 : decode cL_person 4 = .ok (.iload_n 2, 1) := by decide +kernel
theorem dL_person_5 : decode cL_person 5 = .ok (.invokevirtual 20, 3) := by decide +kernel
theorem dL_person_8 : decode cL_person 8 = .ok (.i2l, 1) := by decide +kernel
theorem dL_person_9 : decode cL_person 9 = .ok (.lastore, 1) := by decide +kernel
theorem dL_person_10 : decode cL_person 10 = .ok (.goto 11, 3) := by decide +kernel
theorem dL_person_21 : decode cL_person 21 = .ok (.iconst 0, 1) := by decide +kernel
theorem dL_person_22 : decode cL_person 22 = .ok (.ireturn, 1) := by decide +kernel
theorem dL_person_13 : decode cL_person 13 = .ok (.astore 4, 2) := by decide +kernel
theorem dL_person_15 : decode cL_person 15 = .ok (.iconst 1, 1) := by decide +kernel
theorem dL_person_16 : decode cL_person 16 = .ok (.ireturn, 1) := by decide +kernel
theorem dL_person_17 : decode cL_person 17 = .ok (.astore 4, 2) := by decide +kernel
theorem dL_person_19 : decode cL_person 19 = .ok (.iconst 2, 1) := by decide +kernel
theorem dL_person_20 : decode cL_person 20 = .ok (.ireturn, 1) := by decide +kernel
theorem dL_left_0 : decode cL_left 0 = .ok (.aload_n 2, 1) := by decide +kernel
theorem dL_left_1 : decode cL_left 1 = .ok (.iconst 0, 1) := by decide +kernel
theorem dL_left_2 : decode cL_left 2 = .ok (.aload_n 0, 1) := by decide +kernel
theorem dL_left_3 : decode cL_left 3 = .ok (.iload_n 1, 1) := by decide +kernel
theorem dL_left_4 : decode cL_left 4 = .ok (.invokevirtual 28, 3) := by decide +kernel
theorem dL_left_7 : decode cL_left 7 = .ok (.ifCond .eq 7, 3) := by decide +kernel
theorem dL_left_14 : decode cL_left 14 = .ok (.lconst 0, 1) := by decide +kernel
theorem dL_left_15 : decode cL_left 15 = .ok (.lastore, 1) := by decide +kernel
theorem dL_left_16 : decode cL_left 16 = .ok (.goto 6, 3) := by decide +kernel
theorem dL_left_22 : decode cL_left 22 = .ok (.iconst 0, 1) := by decide +kernel
theorem dL_left_23 : decode cL_left 23 = .ok (.ireturn, 1) := by decide +kernel
theorem dL_left_10 : decode cL_left 10 = .ok (.lconst 1, 1) := by decide +kernel
theorem dL_left_11 : decode cL_left 11 = .ok (.goto 4, 3) := by decide +kernel
theorem dL_left_19 : decode cL_left 19 = .ok (.astore_n 3, 1) := by decide +kernel
theorem dL_left_20 : decode cL_left 20 = .ok (.iconst 1, 1) := by decide +kernel
theorem dL_left_21 : decode cL_left 21 = .ok (.ireturn, 1) := by decide +kernel
theorem dL_apart_0 : decode cL_apart 0 = .ok (.aload 4, 2) := by decide +kernel
theorem dL_apart_2 : decode cL_apart 2 = .ok (.iconst 0, 1) := by decide +kernel
theorem dL_apart_3 : decode cL_apart 3 = .ok (.aload_n 0, 1) := by decide +kernel
theorem dL_apart_4 : decode cL_apart 4 = .ok (.iload_n 1, 1) := by decide +kernel
theorem dL_apart_5 : decode cL_apart 5 = .ok (.iload_n 2, 1) := by decide +kernel
theorem dL_apart_6 : decode cL_apart 6 = .ok (.iload_n 3, 1) := by decide +kernel
theorem dL_apart_7 : decode cL_apart 7 = .ok (.invokevirtual 32, 3) := by decide +kernel
theorem dL_apart_10 : decode cL_apart 10 = .ok (.ifCond .eq 7, 3) := by decide +kernel
theorem dL_apart_17 : decode cL_apart 17 = .ok (.lconst 0, 1) := by decide +kernel
theorem dL_apart_18 : decode cL_apart 18 = .ok (.lastore, 1) := by decide +kernel
theorem dL_apart_19 : decode cL_apart 19 = .ok (.goto 11, 3) := by decide +kernel
theorem dL_apart_30 : decode cL_apart 30 = .ok (.iconst 0, 1) := by decide +kernel
theorem dL_apart_31 : decode cL_apart 31 = .ok (.ireturn, 1) := by decide +kernel
theorem dL_apart_13 : decode cL_apart 13 = .ok (.lconst 1, 1) := by decide +kernel
theorem dL_apart_14 : decode cL_apart 14 = .ok (.goto 4, 3) := by decide +kernel
theorem dL_apart_22 : decode cL_apart 22 = .ok (.astore 5, 2) := by decide +kernel
theorem dL_apart_24 : decode cL_apart 24 = .ok (.iconst 1, 1) := by decide +kernel
theorem dL_apart_25 : decode cL_apart 25 = .ok (.ireturn, 1) := by decide +kernel
theorem dL_apart_26 : decode cL_apart 26 = .ok (.astore 5, 2) := by decide +kernel
theorem dL_apart_28 : decode cL_apart 28 = .ok (.iconst 2, 1) := by decide +kernel
theorem dL_apart_29 : decode cL_apart 29 = .ok (.ireturn, 1) := by decide +kernel
theorem dL_sure_0 : decode cL_sure 0 = .ok (.aload_n 3, 1) := by decide +kernel
theorem dL_sure_1 : decode cL_sure 1 = .ok (.iconst 0, 1) := by decide +kernel
theorem dL_sure_2 : decode cL_sure 2 = .ok (.aload_n 0, 1) := by decide +kernel
theorem dL_sure_3 : decode cL_sure 3 = .ok (.iload_n 1, 1) := by decide +kernel
theorem dL_sure_4 : decode cL_sure 4 = .ok (.iload_n 2, 1) := by decide +kernel
theorem dL_sure_5 : decode cL_sure 5 = .ok (.invokevirtual 38, 3) := by decide +kernel
theorem dL_sure_8 : decode cL_sure 8 = .ok (.ifCond .eq 7, 3) := by decide +kernel
theorem dL_sure_15 : decode cL_sure 15 = .ok (.lconst 0, 1) := by decide +kernel
theorem dL_sure_16 : decode cL_sure 16 = .ok (.lastore, 1) := by decide +kernel
theorem dL_sure_17 : decode cL_sure 17 = .ok (.goto 11, 3) := by decide +kernel
theorem dL_sure_28 : decode cL_sure 28 = .ok (.iconst 0, 1) := by decide +kernel
theorem dL_sure_29 : decode cL_sure 29 = .ok (.ireturn, 1) := by decide +kernel
theorem dL_sure_11 : decode cL_sure 11 = .ok (.lconst 1, 1) := by decide +kernel
theorem dL_sure_12 : decode cL_sure 12 = .ok (.goto 4, 3) := by decide +kernel
theorem dL_sure_20 : decode cL_sure 20 = .ok (.astore 4, 2) := by decide +kernel
theorem dL_sure_22 : decode cL_sure 22 = .ok (.iconst 1, 1) := by decide +kernel
theorem dL_sure_23 : decode cL_sure 23 = .ok (.ireturn, 1) := by decide +kernel
theorem dL_sure_24 : decode cL_sure 24 = .ok (.astore 4, 2) := by decide +kernel
theorem dL_sure_26 : decode cL_sure 26 = .ok (.iconst 2, 1) := by decide +kernel
theorem dL_sure_27 : decode cL_sure 27 = .ok (.ireturn, 1) := by decide +kernel
theorem dL_manner_0 : decode cL_manner 0 = .ok (.aload 4, 2) := by decide +kernel
theorem dL_manner_2 : decode cL_manner 2 = .ok (.iconst 0, 1) := by decide +kernel
theorem dL_manner_3 : decode cL_manner 3 = .ok (.aload_n 0, 1) := by decide +kernel
theorem dL_manner_4 : decode cL_manner 4 = .ok (.iload_n 1, 1) := by decide +kernel
theorem dL_manner_5 : decode cL_manner 5 = .ok (.iload_n 2, 1) := by decide +kernel
theorem dL_manner_6 : decode cL_manner 6 = .ok (.iload_n 3, 1) := by decide +kernel
theorem dL_manner_7 : decode cL_manner 7 = .ok (.invokevirtual 42, 3) := by decide +kernel
theorem dL_manner_10 : decode cL_manner 10 = .ok (.i2l, 1) := by decide +kernel
theorem dL_manner_11 : decode cL_manner 11 = .ok (.lastore, 1) := by decide +kernel
theorem dL_manner_12 : decode cL_manner 12 = .ok (.goto 15, 3) := by decide +kernel
theorem dL_manner_27 : decode cL_manner 27 = .ok (.iconst 0, 1) := by decide +kernel
theorem dL_manner_28 : decode cL_manner 28 = .ok (.ireturn, 1) := by decide +kernel
theorem dL_manner_15 : decode cL_manner 15 = .ok (.astore 5, 2) := by decide +kernel
theorem dL_manner_17 : decode cL_manner 17 = .ok (.iconst 1, 1) := by decide +kernel
theorem dL_manner_18 : decode cL_manner 18 = .ok (.ireturn, 1) := by decide +kernel
theorem dL_manner_19 : decode cL_manner 19 = .ok (.astore 5, 2) := by decide +kernel
theorem dL_manner_21 : decode cL_manner 21 = .ok (.iconst 2, 1) := by decide +kernel
theorem dL_manner_22 : decode cL_manner 22 = .ok (.ireturn, 1) := by decide +kernel
theorem dL_manner_23 : decode cL_manner 23 = .ok (.astore 5, 2) := by decide +kernel
theorem dL_manner_25 : decode cL_manner 25 = .ok (.iconst 3, 1) := by decide +kernel
theorem dL_manner_26 : decode cL_manner 26 = .ok (.ireturn, 1) := by decide +kernel
theorem dL_treat_0 : decode cL_treat 0 = .ok (.aload 4, 2) := by decide +kernel
theorem dL_treat_2 : decode cL_treat 2 = .ok (.iconst 0, 1) := by decide +kernel
theorem dL_treat_3 : decode cL_treat 3 = .ok (.aload_n 0, 1) := by decide +kernel
theorem dL_treat_4 : decode cL_treat 4 = .ok (.iload_n 1, 1) := by decide +kernel
theorem dL_treat_5 : decode cL_treat 5 = .ok (.iload_n 2, 1) := by decide +kernel
theorem dL_treat_6 : decode cL_treat 6 = .ok (.iload_n 3, 1) := by decide +kernel
theorem dL_treat_7 : decode cL_treat 7 = .ok (.invokevirtual 46, 3) := by decide +kernel
theorem dL_treat_10 : decode cL_treat 10 = .ok (.i2l, 1) := by decide +kernel
theorem dL_treat_11 : decode cL_treat 11 = .ok (.lastore, 1) := by decide +kernel
theorem dL_treat_12 : decode cL_treat 12 = .ok (.goto 15, 3) := by decide +kernel
theorem dL_treat_27 : decode cL_treat 27 = .ok (.iconst 0, 1) := by decide +kernel
theorem dL_treat_28 : decode cL_treat 28 = .ok (.ireturn, 1) := by decide +kernel
theorem dL_treat_15 : decode cL_treat 15 = .ok (.astore 5, 2) := by decide +kernel
theorem dL_treat_17 : decode cL_treat 17 = .ok (.iconst 1, 1) := by decide +kernel
theorem dL_treat_18 : decode cL_treat 18 = .ok (.ireturn, 1) := by decide +kernel
theorem dL_treat_19 : decode cL_treat 19 = .ok (.astore 5, 2) := by decide +kernel
theorem dL_treat_21 : decode cL_treat 21 = .ok (.iconst 2, 1) := by decide +kernel
theorem dL_treat_22 : decode cL_treat 22 = .ok (.ireturn, 1) := by decide +kernel
theorem dL_treat_23 : decode cL_treat 23 = .ok (.astore 5, 2) := by decide +kernel
theorem dL_treat_25 : decode cL_treat 25 = .ok (.iconst 3, 1) := by decide +kernel
theorem dL_treat_26 : decode cL_treat 26 = .ok (.ireturn, 1) := by decide +kernel
theorem dL_turn_0 : decode cL_turn 0 = .ok (.aload_n 3, 1) := by decide +kernel
theorem dL_turn_1 : decode cL_turn 1 = .ok (.iconst 0, 1) := by decide +kernel
theorem dL_turn_2 : decode cL_turn 2 = .ok (.aload_n 0, 1) := by decide +kernel
theorem dL_turn_3 : decode cL_turn 3 = .ok (.iload_n 1, 1) := by decide +kernel
theorem dL_turn_4 : decode cL_turn 4 = .ok (.iload_n 2, 1) := by decide +kernel
theorem dL_turn_5 : decode cL_turn 5 = .ok (.invokevirtual 50, 3) := by decide +kernel
theorem dL_turn_8 : decode cL_turn 8 = .ok (.i2l, 1) := by decide +kernel
theorem dL_turn_9 : decode cL_turn 9 = .ok (.lastore, 1) := by decide +kernel
theorem dL_turn_10 : decode cL_turn 10 = .ok (.goto 7, 3) := by decide +kernel
theorem dL_turn_17 : decode cL_turn 17 = .ok (.iconst 0, 1) := by decide +kernel
theorem dL_turn_18 : decode cL_turn 18 = .ok (.ireturn, 1) := by decide +kernel
theorem dL_turn_13 : decode cL_turn 13 = .ok (.astore 4, 2) := by decide +kernel
theorem dL_turn_15 : decode cL_turn 15 = .ok (.iconst 1, 1) := by decide +kernel
theorem dL_turn_16 : decode cL_turn 16 = .ok (.ireturn, 1) := by decide +kernel
theorem dL_ask_0 : decode cL_ask 0 = .ok (.aload_n 2, 1) := by decide +kernel
theorem dL_ask_1 : decode cL_ask 1 = .ok (.iconst 0, 1) := by decide +kernel
theorem dL_ask_2 : decode cL_ask 2 = .ok (.aload_n 0, 1) := by decide +kernel
theorem dL_ask_3 : decode cL_ask 3 = .ok (.iload_n 1, 1) := by decide +kernel
theorem dL_ask_4 : decode cL_ask 4 = .ok (.invokevirtual 53, 3) := by decide +kernel
theorem dL_ask_7 : decode cL_ask 7 = .ok (.ifCond .eq 7, 3) := by decide +kernel
theorem dL_ask_14 : decode cL_ask 14 = .ok (.lconst 0, 1) := by decide +kernel
theorem dL_ask_15 : decode cL_ask 15 = .ok (.lastore, 1) := by decide +kernel
theorem dL_ask_16 : decode cL_ask 16 = .ok (.goto 6, 3) := by decide +kernel
theorem dL_ask_22 : decode cL_ask 22 = .ok (.iconst 0, 1) := by decide +kernel
theorem dL_ask_23 : decode cL_ask 23 = .ok (.ireturn, 1) := by decide +kernel
theorem dL_ask_10 : decode cL_ask 10 = .ok (.lconst 1, 1) := by decide +kernel
theorem dL_ask_11 : decode cL_ask 11 = .ok (.goto 4, 3) := by decide +kernel
theorem dL_ask_19 : decode cL_ask 19 = .ok (.astore_n 3, 1) := by decide +kernel
theorem dL_ask_20 : decode cL_ask 20 = .ok (.iconst 1, 1) := by decide +kernel
theorem dL_ask_21 : decode cL_ask 21 = .ok (.ireturn, 1) := by decide +kernel
theorem dL_read_0 : decode cL_read 0 = .ok (.aload_n 2, 1) := by decide +kernel
theorem dL_read_1 : decode cL_read 1 = .ok (.iconst 0, 1) := by decide +kernel
theorem dL_read_2 : decode cL_read 2 = .ok (.aload_n 0, 1) := by decide +kernel
theorem dL_read_3 : decode cL_read 3 = .ok (.iload_n 1, 1) := by decide +kernel
theorem dL_read_4 : decode cL_read 4 = .ok (.invokevirtual 56, 3) := by decide +kernel
theorem dL_read_7 : decode cL_read 7 = .ok (.i2l, 1) := by decide +kernel
theorem dL_read_8 : decode cL_read 8 = .ok (.lastore, 1) := by decide +kernel
theorem dL_read_9 : decode cL_read 9 = .ok (.goto 6, 3) := by decide +kernel
theorem dL_read_15 : decode cL_read 15 = .ok (.iconst 0, 1) := by decide +kernel
theorem dL_read_16 : decode cL_read 16 = .ok (.ireturn, 1) := by decide +kernel
theorem dL_read_12 : decode cL_read 12 = .ok (.astore_n 3, 1) := by decide +kernel
theorem dL_read_13 : decode cL_read 13 = .ok (.iconst 1, 1) := by decide +kernel
theorem dL_read_14 : decode cL_read 14 = .ok (.ireturn, 1) := by decide +kernel
theorem dL_claim_0 : decode cL_claim 0 = .ok (.aload_n 3, 1) := by decide +kernel
theorem dL_claim_1 : decode cL_claim 1 = .ok (.iconst 0, 1) := by decide +kernel
theorem dL_claim_2 : decode cL_claim 2 = .ok (.aload_n 0, 1) := by decide +kernel
theorem dL_claim_3 : decode cL_claim 3 = .ok (.iload_n 1, 1) := by decide +kernel
theorem dL_claim_4 : decode cL_claim 4 = .ok (.iload_n 2, 1) := by decide +kernel
theorem dL_claim_5 : decode cL_claim 5 = .ok (.invokevirtual 60, 3) := by decide +kernel
theorem dL_claim_8 : decode cL_claim 8 = .ok (.i2l, 1) := by decide +kernel
theorem dL_claim_9 : decode cL_claim 9 = .ok (.lastore, 1) := by decide +kernel
theorem dL_claim_10 : decode cL_claim 10 = .ok (.goto 15, 3) := by decide +kernel
theorem dL_claim_25 : decode cL_claim 25 = .ok (.iconst 0, 1) := by decide +kernel
theorem dL_claim_26 : decode cL_claim 26 = .ok (.ireturn, 1) := by decide +kernel
theorem dL_claim_13 : decode cL_claim 13 = .ok (.astore 4, 2) := by decide +kernel
theorem dL_claim_15 : decode cL_claim 15 = .ok (.iconst 1, 1) := by decide +kernel
theorem dL_claim_16 : decode cL_claim 16 = .ok (.ireturn, 1) := by decide +kernel
theorem dL_claim_17 : decode cL_claim 17 = .ok (.astore 4, 2) := by decide +kernel
theorem dL_claim_19 : decode cL_claim 19 = .ok (.iconst 2, 1) := by decide +kernel
theorem dL_claim_20 : decode cL_claim 20 = .ok (.ireturn, 1) := by decide +kernel
theorem dL_claim_21 : decode cL_claim 21 = .ok (.astore 4, 2) := by decide +kernel
theorem dL_claim_23 : decode cL_claim 23 = .ok (.iconst 3, 1) := by decide +kernel
theorem dL_claim_24 : decode cL_claim 24 = .ok (.ireturn, 1) := by decide +kernel
theorem dL_query_0 : decode cL_query 0 = .ok (.aload 4, 2) := by decide +kernel
theorem dL_query_2 : decode cL_query 2 = .ok (.iconst 0, 1) := by decide +kernel
theorem dL_query_3 : decode cL_query 3 = .ok (.aload_n 0, 1) := by decide +kernel
theorem dL_query_4 : decode cL_query 4 = .ok (.iload_n 1, 1) := by decide +kernel
theorem dL_query_5 : decode cL_query 5 = .ok (.iload_n 2, 1) := by decide +kernel
theorem dL_query_6 : decode cL_query 6 = .ok (.iload_n 3, 1) := by decide +kernel
theorem dL_query_7 : decode cL_query 7 = .ok (.invokevirtual 63, 3) := by decide +kernel
theorem dL_query_10 : decode cL_query 10 = .ok (.i2l, 1) := by decide +kernel
theorem dL_query_11 : decode cL_query 11 = .ok (.lastore, 1) := by decide +kernel
theorem dL_query_12 : decode cL_query 12 = .ok (.goto 7, 3) := by decide +kernel
theorem dL_query_19 : decode cL_query 19 = .ok (.iconst 0, 1) := by decide +kernel
theorem dL_query_20 : decode cL_query 20 = .ok (.ireturn, 1) := by decide +kernel
theorem dL_query_15 : decode cL_query 15 = .ok (.astore 5, 2) := by decide +kernel
theorem dL_query_17 : decode cL_query 17 = .ok (.iconst 1, 1) := by decide +kernel
theorem dL_query_18 : decode cL_query 18 = .ok (.ireturn, 1) := by decide +kernel
theorem dL_stroll_0 : decode cL_stroll 0 = .ok (.aload_n 2, 1) := by decide +kernel
theorem dL_stroll_1 : decode cL_stroll 1 = .ok (.iconst 0, 1) := by decide +kernel
theorem dL_stroll_2 : decode cL_stroll 2 = .ok (.aload_n 0, 1) := by decide +kernel
theorem dL_stroll_3 : decode cL_stroll 3 = .ok (.iload_n 1, 1) := by decide +kernel
theorem dL_stroll_4 : decode cL_stroll 4 = .ok (.invokevirtual 66, 3) := by decide +kernel
theorem dL_stroll_7 : decode cL_stroll 7 = .ok (.i2l, 1) := by decide +kernel
theorem dL_stroll_8 : decode cL_stroll 8 = .ok (.lastore, 1) := by decide +kernel
theorem dL_stroll_9 : decode cL_stroll 9 = .ok (.goto 6, 3) := by decide +kernel
theorem dL_stroll_15 : decode cL_stroll 15 = .ok (.iconst 0, 1) := by decide +kernel
theorem dL_stroll_16 : decode cL_stroll 16 = .ok (.ireturn, 1) := by decide +kernel
theorem dL_stroll_12 : decode cL_stroll 12 = .ok (.astore_n 3, 1) := by decide +kernel
theorem dL_stroll_13 : decode cL_stroll 13 = .ok (.iconst 1, 1) := by decide +kernel
theorem dL_stroll_14 : decode cL_stroll 14 = .ok (.ireturn, 1) := by decide +kernel
theorem dL_possible_0 : decode cL_possible 0 = .ok (.aload_n 3, 1) := by decide +kernel
theorem dL_possible_1 : decode cL_possible 1 = .ok (.iconst 0, 1) := by decide +kernel
theorem dL_possible_2 : decode cL_possible 2 = .ok (.aload_n 0, 1) := by decide +kernel
theorem dL_possible_3 : decode cL_possible 3 = .ok (.iload_n 1, 1) := by decide +kernel
theorem dL_possible_4 : decode cL_possible 4 = .ok (.iload_n 2, 1) := by decide +kernel
theorem dL_possible_5 : decode cL_possible 5 = .ok (.invokevirtual 69, 3) := by decide +kernel
theorem dL_possible_8 : decode cL_possible 8 = .ok (.i2l, 1) := by decide +kernel
theorem dL_possible_9 : decode cL_possible 9 = .ok (.lastore, 1) := by decide +kernel
theorem dL_possible_10 : decode cL_possible 10 = .ok (.goto 7, 3) := by decide +kernel
theorem dL_possible_17 : decode cL_possible 17 = .ok (.iconst 0, 1) := by decide +kernel
theorem dL_possible_18 : decode cL_possible 18 = .ok (.ireturn, 1) := by decide +kernel
theorem dL_possible_13 : decode cL_possible 13 = .ok (.astore 4, 2) := by decide +kernel
theorem dL_possible_15 : decode cL_possible 15 = .ok (.iconst 1, 1) := by decide +kernel
theorem dL_possible_16 : decode cL_possible 16 = .ok (.ireturn, 1) := by decide +kernel
theorem dL_knows_0 : decode cL_knows 0 = .ok (.aload_n 3, 1) := by decide +kernel
theorem dL_knows_1 : decode cL_knows 1 = .ok (.iconst 0, 1) := by decide +kernel
theorem dL_knows_2 : decode cL_knows 2 = .ok (.aload_n 0, 1) := by decide +kernel
theorem dL_knows_3 : decode cL_knows 3 = .ok (.iload_n 1, 1) := by decide +kernel
theorem dL_knows_4 : decode cL_knows 4 = .ok (.iload_n 2, 1) := by decide +kernel
theorem dL_knows_5 : decode cL_knows 5 = .ok (.invokevirtual 72, 3) := by decide +kernel
theorem dL_knows_8 : decode cL_knows 8 = .ok (.i2l, 1) := by decide +kernel
theorem dL_knows_9 : decode cL_knows 9 = .ok (.lastore, 1) := by decide +kernel
theorem dL_knows_10 : decode cL_knows 10 = .ok (.goto 7, 3) := by decide +kernel
theorem dL_knows_17 : decode cL_knows 17 = .ok (.iconst 0, 1) := by decide +kernel
theorem dL_knows_18 : decode cL_knows 18 = .ok (.ireturn, 1) := by decide +kernel
theorem dL_knows_13 : decode cL_knows 13 = .ok (.astore 4, 2) := by decide +kernel
theorem dL_knows_15 : decode cL_knows 15 = .ok (.iconst 1, 1) := by decide +kernel
theorem dL_knows_16 : decode cL_knows 16 = .ok (.ireturn, 1) := by decide +kernel
theorem dL_thinks_0 : decode cL_thinks 0 = .ok (.aload 4, 2) := by decide +kernel
theorem dL_thinks_2 : decode cL_thinks 2 = .ok (.iconst 0, 1) := by decide +kernel
theorem dL_thinks_3 : decode cL_thinks 3 = .ok (.aload_n 0, 1) := by decide +kernel
theorem dL_thinks_4 : decode cL_thinks 4 = .ok (.iload_n 1, 1) := by decide +kernel
theorem dL_thinks_5 : decode cL_thinks 5 = .ok (.iload_n 2, 1) := by decide +kernel
theorem dL_thinks_6 : decode cL_thinks 6 = .ok (.iload_n 3, 1) := by decide +kernel
theorem dL_thinks_7 : decode cL_thinks 7 = .ok (.invokevirtual 75, 3) := by decide +kernel
theorem dL_thinks_10 : decode cL_thinks 10 = .ok (.ifCond .eq 7, 3) := by decide +kernel
theorem dL_thinks_17 : decode cL_thinks 17 = .ok (.lconst 0, 1) := by decide +kernel
theorem dL_thinks_18 : decode cL_thinks 18 = .ok (.lastore, 1) := by decide +kernel
theorem dL_thinks_19 : decode cL_thinks 19 = .ok (.goto 7, 3) := by decide +kernel
theorem dL_thinks_26 : decode cL_thinks 26 = .ok (.iconst 0, 1) := by decide +kernel
theorem dL_thinks_27 : decode cL_thinks 27 = .ok (.ireturn, 1) := by decide +kernel
theorem dL_thinks_13 : decode cL_thinks 13 = .ok (.lconst 1, 1) := by decide +kernel
theorem dL_thinks_14 : decode cL_thinks 14 = .ok (.goto 4, 3) := by decide +kernel
theorem dL_thinks_22 : decode cL_thinks 22 = .ok (.astore 5, 2) := by decide +kernel
theorem dL_thinks_24 : decode cL_thinks 24 = .ok (.iconst 1, 1) := by decide +kernel
theorem dL_thinks_25 : decode cL_thinks 25 = .ok (.ireturn, 1) := by decide +kernel
theorem dL_common_0 : decode cL_common 0 = .ok (.aload_n 2, 1) := by decide +kernel
theorem dL_common_1 : decode cL_common 1 = .ok (.iconst 0, 1) := by decide +kernel
theorem dL_common_2 : decode cL_common 2 = .ok (.aload_n 0, 1) := by decide +kernel
theorem dL_common_3 : decode cL_common 3 = .ok (.iload_n 1, 1) := by decide +kernel
theorem dL_common_4 : decode cL_common 4 = .ok (.invokevirtual 78, 3) := by decide +kernel
theorem dL_common_7 : decode cL_common 7 = .ok (.i2l, 1) := by decide +kernel
theorem dL_common_8 : decode cL_common 8 = .ok (.lastore, 1) := by decide +kernel
theorem dL_common_9 : decode cL_common 9 = .ok (.goto 6, 3) := by decide +kernel
theorem dL_common_15 : decode cL_common 15 = .ok (.iconst 0, 1) := by decide +kernel
theorem dL_common_16 : decode cL_common 16 = .ok (.ireturn, 1) := by decide +kernel
theorem dL_common_12 : decode cL_common 12 = .ok (.astore_n 3, 1) := by decide +kernel
theorem dL_common_13 : decode cL_common 13 = .ok (.iconst 1, 1) := by decide +kernel
theorem dL_common_14 : decode cL_common 14 = .ok (.ireturn, 1) := by decide +kernel
theorem dL_muddy_0 : decode cL_muddy 0 = .ok (.aload_n 2, 1) := by decide +kernel
theorem dL_muddy_1 : decode cL_muddy 1 = .ok (.iconst 0, 1) := by decide +kernel
theorem dL_muddy_2 : decode cL_muddy 2 = .ok (.aload_n 0, 1) := by decide +kernel
theorem dL_muddy_3 : decode cL_muddy 3 = .ok (.iload_n 1, 1) := by decide +kernel
theorem dL_muddy_4 : decode cL_muddy 4 = .ok (.invokevirtual 81, 3) := by decide +kernel
theorem dL_muddy_7 : decode cL_muddy 7 = .ok (.i2l, 1) := by decide +kernel
theorem dL_muddy_8 : decode cL_muddy 8 = .ok (.lastore, 1) := by decide +kernel
theorem dL_muddy_9 : decode cL_muddy 9 = .ok (.goto 6, 3) := by decide +kernel
theorem dL_muddy_15 : decode cL_muddy 15 = .ok (.iconst 0, 1) := by decide +kernel
theorem dL_muddy_16 : decode cL_muddy 16 = .ok (.ireturn, 1) := by decide +kernel
theorem dL_muddy_12 : decode cL_muddy 12 = .ok (.astore_n 3, 1) := by decide +kernel
theorem dL_muddy_13 : decode cL_muddy 13 = .ok (.iconst 1, 1) := by decide +kernel
theorem dL_muddy_14 : decode cL_muddy 14 = .ok (.ireturn, 1) := by decide +kernel
theorem dL_backs_0 : decode cL_backs 0 = .ok (.aload_n 2, 1) := by decide +kernel
theorem dL_backs_1 : decode cL_backs 1 = .ok (.iconst 0, 1) := by decide +kernel
theorem dL_backs_2 : decode cL_backs 2 = .ok (.aload_n 0, 1) := by decide +kernel
theorem dL_backs_3 : decode cL_backs 3 = .ok (.iload_n 1, 1) := by decide +kernel
theorem dL_backs_4 : decode cL_backs 4 = .ok (.invokevirtual 84, 3) := by decide +kernel
theorem dL_backs_7 : decode cL_backs 7 = .ok (.i2l, 1) := by decide +kernel
theorem dL_backs_8 : decode cL_backs 8 = .ok (.lastore, 1) := by decide +kernel
theorem dL_backs_9 : decode cL_backs 9 = .ok (.goto 6, 3) := by decide +kernel
theorem dL_backs_15 : decode cL_backs 15 = .ok (.iconst 0, 1) := by decide +kernel
theorem dL_backs_16 : decode cL_backs 16 = .ok (.ireturn, 1) := by decide +kernel
theorem dL_backs_12 : decode cL_backs 12 = .ok (.astore_n 3, 1) := by decide +kernel
theorem dL_backs_13 : decode cL_backs 13 = .ok (.iconst 1, 1) := by decide +kernel
theorem dL_backs_14 : decode cL_backs 14 = .ok (.ireturn, 1) := by decide +kernel
theorem dL_gives_0 : decode cL_gives 0 = .ok (.aload_n 2, 1) := by decide +kernel
theorem dL_gives_1 : decode cL_gives 1 = .ok (.iconst 0, 1) := by decide +kernel
theorem dL_gives_2 : decode cL_gives 2 = .ok (.aload_n 0, 1) := by decide +kernel
theorem dL_gives_3 : decode cL_gives 3 = .ok (.iload_n 1, 1) := by decide +kernel
theorem dL_gives_4 : decode cL_gives 4 = .ok (.invokevirtual 87, 3) := by decide +kernel
theorem dL_gives_7 : decode cL_gives 7 = .ok (.i2l, 1) := by decide +kernel
theorem dL_gives_8 : decode cL_gives 8 = .ok (.lastore, 1) := by decide +kernel
theorem dL_gives_9 : decode cL_gives 9 = .ok (.goto 6, 3) := by decide +kernel
theorem dL_gives_15 : decode cL_gives 15 = .ok (.iconst 0, 1) := by decide +kernel
theorem dL_gives_16 : decode cL_gives 16 = .ok (.ireturn, 1) := by decide +kernel
theorem dL_gives_12 : decode cL_gives 12 = .ok (.astore_n 3, 1) := by decide +kernel
theorem dL_gives_13 : decode cL_gives 13 = .ok (.iconst 1, 1) := by decide +kernel
theorem dL_gives_14 : decode cL_gives 14 = .ok (.ireturn, 1) := by decide +kernel
theorem dL_never_0 : decode cL_never 0 = .ok (.aload_n 2, 1) := by decide +kernel
theorem dL_never_1 : decode cL_never 1 = .ok (.iconst 0, 1) := by decide +kernel
theorem dL_never_2 : decode cL_never 2 = .ok (.aload_n 0, 1) := by decide +kernel
theorem dL_never_3 : decode cL_never 3 = .ok (.iload_n 1, 1) := by decide +kernel
theorem dL_never_4 : decode cL_never 4 = .ok (.invokevirtual 90, 3) := by decide +kernel
theorem dL_never_7 : decode cL_never 7 = .ok (.i2l, 1) := by decide +kernel
theorem dL_never_8 : decode cL_never 8 = .ok (.lastore, 1) := by decide +kernel
theorem dL_never_9 : decode cL_never 9 = .ok (.goto 6, 3) := by decide +kernel
theorem dL_never_15 : decode cL_never 15 = .ok (.iconst 0, 1) := by decide +kernel
theorem dL_never_16 : decode cL_never 16 = .ok (.ireturn, 1) := by decide +kernel
theorem dL_never_12 : decode cL_never 12 = .ok (.astore_n 3, 1) := by decide +kernel
theorem dL_never_13 : decode cL_never 13 = .ok (.iconst 1, 1) := by decide +kernel
theorem dL_never_14 : decode cL_never 14 = .ok (.ireturn, 1) := by decide +kernel
theorem dL_question_0 : decode cL_question 0 = .ok (.aload_n 2, 1) := by decide +kernel
theorem dL_question_1 : decode cL_question 1 = .ok (.iconst 0, 1) := by decide +kernel
theorem dL_question_2 : decode cL_question 2 = .ok (.aload_n 0, 1) := by decide +kernel
theorem dL_question_3 : decode cL_question 3 = .ok (.iload_n 1, 1) := by decide +kernel
theorem dL_question_4 : decode cL_question 4 = .ok (.invokevirtual 93, 3) := by decide +kernel
theorem dL_question_7 : decode cL_question 7 = .ok (.i2l, 1) := by decide +kernel
theorem dL_question_8 : decode cL_question 8 = .ok (.lastore, 1) := by decide +kernel
theorem dL_question_9 : decode cL_question 9 = .ok (.goto 6, 3) := by decide +kernel
theorem dL_question_15 : decode cL_question 15 = .ok (.iconst 0, 1) := by decide +kernel
theorem dL_question_16 : decode cL_question 16 = .ok (.ireturn, 1) := by decide +kernel
theorem dL_question_12 : decode cL_question 12 = .ok (.astore_n 3, 1) := by decide +kernel
theorem dL_question_13 : decode cL_question 13 = .ok (.iconst 1, 1) := by decide +kernel
theorem dL_question_14 : decode cL_question 14 = .ok (.ireturn, 1) := by decide +kernel
theorem dL_queries_0 : decode cL_queries 0 = .ok (.aload_n 2, 1) := by decide +kernel
theorem dL_queries_1 : decode cL_queries 1 = .ok (.iconst 0, 1) := by decide +kernel
theorem dL_queries_2 : decode cL_queries 2 = .ok (.aload_n 0, 1) := by decide +kernel
theorem dL_queries_3 : decode cL_queries 3 = .ok (.iload_n 1, 1) := by decide +kernel
theorem dL_queries_4 : decode cL_queries 4 = .ok (.invokevirtual 96, 3) := by decide +kernel
theorem dL_queries_7 : decode cL_queries 7 = .ok (.i2l, 1) := by decide +kernel
theorem dL_queries_8 : decode cL_queries 8 = .ok (.lastore, 1) := by decide +kernel
theorem dL_queries_9 : decode cL_queries 9 = .ok (.goto 6, 3) := by decide +kernel
theorem dL_queries_15 : decode cL_queries 15 = .ok (.iconst 0, 1) := by decide +kernel
theorem dL_queries_16 : decode cL_queries 16 = .ok (.ireturn, 1) := by decide +kernel
theorem dL_queries_12 : decode cL_queries 12 = .ok (.astore_n 3, 1) := by decide +kernel
theorem dL_queries_13 : decode cL_queries 13 = .ok (.iconst 1, 1) := by decide +kernel
theorem dL_queries_14 : decode cL_queries 14 = .ok (.ireturn, 1) := by decide +kernel
theorem dL_spill_0 : decode cL_spill 0 = .ok (.aload_n 2, 1) := by decide +kernel
theorem dL_spill_1 : decode cL_spill 1 = .ok (.iconst 0, 1) := by decide +kernel
theorem dL_spill_2 : decode cL_spill 2 = .ok (.aload_n 0, 1) := by decide +kernel
theorem dL_spill_3 : decode cL_spill 3 = .ok (.iload_n 1, 1) := by decide +kernel
theorem dL_spill_4 : decode cL_spill 4 = .ok (.invokevirtual 99, 3) := by decide +kernel
theorem dL_spill_7 : decode cL_spill 7 = .ok (.i2l, 1) := by decide +kernel
theorem dL_spill_8 : decode cL_spill 8 = .ok (.lastore, 1) := by decide +kernel
theorem dL_spill_9 : decode cL_spill 9 = .ok (.goto 6, 3) := by decide +kernel
theorem dL_spill_15 : decode cL_spill 15 = .ok (.iconst 0, 1) := by decide +kernel
theorem dL_spill_16 : decode cL_spill 16 = .ok (.ireturn, 1) := by decide +kernel
theorem dL_spill_12 : decode cL_spill 12 = .ok (.astore_n 3, 1) := by decide +kernel
theorem dL_spill_13 : decode cL_spill 13 = .ok (.iconst 1, 1) := by decide +kernel
theorem dL_spill_14 : decode cL_spill 14 = .ok (.ireturn, 1) := by decide +kernel
theorem dL_game_0 : decode cL_game 0 = .ok (.aload_n 3, 1) := by decide +kernel
theorem dL_game_1 : decode cL_game 1 = .ok (.iconst 0, 1) := by decide +kernel
theorem dL_game_2 : decode cL_game 2 = .ok (.aload_n 0, 1) := by decide +kernel
theorem dL_game_3 : decode cL_game 3 = .ok (.iload_n 1, 1) := by decide +kernel
theorem dL_game_4 : decode cL_game 4 = .ok (.iload_n 2, 1) := by decide +kernel
theorem dL_game_5 : decode cL_game 5 = .ok (.invokevirtual 102, 3) := by decide +kernel
theorem dL_game_8 : decode cL_game 8 = .ok (.i2l, 1) := by decide +kernel
theorem dL_game_9 : decode cL_game 9 = .ok (.lastore, 1) := by decide +kernel
theorem dL_game_10 : decode cL_game 10 = .ok (.goto 7, 3) := by decide +kernel
theorem dL_game_17 : decode cL_game 17 = .ok (.iconst 0, 1) := by decide +kernel
theorem dL_game_18 : decode cL_game 18 = .ok (.ireturn, 1) := by decide +kernel
theorem dL_game_13 : decode cL_game 13 = .ok (.astore 4, 2) := by decide +kernel
theorem dL_game_15 : decode cL_game 15 = .ok (.iconst 1, 1) := by decide +kernel
theorem dL_game_16 : decode cL_game 16 = .ok (.ireturn, 1) := by decide +kernel
theorem dL_steps_0 : decode cL_steps 0 = .ok (.aload_n 3, 1) := by decide +kernel
theorem dL_steps_1 : decode cL_steps 1 = .ok (.iconst 0, 1) := by decide +kernel
theorem dL_steps_2 : decode cL_steps 2 = .ok (.aload_n 0, 1) := by decide +kernel
theorem dL_steps_3 : decode cL_steps 3 = .ok (.iload_n 1, 1) := by decide +kernel
theorem dL_steps_4 : decode cL_steps 4 = .ok (.iload_n 2, 1) := by decide +kernel
theorem dL_steps_5 : decode cL_steps 5 = .ok (.invokevirtual 106, 3) := by decide +kernel
theorem dL_steps_8 : decode cL_steps 8 = .ok (.i2l, 1) := by decide +kernel
theorem dL_steps_9 : decode cL_steps 9 = .ok (.lastore, 1) := by decide +kernel
theorem dL_steps_10 : decode cL_steps 10 = .ok (.goto 7, 3) := by decide +kernel
theorem dL_steps_17 : decode cL_steps 17 = .ok (.iconst 0, 1) := by decide +kernel
theorem dL_steps_18 : decode cL_steps 18 = .ok (.ireturn, 1) := by decide +kernel
theorem dL_steps_13 : decode cL_steps 13 = .ok (.astore 4, 2) := by decide +kernel
theorem dL_steps_15 : decode cL_steps 15 = .ok (.iconst 1, 1) := by decide +kernel
theorem dL_steps_16 : decode cL_steps 16 = .ok (.ireturn, 1) := by decide +kernel
theorem dL_trial_0 : decode cL_trial 0 = .ok (.aload_n 2, 1) := by decide +kernel
theorem dL_trial_1 : decode cL_trial 1 = .ok (.iconst 0, 1) := by decide +kernel
theorem dL_trial_2 : decode cL_trial 2 = .ok (.aload_n 0, 1) := by decide +kernel
theorem dL_trial_3 : decode cL_trial 3 = .ok (.iload_n 1, 1) := by decide +kernel
theorem dL_trial_4 : decode cL_trial 4 = .ok (.invokevirtual 109, 3) := by decide +kernel
theorem dL_trial_7 : decode cL_trial 7 = .ok (.i2l, 1) := by decide +kernel
theorem dL_trial_8 : decode cL_trial 8 = .ok (.lastore, 1) := by decide +kernel
theorem dL_trial_9 : decode cL_trial 9 = .ok (.goto 6, 3) := by decide +kernel
theorem dL_trial_15 : decode cL_trial 15 = .ok (.iconst 0, 1) := by decide +kernel
theorem dL_trial_16 : decode cL_trial 16 = .ok (.ireturn, 1) := by decide +kernel
theorem dL_trial_12 : decode cL_trial 12 = .ok (.astore_n 3, 1) := by decide +kernel
theorem dL_trial_13 : decode cL_trial 13 = .ok (.iconst 1, 1) := by decide +kernel
theorem dL_trial_14 : decode cL_trial 14 = .ok (.ireturn, 1) := by decide +kernel
theorem dL_span_0 : decode cL_span 0 = .ok (.aload_n 3, 1) := by decide +kernel
theorem dL_span_1 : decode cL_span 1 = .ok (.iconst 0, 1) := by decide +kernel
theorem dL_span_2 : decode cL_span 2 = .ok (.aload_n 0, 1) := by decide +kernel
theorem dL_span_3 : decode cL_span 3 = .ok (.iload_n 1, 1) := by decide +kernel
theorem dL_span_4 : decode cL_span 4 = .ok (.iload_n 2, 1) := by decide +kernel
theorem dL_span_5 : decode cL_span 5 = .ok (.invokevirtual 112, 3) := by decide +kernel
theorem dL_span_8 : decode cL_span 8 = .ok (.i2l, 1) := by decide +kernel
theorem dL_span_9 : decode cL_span 9 = .ok (.lastore, 1) := by decide +kernel
theorem dL_span_10 : decode cL_span 10 = .ok (.goto 7, 3) := by decide +kernel
theorem dL_span_17 : decode cL_span 17 = .ok (.iconst 0, 1) := by decide +kernel
theorem dL_span_18 : decode cL_span 18 = .ok (.ireturn, 1) := by decide +kernel
theorem dL_span_13 : decode cL_span 13 = .ok (.astore 4, 2) := by decide +kernel
theorem dL_span_15 : decode cL_span 15 = .ok (.iconst 1, 1) := by decide +kernel
theorem dL_span_16 : decode cL_span 16 = .ok (.ireturn, 1) := by decide +kernel
theorem dL_nth_0 : decode cL_nth 0 = .ok (.aload_n 3, 1) := by decide +kernel
theorem dL_nth_1 : decode cL_nth 1 = .ok (.iconst 0, 1) := by decide +kernel
theorem dL_nth_2 : decode cL_nth 2 = .ok (.aload_n 0, 1) := by decide +kernel
theorem dL_nth_3 : decode cL_nth 3 = .ok (.iload_n 1, 1) := by decide +kernel
theorem dL_nth_4 : decode cL_nth 4 = .ok (.iload_n 2, 1) := by decide +kernel
theorem dL_nth_5 : decode cL_nth 5 = .ok (.invokevirtual 115, 3) := by decide +kernel
theorem dL_nth_8 : decode cL_nth 8 = .ok (.i2l, 1) := by decide +kernel
theorem dL_nth_9 : decode cL_nth 9 = .ok (.lastore, 1) := by decide +kernel
theorem dL_nth_10 : decode cL_nth 10 = .ok (.goto 7, 3) := by decide +kernel
theorem dL_nth_17 : decode cL_nth 17 = .ok (.iconst 0, 1) := by decide +kernel
theorem dL_nth_18 : decode cL_nth 18 = .ok (.ireturn, 1) := by decide +kernel
theorem dL_nth_13 : decode cL_nth 13 = .ok (.astore 4, 2) := by decide +kernel
theorem dL_nth_15 : decode cL_nth 15 = .ok (.iconst 1, 1) := by decide +kernel
theorem dL_nth_16 : decode cL_nth 16 = .ok (.ireturn, 1) := by decide +kernel
theorem dL_guess_0 : decode cL_guess 0 = .ok (.aload_n 2, 1) := by decide +kernel
theorem dL_guess_1 : decode cL_guess 1 = .ok (.iconst 0, 1) := by decide +kernel
theorem dL_guess_2 : decode cL_guess 2 = .ok (.aload_n 0, 1) := by decide +kernel
theorem dL_guess_3 : decode cL_guess 3 = .ok (.iload_n 1, 1) := by decide +kernel
theorem dL_guess_4 : decode cL_guess 4 = .ok (.invokevirtual 118, 3) := by decide +kernel
theorem dL_guess_7 : decode cL_guess 7 = .ok (.i2l, 1) := by decide +kernel
theorem dL_guess_8 : decode cL_guess 8 = .ok (.lastore, 1) := by decide +kernel
theorem dL_guess_9 : decode cL_guess 9 = .ok (.goto 6, 3) := by decide +kernel
theorem dL_guess_15 : decode cL_guess 15 = .ok (.iconst 0, 1) := by decide +kernel
theorem dL_guess_16 : decode cL_guess 16 = .ok (.ireturn, 1) := by decide +kernel
theorem dL_guess_12 : decode cL_guess 12 = .ok (.astore_n 3, 1) := by decide +kernel
theorem dL_guess_13 : decode cL_guess 13 = .ok (.iconst 1, 1) := by decide +kernel
theorem dL_guess_14 : decode cL_guess 14 = .ok (.ireturn, 1) := by decide +kernel
theorem dL_right_0 : decode cL_right 0 = .ok (.aload_n 2, 1) := by decide +kernel
theorem dL_right_1 : decode cL_right 1 = .ok (.iconst 0, 1) := by decide +kernel
theorem dL_right_2 : decode cL_right 2 = .ok (.aload_n 0, 1) := by decide +kernel
theorem dL_right_3 : decode cL_right 3 = .ok (.iload_n 1, 1) := by decide +kernel
theorem dL_right_4 : decode cL_right 4 = .ok (.invokevirtual 121, 3) := by decide +kernel
theorem dL_right_7 : decode cL_right 7 = .ok (.i2l, 1) := by decide +kernel
theorem dL_right_8 : decode cL_right 8 = .ok (.lastore, 1) := by decide +kernel
theorem dL_right_9 : decode cL_right 9 = .ok (.goto 6, 3) := by decide +kernel
theorem dL_right_15 : decode cL_right 15 = .ok (.iconst 0, 1) := by decide +kernel
theorem dL_right_16 : decode cL_right 16 = .ok (.ireturn, 1) := by decide +kernel
theorem dL_right_12 : decode cL_right 12 = .ok (.astore_n 3, 1) := by decide +kernel
theorem dL_right_13 : decode cL_right 13 = .ok (.iconst 1, 1) := by decide +kernel
theorem dL_right_14 : decode cL_right 14 = .ok (.ireturn, 1) := by decide +kernel
theorem dL_rows_0 : decode cL_rows 0 = .ok (.aload_n 2, 1) := by decide +kernel
theorem dL_rows_1 : decode cL_rows 1 = .ok (.iconst 0, 1) := by decide +kernel
theorem dL_rows_2 : decode cL_rows 2 = .ok (.aload_n 0, 1) := by decide +kernel
theorem dL_rows_3 : decode cL_rows 3 = .ok (.iload_n 1, 1) := by decide +kernel
theorem dL_rows_4 : decode cL_rows 4 = .ok (.invokevirtual 124, 3) := by decide +kernel
theorem dL_rows_7 : decode cL_rows 7 = .ok (.i2l, 1) := by decide +kernel
theorem dL_rows_8 : decode cL_rows 8 = .ok (.lastore, 1) := by decide +kernel
theorem dL_rows_9 : decode cL_rows 9 = .ok (.goto 6, 3) := by decide +kernel
theorem dL_rows_15 : decode cL_rows 15 = .ok (.iconst 0, 1) := by decide +kernel
theorem dL_rows_16 : decode cL_rows 16 = .ok (.ireturn, 1) := by decide +kernel
theorem dL_rows_12 : decode cL_rows 12 = .ok (.astore_n 3, 1) := by decide +kernel
theorem dL_rows_13 : decode cL_rows 13 = .ok (.iconst 1, 1) := by decide +kernel
theorem dL_rows_14 : decode cL_rows 14 = .ok (.ireturn, 1) := by decide +kernel
theorem dL_liars_0 : decode cL_liars 0 = .ok (.aload_n 3, 1) := by decide +kernel
theorem dL_liars_1 : decode cL_liars 1 = .ok (.iconst 0, 1) := by decide +kernel
theorem dL_liars_2 : decode cL_liars 2 = .ok (.aload_n 0, 1) := by decide +kernel
theorem dL_liars_3 : decode cL_liars 3 = .ok (.iload_n 1, 1) := by decide +kernel
theorem dL_liars_4 : decode cL_liars 4 = .ok (.iload_n 2, 1) := by decide +kernel
theorem dL_liars_5 : decode cL_liars 5 = .ok (.invokevirtual 127, 3) := by decide +kernel
theorem dL_liars_8 : decode cL_liars 8 = .ok (.i2l, 1) := by decide +kernel
theorem dL_liars_9 : decode cL_liars 9 = .ok (.lastore, 1) := by decide +kernel
theorem dL_liars_10 : decode cL_liars 10 = .ok (.goto 7, 3) := by decide +kernel
theorem dL_liars_17 : decode cL_liars 17 = .ok (.iconst 0, 1) := by decide +kernel
theorem dL_liars_18 : decode cL_liars 18 = .ok (.ireturn, 1) := by decide +kernel
theorem dL_liars_13 : decode cL_liars 13 = .ok (.astore 4, 2) := by decide +kernel
theorem dL_liars_15 : decode cL_liars 15 = .ok (.iconst 1, 1) := by decide +kernel
theorem dL_liars_16 : decode cL_liars 16 = .ok (.ireturn, 1) := by decide +kernel
theorem dL_married_0 : decode cL_married 0 = .ok (.aload_n 2, 1) := by decide +kernel
theorem dL_married_1 : decode cL_married 1 = .ok (.iconst 0, 1) := by decide +kernel
theorem dL_married_2 : decode cL_married 2 = .ok (.aload_n 0, 1) := by decide +kernel
theorem dL_married_3 : decode cL_married 3 = .ok (.iload_n 1, 1) := by decide +kernel
theorem dL_married_4 : decode cL_married 4 = .ok (.invokevirtual 130, 3) := by decide +kernel
theorem dL_married_7 : decode cL_married 7 = .ok (.i2l, 1) := by decide +kernel
theorem dL_married_8 : decode cL_married 8 = .ok (.lastore, 1) := by decide +kernel
theorem dL_married_9 : decode cL_married 9 = .ok (.goto 6, 3) := by decide +kernel
theorem dL_married_15 : decode cL_married 15 = .ok (.iconst 0, 1) := by decide +kernel
theorem dL_married_16 : decode cL_married 16 = .ok (.ireturn, 1) := by decide +kernel
theorem dL_married_12 : decode cL_married 12 = .ok (.astore_n 3, 1) := by decide +kernel
theorem dL_married_13 : decode cL_married 13 = .ok (.iconst 1, 1) := by decide +kernel
theorem dL_married_14 : decode cL_married 14 = .ok (.ireturn, 1) := by decide +kernel
theorem dL_led_0 : decode cL_led 0 = .ok (.aload_n 2, 1) := by decide +kernel
theorem dL_led_1 : decode cL_led 1 = .ok (.iconst 0, 1) := by decide +kernel
theorem dL_led_2 : decode cL_led 2 = .ok (.aload_n 0, 1) := by decide +kernel
theorem dL_led_3 : decode cL_led 3 = .ok (.iload_n 1, 1) := by decide +kernel
theorem dL_led_4 : decode cL_led 4 = .ok (.invokevirtual 133, 3) := by decide +kernel
theorem dL_led_7 : decode cL_led 7 = .ok (.i2l, 1) := by decide +kernel
theorem dL_led_8 : decode cL_led 8 = .ok (.lastore, 1) := by decide +kernel
theorem dL_led_9 : decode cL_led 9 = .ok (.goto 6, 3) := by decide +kernel
theorem dL_led_15 : decode cL_led 15 = .ok (.iconst 0, 1) := by decide +kernel
theorem dL_led_16 : decode cL_led 16 = .ok (.ireturn, 1) := by decide +kernel
theorem dL_led_12 : decode cL_led 12 = .ok (.astore_n 3, 1) := by decide +kernel
theorem dL_led_13 : decode cL_led 13 = .ok (.iconst 1, 1) := by decide +kernel
theorem dL_led_14 : decode cL_led 14 = .ok (.ireturn, 1) := by decide +kernel
theorem dL_log_0 : decode cL_log 0 = .ok (.aload_n 3, 1) := by decide +kernel
theorem dL_log_1 : decode cL_log 1 = .ok (.iconst 0, 1) := by decide +kernel
theorem dL_log_2 : decode cL_log 2 = .ok (.aload_n 0, 1) := by decide +kernel
theorem dL_log_3 : decode cL_log 3 = .ok (.iload_n 1, 1) := by decide +kernel
theorem dL_log_4 : decode cL_log 4 = .ok (.iload_n 2, 1) := by decide +kernel
theorem dL_log_5 : decode cL_log 5 = .ok (.invokevirtual 136, 3) := by decide +kernel
theorem dL_log_8 : decode cL_log 8 = .ok (.i2l, 1) := by decide +kernel
theorem dL_log_9 : decode cL_log 9 = .ok (.lastore, 1) := by decide +kernel
theorem dL_log_10 : decode cL_log 10 = .ok (.goto 7, 3) := by decide +kernel
theorem dL_log_17 : decode cL_log 17 = .ok (.iconst 0, 1) := by decide +kernel
theorem dL_log_18 : decode cL_log 18 = .ok (.ireturn, 1) := by decide +kernel
theorem dL_log_13 : decode cL_log 13 = .ok (.astore 4, 2) := by decide +kernel
theorem dL_log_15 : decode cL_log 15 = .ok (.iconst 1, 1) := by decide +kernel
theorem dL_log_16 : decode cL_log 16 = .ok (.ireturn, 1) := by decide +kernel
theorem lk_L_7 : LkV RL 7 RX10 yX10_village cX10_village 4 (some .int) 0 := ⟨⟨kw_1076, kw_1077, kw_1078, kw_137, kw_1079⟩, rfl, by decide, by decide, by decide +kernel⟩
theorem lk_L_17 : LkV RL 17 RX10 yX10_law cX10_law 3 (some .int) 0 := ⟨⟨kw_1347, kw_1348, kw_1349, kw_137, kw_1350⟩, rfl, by decide, by decide, by decide +kernel⟩
theorem lk_L_20 : LkV RL 20 RX10 yX10_person cX10_person 3 (some .int) 2 := ⟨⟨kw_1390, kw_1391, kw_1392, kw_137, kw_1393⟩, rfl, by decide, by decide, by decide +kernel⟩
theorem lk_L_28 : LkV RL 28 RX10 yX10_left cX10_left 2 (some .boolean) 1 := ⟨⟨kw_1450, kw_1451, kw_1452, kw_137, kw_1453⟩, rfl, by decide, by decide, by decide +kernel⟩
theorem lk_L_32 : LkV RL 32 RX10 yX10_apart cX10_apart 4 (some .boolean) 3 := ⟨⟨kw_1468, kw_1469, kw_1470, kw_137, kw_1471⟩, rfl, by decide, by decide, by decide +kernel⟩
theorem lk_L_38 : LkV RL 38 RX10 yX10_sure cX10_sure 3 (some .boolean) 2 := ⟨⟨kw_1496, kw_1497, kw_1498, kw_137, kw_1499⟩, rfl, by decide, by decide, by decide +kernel⟩
theorem lk_L_42 : LkV RL 42 RX10 yX10_manner cX10_manner 4 (some .int) 3 := ⟨⟨kw_1503, kw_1504, kw_1505, kw_137, kw_1506⟩, rfl, by decide, by decide, by decide +kernel⟩
theorem lk_L_46 : LkV RL 46 RX10 yX10_treat cX10_treat 4 (some .int) 3 := ⟨⟨kw_1543, kw_1544, kw_1545, kw_137, kw_1546⟩, rfl, by decide, by decide, by decide +kernel⟩
theorem lk_L_50 : LkV RL 50 RX10 yX10_turn cX10_turn 3 (some .int) 2 := ⟨⟨kw_1557, kw_1558, kw_1559, kw_137, kw_1560⟩, rfl, by decide, by decide, by decide +kernel⟩
theorem lk_L_53 : LkV RL 53 RX10 yX10_ask cX10_ask 2 (some .boolean) 1 := ⟨⟨kw_1570, kw_1571, kw_1572, kw_137, kw_1573⟩, rfl, by decide, by decide, by decide +kernel⟩
theorem lk_L_56 : LkV RL 56 RX10 yX10_read cX10_read 2 (some .int) 1 := ⟨⟨kw_1585, kw_1586, kw_1587, kw_137, kw_1588⟩, rfl, by decide, by decide, by decide +kernel⟩
theorem lk_L_60 : LkV RL 60 RX10 yX10_claim cX10_claim 3 (some .int) 2 := ⟨⟨kw_1597, kw_1598, kw_1599, kw_137, kw_1600⟩, rfl, by decide, by decide, by decide +kernel⟩
theorem lk_L_63 : LkV RL 63 RX10 yX10_query cX10_query 4 (some .int) 3 := ⟨⟨kw_1626, kw_1627, kw_1628, kw_137, kw_1629⟩, rfl, by decide, by decide, by decide +kernel⟩
theorem lk_L_66 : LkV RL 66 RX10 yX10_stroll cX10_stroll 2 (some .int) 1 := ⟨⟨kw_1641, kw_1642, kw_1643, kw_137, kw_1644⟩, rfl, by decide, by decide, by decide +kernel⟩
theorem lk_L_69 : LkV RL 69 RX10 yX10_possible cX10_possible 3 (some .int) 2 := ⟨⟨kw_1659, kw_1660, kw_1661, kw_137, kw_1662⟩, rfl, by decide, by decide, by decide +kernel⟩
theorem lk_L_72 : LkV RL 72 RX10 yX10_knows cX10_knows 3 (some .int) 2 := ⟨⟨kw_1667, kw_1668, kw_1669, kw_137, kw_1670⟩, rfl, by decide, by decide, by decide +kernel⟩
theorem lk_L_75 : LkV RL 75 RX10 yX10_thinks cX10_thinks 4 (some .boolean) 3 := ⟨⟨kw_1675, kw_1676, kw_1677, kw_137, kw_1678⟩, rfl, by decide, by decide, by decide +kernel⟩
theorem lk_L_78 : LkV RL 78 RX10 yX10_common cX10_common 2 (some .int) 1 := ⟨⟨kw_1686, kw_1687, kw_1688, kw_137, kw_1689⟩, rfl, by decide, by decide, by decide +kernel⟩
theorem lk_L_81 : LkV RL 81 RX10 yX10_muddy cX10_muddy 2 (some .int) 1 := ⟨⟨kw_1701, kw_1702, kw_1703, kw_137, kw_1704⟩, rfl, by decide, by decide, by decide +kernel⟩
theorem lk_L_84 : LkV RL 84 RX10 yX10_backs cX10_backs 2 (some .int) 1 := ⟨⟨kw_1720, kw_1721, kw_1722, kw_137, kw_1723⟩, rfl, by decide, by decide, by decide +kernel⟩
theorem lk_L_87 : LkV RL 87 RX10 yX10_gives cX10_gives 2 (some .int) 1 := ⟨⟨kw_1749, kw_1750, kw_1751, kw_137, kw_1752⟩, rfl, by decide, by decide, by decide +kernel⟩
theorem lk_L_90 : LkV RL 90 RX10 yX10_never cX10_never 2 (some .int) 1 := ⟨⟨kw_1769, kw_1770, kw_1771, kw_137, kw_1772⟩, rfl, by decide, by decide, by decide +kernel⟩
theorem lk_L_93 : LkV RL 93 RX10 yX10_question cX10_question 2 (some .int) 1 := ⟨⟨kw_1784, kw_1785, kw_1786, kw_137, kw_1787⟩, rfl, by decide, by decide, by decide +kernel⟩
theorem lk_L_96 : LkV RL 96 RX10 yX10_queries cX10_queries 2 (some .int) 1 := ⟨⟨kw_1802, kw_1803, kw_1804, kw_137, kw_1805⟩, rfl, by decide, by decide, by decide +kernel⟩
theorem lk_L_99 : LkV RL 99 RX10 yX10_spill cX10_spill 2 (some .int) 1 := ⟨⟨kw_1819, kw_1820, kw_1821, kw_137, kw_1822⟩, rfl, by decide, by decide, by decide +kernel⟩
theorem lk_L_102 : LkV RL 102 RX10 yX10_game cX10_game 3 (some .int) 2 := ⟨⟨kw_1826, kw_1827, kw_1828, kw_137, kw_1829⟩, rfl, by decide, by decide, by decide +kernel⟩
theorem lk_L_106 : LkV RL 106 RX10 yX10_steps cX10_steps 3 (some .int) 2 := ⟨⟨kw_1841, kw_1842, kw_1843, kw_137, kw_1844⟩, rfl, by decide, by decide, by decide +kernel⟩
theorem lk_L_109 : LkV RL 109 RX10 yX10_trial cX10_trial 2 (some .int) 1 := ⟨⟨kw_1852, kw_1853, kw_1854, kw_137, kw_1855⟩, rfl, by decide, by decide, by decide +kernel⟩
theorem lk_L_112 : LkV RL 112 RX10 yX10_span cX10_span 6 (some .int) 2 := ⟨⟨kw_1863, kw_1864, kw_1865, kw_137, kw_1866⟩, rfl, by decide, by decide, by decide +kernel⟩
theorem lk_L_115 : LkV RL 115 RX10 yX10_nth cX10_nth 3 (some .int) 2 := ⟨⟨kw_1872, kw_1873, kw_1874, kw_137, kw_1875⟩, rfl, by decide, by decide, by decide +kernel⟩
theorem lk_L_118 : LkV RL 118 RX10 yX10_guess cX10_guess 2 (some .int) 1 := ⟨⟨kw_1883, kw_1884, kw_1885, kw_137, kw_1886⟩, rfl, by decide, by decide, by decide +kernel⟩
theorem lk_L_121 : LkV RL 121 RX10 yX10_right cX10_right 2 (some .int) 1 := ⟨⟨kw_1902, kw_1903, kw_1904, kw_137, kw_1905⟩, rfl, by decide, by decide, by decide +kernel⟩
theorem lk_L_124 : LkV RL 124 RX10 yX10_rows cX10_rows 3 (some .int) 1 := ⟨⟨kw_1917, kw_1918, kw_1919, kw_137, kw_1920⟩, rfl, by decide, by decide, by decide +kernel⟩
theorem lk_L_127 : LkV RL 127 RX10 yX10_liars cX10_liars 4 (some .int) 2 := ⟨⟨kw_1953, kw_1954, kw_1955, kw_137, kw_1956⟩, rfl, by decide, by decide, by decide +kernel⟩
theorem lk_L_130 : LkV RL 130 RX10 yX10_married cX10_married 2 (some .int) 1 := ⟨⟨kw_1974, kw_1975, kw_1976, kw_137, kw_1977⟩, rfl, by decide, by decide, by decide +kernel⟩
theorem lk_L_133 : LkV RL 133 RX10 yX10_led cX10_led 4 (some .int) 1 := ⟨⟨kw_2000, kw_2001, kw_2002, kw_137, kw_2003⟩, rfl, by decide, by decide, by decide +kernel⟩
theorem lk_L_136 : LkV RL 136 RX10 yX10_log cX10_log 3 (some .int) 2 := ⟨⟨kw_2011, kw_2012, kw_2013, kw_137, kw_2014⟩, rfl, by decide, by decide, by decide +kernel⟩
theorem ct_1 : (Cond.castable "java/lang/IndexOutOfBoundsException" "java/lang/IndexOutOfBoundsException") ∈ nwT := List.mem_of_getElem? (i := 0) rfl
theorem ct_2 : (Cond.castable "java/util/NoSuchElementException" "java/util/NoSuchElementException") ∈ nwT := List.mem_of_getElem? (i := 1) rfl
theorem ct_3 : (Cond.castable "java/lang/IllegalArgumentException" "java/lang/IllegalArgumentException") ∈ nwT := List.mem_of_getElem? (i := 2) rfl
theorem ct_4 : (Cond.castable "java/lang/IllegalStateException" "java/lang/IllegalStateException") ∈ nwT := List.mem_of_getElem? (i := 3) rfl
theorem ct_5 : (Cond.castable "java/lang/UnsupportedOperationException" "java/lang/UnsupportedOperationException") ∈ nwT := List.mem_of_getElem? (i := 4) rfl
-- the law's wrappers, one by one
def cdW (md : Nat → Nat) (r : Int32 ⊕ Nat) : Int32 := match r with
  | .inl _ => 0
  | .inr cn => nI (md cn)
def lvI (r : Int32 ⊕ Nat) : Option Int64 := match r with
  | .inl x => some x.toInt64
  | .inr _ => none
def lvB (r : Int32 ⊕ Nat) : Option Int64 := match r with
  | .inl x => some (if x = 0 then 0 else 1)
  | .inr _ => none
theorem nAF {fa : Fa} {sz o : Nat} (hno : ∀ k, fa k ≠ some o) (ho : o < sz) : ¬ AF fa sz o := fun h => h.elim (fun ⟨k, h⟩ => hno k h) (fun h => by omega)
theorem nfa {fa fa2 : Fa} {sz o : Nat} (hno : ∀ k, fa k ≠ some o) (ho : o < sz) (hf : ∀ k a, fa2 k = some a → AF fa sz a) : ∀ k, fa2 k ≠ some o := fun k h => nAF hno ho (hf k o h)
theorem hp2 {a1 b1 : ExceptionTableEntry} {P : ExceptionTableEntry → Prop} (h1 : P a1) (h2 : P b1) : ∀ z ∈ [a1, b1], P z := fun z hz => (List.mem_cons.mp hz).elim (fun e => by rw [e]; exact h1) (fun e => by rw [List.mem_singleton.mp e]; exact h2)
def xce (a b c d : Nat) : ExceptionTableEntry := { startPc := a, endPc := b, handlerPc := c, catchType := d }
theorem mdI_of {c : Nat} (h : 1 ≤ mdI c) : c = 1 := by
  unfold mdI at h
  by_cases h1 : c = 1
  · exact h1
  · rw [if_neg h1] at h
    exact absurd h (by omega)
theorem mdIN_of {c : Nat} (h : 1 ≤ mdIN c) : c = 1 ∨ c = 2 := by
  unfold mdIN at h
  by_cases h1 : c = 1
  · exact (Or.inl h1)
  · rw [if_neg h1] at h
    by_cases h2 : c = 2
    · exact (Or.inr h2)
    · rw [if_neg h2] at h
      exact absurd h (by omega)
theorem mdIS_of {c : Nat} (h : 1 ≤ mdIS c) : c = 1 ∨ c = 4 := by
  unfold mdIS at h
  by_cases h1 : c = 1
  · exact (Or.inl h1)
  · rw [if_neg h1] at h
    by_cases h4 : c = 4
    · exact (Or.inr h4)
    · rw [if_neg h4] at h
      exact absurd h (by omega)
theorem mdIAS_of {c : Nat} (h : 1 ≤ mdIAS c) : c = 1 ∨ c = 3 ∨ c = 4 := by
  unfold mdIAS at h
  by_cases h1 : c = 1
  · exact (Or.inl h1)
  · rw [if_neg h1] at h
    by_cases h3 : c = 3
    · exact (Or.inr (Or.inl h3))
    · rw [if_neg h3] at h
      by_cases h4 : c = 4
      · exact (Or.inr (Or.inr h4))
      · rw [if_neg h4] at h
        exact absurd h (by omega)
theorem mdN_of {c : Nat} (h : 1 ≤ mdN c) : c = 2 := by
  unfold mdN at h
  by_cases h2 : c = 2
  · exact h2
  · rw [if_neg h2] at h
    exact absurd h (by omega)
theorem mdA_of {c : Nat} (h : 1 ≤ mdA c) : c = 3 := by
  unfold mdA at h
  by_cases h3 : c = 3
  · exact h3
  · rw [if_neg h3] at h
    exact absurd h (by omega)
theorem mdAU_of {c : Nat} (h : 1 ≤ mdAU c) : c = 3 ∨ c = 5 := by
  unfold mdAU at h
  by_cases h3 : c = 3
  · exact (Or.inl h3)
  · rw [if_neg h3] at h
    by_cases h5 : c = 5
    · exact (Or.inr h5)
    · rw [if_neg h5] at h
      exact absurd h (by omega)
set_option maxHeartbeats 4000000 in
set_option maxRecDepth 100000 in
theorem cW_village {l : Launch} {D : va_G} {tc : Nat → ClassId} {ro : Ro} {oa : Ky → Nat} {sh : Sh} {ln : Nat → Nat} {μ : Mm} {gk : Option (((Int32 ⊕ Nat) × Sh × (Nat → Nat) × Mm) × Nat × Nat)} {r : Int32 ⊕ Nat} {sh' : Sh} {ln' : Nat → Nat} {b : Mm} {kc ks : Nat} (hG : CtG l D tc ro oa yX10_village cX10_village 4 (some .int) [.ref (oa (0, 0))] sh ln μ (fun x => some (.int x)) gk) (hg0 : gk = some ((r, sh', ln', b), kc, ks)) (hr : ∀ cn, r = .inr cn → 1 ≤ mdAU cn) : CtW l D tc ro oa yL_village cL_village 3 [(0, 8, 11, 13), (0, 8, 14, 15)] (rma 46 1260 (kc + 1) (ks + 6)) [] sh ln μ (cdW mdAU r) (lvI r) sh' ln' b := by
  obtain ⟨rm, ⟨b1, b2, b3, b4⟩, hM⟩ := hG r sh' ln' b kc ks hg0
  refine CtW.of (by decide) (fun o => Nat.le_of_ble_eq_true rfl) (fun aa o f p e s m args below meth c A hAe C hr0 hk htab hW hU hN hnc hO hno hAo ls hl => ?_)
  have hx := C.1.1
  have hb := C.1.2.1
  have hl : lv_has ls 3 [(0, .ref (oa (0, 0))), (1, .ref o)] := hl
  refine lv_aload_n hx hb dL_village_0 rfl (lv_at hl 1 rfl) ?_
  refine lv_iconst (v := 0) hx hb dL_village_1 (by decide) ?_
  refine lv_aload_n hx hb dL_village_2 rfl (lv_at hl 0 rfl) ?_
  refine r_callG (k := ((0, 0) : Ky)) (C0 := RX10) C hU hN hW hl lk_L_7 hM ⟨by show rm.frames + 1 ≤ 46; omega, by show 8 + (4 + 11) + rm.locals ≤ 1260; omega⟩ rfl rfl rfl (As := []) (rest := [.int 0, .ref o]) rfl rfl (Nat.le_of_ble_eq_true rfl) dL_village_3 ⟨by show 0 + rm.cells ≤ kc + 1; omega, by show 0 + rm.slots ≤ ks + 6; omega⟩ (fun x hx2 oa' aa' H1 locs1 hag hW hf0 hz hkp => ?_) (fun cn hcn hsh aa' H1 locs1 q ce hW hf0 hz hkp hce hcv hcl => ?_)
  · subst hx2
    have hO1 : outc tc o f H1 := (hkp o hO.lt (nAF hno hO.lt)).trans hO
    have hno1 := nfa hno hO.lt hf0
    refine lv_i2l hx hb dL_village_6 rfl ?_
    refine r_lastW C hW hO1 hno1 hAo dL_village_7 (fun H2 locs2 hW hz2 hO2 => ?_)
    refine lv_goto (tgt := 17) hx hb dL_village_8 (by decide) ?_
    refine lv_iconst (v := 0) hx hb dL_village_17 (by decide) ?_
    exact r_iretW (cd := 0) C hr0 hk hAe hag hW hf0 hO2 (fun v hv => by cases hv; rfl) (by show 0 + rm.cells ≤ kc + 1; omega) (by show 0 + rm.slots ≤ ks + 6; omega) dL_village_18
  · subst hsh
    have hO1 : outc tc o f H1 := (hkp o hO.lt (nAF hno hO.lt)).trans hO
    have hm := mdAU_of (hr cn hcn)
    rcases hm with rfl | rfl
    · subst hcn
      refine vx_catch (own := RL) (name := "java/lang/IllegalArgumentException") (E := "java/lang/IllegalArgumentException") C.1.2.2.2.1 [] (xce 0 8 11 13) [xce 0 8 14 15] htab (fun z hz => absurd hz List.not_mem_nil) (by decide) (by decide) (C.1.2.2.2.2 _ kw_1074) (va_Nw.use (nwT_on _ ct_3) (hN.2 _ ct_3)) hce hcv hcl ?_
      refine lv_astore_n (lv' := (2, .ref q) :: [(0, .ref (oa (0, 0))), (1, .ref o)]) hx hb dL_village_11 rfl hl (by decide) rfl (fun ls hl => ?_)
      refine lv_iconst (v := 1) hx hb dL_village_12 (by decide) ?_
      exact r_iretW (cd := 1) C hr0 hk hAe AGR.rf hW hf0 hO1 (fun v hv => by cases hv) (by show 0 + rm.cells ≤ kc + 1; omega) (by show 0 + rm.slots ≤ ks + 6; omega) dL_village_13
    · subst hcn
      refine vx_catch (own := RL) (name := "java/lang/UnsupportedOperationException") (E := "java/lang/UnsupportedOperationException") C.1.2.2.2.1 [xce 0 8 11 13] (xce 0 8 14 15) [] htab (fun z hz => by rw [List.mem_singleton.mp hz]; exact Or.inr ⟨by decide, "java/lang/IllegalArgumentException", C.1.2.2.2.2 _ kw_1074, hnc.1⟩) (by decide) (by decide) (C.1.2.2.2.2 _ kw_1075) (va_Nw.use (nwT_on _ ct_5) (hN.2 _ ct_5)) hce hcv hcl ?_
      refine lv_astore_n (lv' := (2, .ref q) :: [(0, .ref (oa (0, 0))), (1, .ref o)]) hx hb dL_village_14 rfl hl (by decide) rfl (fun ls hl => ?_)
      refine lv_iconst (v := 2) hx hb dL_village_15 (by decide) ?_
      exact r_iretW (cd := 2) C hr0 hk hAe AGR.rf hW hf0 hO1 (fun v hv => by cases hv) (by show 0 + rm.cells ≤ kc + 1; omega) (by show 0 + rm.slots ≤ ks + 6; omega) dL_village_16
set_option maxHeartbeats 4000000 in
set_option maxRecDepth 100000 in
theorem cW_law {l : Launch} {D : va_G} {tc : Nat → ClassId} {ro : Ro} {oa : Ky → Nat} {sh : Sh} {ln : Nat → Nat} {μ : Mm} {gk : Option (((Int32 ⊕ Nat) × Sh × (Nat → Nat) × Mm) × Nat × Nat)} {r : Int32 ⊕ Nat} {sh' : Sh} {ln' : Nat → Nat} {b : Mm} {kc ks : Nat} (hG : CtG l D tc ro oa yX10_law cX10_law 3 (some .int) [.ref (oa (0, 0))] sh ln μ (fun x => some (.int x)) gk) (hg0 : gk = some ((r, sh', ln', b), kc, ks)) (hr : ∀ cn, r = .inr cn → 1 ≤ mdA cn) : CtW l D tc ro oa yL_law cL_law 3 [(0, 8, 11, 13)] (rma 46 1260 (kc + 1) (ks + 6)) [] sh ln μ (cdW mdA r) (lvI r) sh' ln' b := by
  obtain ⟨rm, ⟨b1, b2, b3, b4⟩, hM⟩ := hG r sh' ln' b kc ks hg0
  refine CtW.of (by decide) (fun o => Nat.le_of_ble_eq_true rfl) (fun aa o f p e s m args below meth c A hAe C hr0 hk htab hW hU hN hnc hO hno hAo ls hl => ?_)
  have hx := C.1.1
  have hb := C.1.2.1
  have hl : lv_has ls 3 [(0, .ref (oa (0, 0))), (1, .ref o)] := hl
  refine lv_aload_n hx hb dL_law_0 rfl (lv_at hl 1 rfl) ?_
  refine lv_iconst (v := 0) hx hb dL_law_1 (by decide) ?_
  refine lv_aload_n hx hb dL_law_2 rfl (lv_at hl 0 rfl) ?_
  refine r_callG (k := ((0, 0) : Ky)) (C0 := RX10) C hU hN hW hl lk_L_17 hM ⟨by show rm.frames + 1 ≤ 46; omega, by show 8 + (3 + 11) + rm.locals ≤ 1260; omega⟩ rfl rfl rfl (As := []) (rest := [.int 0, .ref o]) rfl rfl (Nat.le_of_ble_eq_true rfl) dL_law_3 ⟨by show 0 + rm.cells ≤ kc + 1; omega, by show 0 + rm.slots ≤ ks + 6; omega⟩ (fun x hx2 oa' aa' H1 locs1 hag hW hf0 hz hkp => ?_) (fun cn hcn hsh aa' H1 locs1 q ce hW hf0 hz hkp hce hcv hcl => ?_)
  · subst hx2
    have hO1 : outc tc o f H1 := (hkp o hO.lt (nAF hno hO.lt)).trans hO
    have hno1 := nfa hno hO.lt hf0
    refine lv_i2l hx hb dL_law_6 rfl ?_
    refine r_lastW C hW hO1 hno1 hAo dL_law_7 (fun H2 locs2 hW hz2 hO2 => ?_)
    refine lv_goto (tgt := 14) hx hb dL_law_8 (by decide) ?_
    refine lv_iconst (v := 0) hx hb dL_law_14 (by decide) ?_
    exact r_iretW (cd := 0) C hr0 hk hAe hag hW hf0 hO2 (fun v hv => by cases hv; rfl) (by show 0 + rm.cells ≤ kc + 1; omega) (by show 0 + rm.slots ≤ ks + 6; omega) dL_law_15
  · subst hsh
    have hO1 : outc tc o f H1 := (hkp o hO.lt (nAF hno hO.lt)).trans hO
    have hm := mdA_of (hr cn hcn)
    rcases hm with rfl
    · subst hcn
      refine vx_catch (own := RL) (name := "java/lang/IllegalArgumentException") (E := "java/lang/IllegalArgumentException") C.1.2.2.2.1 [] (xce 0 8 11 13) [] htab (fun z hz => absurd hz List.not_mem_nil) (by decide) (by decide) (C.1.2.2.2.2 _ kw_1074) (va_Nw.use (nwT_on _ ct_3) (hN.2 _ ct_3)) hce hcv hcl ?_
      refine lv_astore_n (lv' := (2, .ref q) :: [(0, .ref (oa (0, 0))), (1, .ref o)]) hx hb dL_law_11 rfl hl (by decide) rfl (fun ls hl => ?_)
      refine lv_iconst (v := 1) hx hb dL_law_12 (by decide) ?_
      exact r_iretW (cd := 1) C hr0 hk hAe AGR.rf hW hf0 hO1 (fun v hv => by cases hv) (by show 0 + rm.cells ≤ kc + 1; omega) (by show 0 + rm.slots ≤ ks + 6; omega) dL_law_13
set_option maxHeartbeats 4000000 in
set_option maxRecDepth 100000 in
theorem cW_person {l : Launch} {D : va_G} {tc : Nat → ClassId} {ro : Ro} {oa : Ky → Nat} {sh : Sh} {ln : Nat → Nat} {μ : Mm} {v1 v2 : Int32} {gk : Option (((Int32 ⊕ Nat) × Sh × (Nat → Nat) × Mm) × Nat × Nat)} {r : Int32 ⊕ Nat} {sh' : Sh} {ln' : Nat → Nat} {b : Mm} {kc ks : Nat} (hG : CtG l D tc ro oa yX10_person cX10_person 3 (some .int) [.ref (oa (0, 0)), .int v1, .int v2] sh ln μ (fun x => some (.int x)) gk) (hg0 : gk = some ((r, sh', ln', b), kc, ks)) (hr : ∀ cn, r = .inr cn → 1 ≤ mdIN cn) : CtW l D tc ro oa yL_person cL_person 5 [(0, 10, 13, 24), (0, 10, 17, 26)] (rma 46 1260 (kc + 1) (ks + 6)) [.int v1, .int v2] sh ln μ (cdW mdIN r) (lvI r) sh' ln' b := by
  obtain ⟨rm, ⟨b1, b2, b3, b4⟩, hM⟩ := hG r sh' ln' b kc ks hg0
  refine CtW.of (by decide) (fun o => Nat.le_of_ble_eq_true rfl) (fun aa o f p e s m args below meth c A hAe C hr0 hk htab hW hU hN hnc hO hno hAo ls hl => ?_)
  have hx := C.1.1
  have hb := C.1.2.1
  have hl : lv_has ls 5 [(0, .ref (oa (0, 0))), (1, .int v1), (2, .int v2), (3, .ref o)] := hl
  refine lv_aload_n hx hb dL_person_0 rfl (lv_at hl 3 rfl) ?_
  refine lv_iconst (v := 0) hx hb dL_person_1 (by decide) ?_
  refine lv_aload_n hx hb dL_person_2 rfl (lv_at hl 0 rfl) ?_
  refine lv_iload_n hx hb dL_person_3 rfl (lv_at hl 1 rfl) ?_
  refine lv_iload_n hx hb dL_person_4 rfl (lv_at hl 2 rfl) ?_
  refine r_callG (k := ((0, 0) : Ky)) (C0 := RX10) C hU hN hW hl lk_L_20 hM ⟨by show rm.frames + 1 ≤ 46; omega, by show 8 + (3 + 11) + rm.locals ≤ 1260; omega⟩ rfl rfl rfl (As := [.int v1, .int v2]) (rest := [.int 0, .ref o]) rfl rfl (Nat.le_of_ble_eq_true rfl) dL_person_5 ⟨by show 0 + rm.cells ≤ kc + 1; omega, by show 0 + rm.slots ≤ ks + 6; omega⟩ (fun x hx2 oa' aa' H1 locs1 hag hW hf0 hz hkp => ?_) (fun cn hcn hsh aa' H1 locs1 q ce hW hf0 hz hkp hce hcv hcl => ?_)
  · subst hx2
    have hO1 : outc tc o f H1 := (hkp o hO.lt (nAF hno hO.lt)).trans hO
    have hno1 := nfa hno hO.lt hf0
    refine lv_i2l hx hb dL_person_8 rfl ?_
    refine r_lastW C hW hO1 hno1 hAo dL_person_9 (fun H2 locs2 hW hz2 hO2 => ?_)
    refine lv_goto (tgt := 21) hx hb dL_person_10 (by decide) ?_
    refine lv_iconst (v := 0) hx hb dL_person_21 (by decide) ?_
    exact r_iretW (cd := 0) C hr0 hk hAe hag hW hf0 hO2 (fun v hv => by cases hv; rfl) (by show 0 + rm.cells ≤ kc + 1; omega) (by show 0 + rm.slots ≤ ks + 6; omega) dL_person_22
  · subst hsh
    have hO1 : outc tc o f H1 := (hkp o hO.lt (nAF hno hO.lt)).trans hO
    have hm := mdIN_of (hr cn hcn)
    rcases hm with rfl | rfl
    · subst hcn
      refine vx_catch (own := RL) (name := "java/lang/IndexOutOfBoundsException") (E := "java/lang/IndexOutOfBoundsException") C.1.2.2.2.1 [] (xce 0 10 13 24) [xce 0 10 17 26] htab (fun z hz => absurd hz List.not_mem_nil) (by decide) (by decide) (C.1.2.2.2.2 _ kw_1388) (va_Nw.use (nwT_on _ ct_1) (hN.2 _ ct_1)) hce hcv hcl ?_
      refine lv_astore (lv' := (4, .ref q) :: [(0, .ref (oa (0, 0))), (1, .int v1), (2, .int v2), (3, .ref o)]) hx hb dL_person_13 hl (by decide) rfl (fun ls hl => ?_)
      refine lv_iconst (v := 1) hx hb dL_person_15 (by decide) ?_
      exact r_iretW (cd := 1) C hr0 hk hAe AGR.rf hW hf0 hO1 (fun v hv => by cases hv) (by show 0 + rm.cells ≤ kc + 1; omega) (by show 0 + rm.slots ≤ ks + 6; omega) dL_person_16
    · subst hcn
      refine vx_catch (own := RL) (name := "java/util/NoSuchElementException") (E := "java/util/NoSuchElementException") C.1.2.2.2.1 [xce 0 10 13 24] (xce 0 10 17 26) [] htab (fun z hz => by rw [List.mem_singleton.mp hz]; exact Or.inr ⟨by decide, "java/lang/IndexOutOfBoundsException", C.1.2.2.2.2 _ kw_1388, hnc.2.1⟩) (by decide) (by decide) (C.1.2.2.2.2 _ kw_1389) (va_Nw.use (nwT_on _ ct_2) (hN.2 _ ct_2)) hce hcv hcl ?_
      refine lv_astore (lv' := (4, .ref q) :: [(0, .ref (oa (0, 0))), (1, .int v1), (2, .int v2), (3, .ref o)]) hx hb dL_person_17 hl (by decide) rfl (fun ls hl => ?_)
      refine lv_iconst (v := 2) hx hb dL_person_19 (by decide) ?_
      exact r_iretW (cd := 2) C hr0 hk hAe AGR.rf hW hf0 hO1 (fun v hv => by cases hv) (by show 0 + rm.cells ≤ kc + 1; omega) (by show 0 + rm.slots ≤ ks + 6; omega) dL_person_20
set_option maxHeartbeats 4000000 in
set_option maxRecDepth 100000 in
theorem cW_left {l : Launch} {D : va_G} {tc : Nat → ClassId} {ro : Ro} {oa : Ky → Nat} {sh : Sh} {ln : Nat → Nat} {μ : Mm} {v1 : Int32} {gk : Option (((Int32 ⊕ Nat) × Sh × (Nat → Nat) × Mm) × Nat × Nat)} {r : Int32 ⊕ Nat} {sh' : Sh} {ln' : Nat → Nat} {b : Mm} {kc ks : Nat} (hG : CtG l D tc ro oa yX10_left cX10_left 2 (some .boolean) [.ref (oa (0, 0)), .int v1] sh ln μ (fun x => some (.int x)) gk) (hg0 : gk = some ((r, sh', ln', b), kc, ks)) (hr : ∀ cn, r = .inr cn → 1 ≤ mdI cn) : CtW l D tc ro oa yL_left cL_left 4 [(0, 16, 19, 24)] (rma 46 1260 (kc + 1) (ks + 6)) [.int v1] sh ln μ (cdW mdI r) (lvB r) sh' ln' b := by
  obtain ⟨rm, ⟨b1, b2, b3, b4⟩, hM⟩ := hG r sh' ln' b kc ks hg0
  refine CtW.of (by decide) (fun o => Nat.le_of_ble_eq_true rfl) (fun aa o f p e s m args below meth c A hAe C hr0 hk htab hW hU hN hnc hO hno hAo ls hl => ?_)
  have hx := C.1.1
  have hb := C.1.2.1
  have hl : lv_has ls 4 [(0, .ref (oa (0, 0))), (1, .int v1), (2, .ref o)] := hl
  refine lv_aload_n hx hb dL_left_0 rfl (lv_at hl 2 rfl) ?_
  refine lv_iconst (v := 0) hx hb dL_left_1 (by decide) ?_
  refine lv_aload_n hx hb dL_left_2 rfl (lv_at hl 0 rfl) ?_
  refine lv_iload_n hx hb dL_left_3 rfl (lv_at hl 1 rfl) ?_
  refine r_callG (k := ((0, 0) : Ky)) (C0 := RX10) C hU hN hW hl lk_L_28 hM ⟨by show rm.frames + 1 ≤ 46; omega, by show 8 + (2 + 11) + rm.locals ≤ 1260; omega⟩ rfl rfl rfl (As := [.int v1]) (rest := [.int 0, .ref o]) rfl rfl (Nat.le_of_ble_eq_true rfl) dL_left_4 ⟨by show 0 + rm.cells ≤ kc + 1; omega, by show 0 + rm.slots ≤ ks + 6; omega⟩ (fun x hx2 oa' aa' H1 locs1 hag hW hf0 hz hkp => ?_) (fun cn hcn hsh aa' H1 locs1 q ce hW hf0 hz hkp hce hcv hcl => ?_)
  · subst hx2
    have hO1 : outc tc o f H1 := (hkp o hO.lt (nAF hno hO.lt)).trans hO
    have hno1 := nfa hno hO.lt hf0
    refine lv_if_eq (tgt := 14) hx hb dL_left_7 (by decide) (fun c1 => ?_) (fun c1 => ?_)
    · refine lv_lconst (v := 0) hx hb dL_left_14 rfl ?_
      refine r_lastW C hW hO1 hno1 hAo dL_left_15 (fun H2 locs2 hW hz2 hO2 => ?_)
      refine lv_goto (tgt := 22) hx hb dL_left_16 (by decide) ?_
      refine lv_iconst (v := 0) hx hb dL_left_22 (by decide) ?_
      exact r_iretW (cd := 0) C hr0 hk hAe hag hW hf0 hO2 (fun v hv => by cases hv; exact (if_pos c1).symm) (by show 0 + rm.cells ≤ kc + 1; omega) (by show 0 + rm.slots ≤ ks + 6; omega) dL_left_23
    · refine lv_lconst (v := 1) hx hb dL_left_10 rfl ?_
      refine lv_goto (tgt := 15) hx hb dL_left_11 (by decide) ?_
      refine r_lastW C hW hO1 hno1 hAo dL_left_15 (fun H2 locs2 hW hz2 hO2 => ?_)
      refine lv_goto (tgt := 22) hx hb dL_left_16 (by decide) ?_
      refine lv_iconst (v := 0) hx hb dL_left_22 (by decide) ?_
      exact r_iretW (cd := 0) C hr0 hk hAe hag hW hf0 hO2 (fun v hv => by cases hv; exact (if_neg c1).symm) (by show 0 + rm.cells ≤ kc + 1; omega) (by show 0 + rm.slots ≤ ks + 6; omega) dL_left_23
  · subst hsh
    have hO1 : outc tc o f H1 := (hkp o hO.lt (nAF hno hO.lt)).trans hO
    have hm := mdI_of (hr cn hcn)
    rcases hm with rfl
    · subst hcn
      refine vx_catch (own := RL) (name := "java/lang/IndexOutOfBoundsException") (E := "java/lang/IndexOutOfBoundsException") C.1.2.2.2.1 [] (xce 0 16 19 24) [] htab (fun z hz => absurd hz List.not_mem_nil) (by decide) (by decide) (C.1.2.2.2.2 _ kw_1388) (va_Nw.use (nwT_on _ ct_1) (hN.2 _ ct_1)) hce hcv hcl ?_
      refine lv_astore_n (lv' := (3, .ref q) :: [(0, .ref (oa (0, 0))), (1, .int v1), (2, .ref o)]) hx hb dL_left_19 rfl hl (by decide) rfl (fun ls hl => ?_)
      refine lv_iconst (v := 1) hx hb dL_left_20 (by decide) ?_
      exact r_iretW (cd := 1) C hr0 hk hAe AGR.rf hW hf0 hO1 (fun v hv => by cases hv) (by show 0 + rm.cells ≤ kc + 1; omega) (by show 0 + rm.slots ≤ ks + 6; omega) dL_left_21
set_option maxHeartbeats 4000000 in
set_option maxRecDepth 100000 in
theorem cW_apart {l : Launch} {D : va_G} {tc : Nat → ClassId} {ro : Ro} {oa : Ky → Nat} {sh : Sh} {ln : Nat → Nat} {μ : Mm} {v1 v2 v3 : Int32} {gk : Option (((Int32 ⊕ Nat) × Sh × (Nat → Nat) × Mm) × Nat × Nat)} {r : Int32 ⊕ Nat} {sh' : Sh} {ln' : Nat → Nat} {b : Mm} {kc ks : Nat} (hG : CtG l D tc ro oa yX10_apart cX10_apart 4 (some .boolean) [.ref (oa (0, 0)), .int v1, .int v2, .int v3] sh ln μ (fun x => some (.int x)) gk) (hg0 : gk = some ((r, sh', ln', b), kc, ks)) (hr : ∀ cn, r = .inr cn → 1 ≤ mdIS cn) : CtW l D tc ro oa yL_apart cL_apart 6 [(0, 19, 22, 24), (0, 19, 26, 36)] (rma 46 1260 (kc + 1) (ks + 6)) [.int v1, .int v2, .int v3] sh ln μ (cdW mdIS r) (lvB r) sh' ln' b := by
  obtain ⟨rm, ⟨b1, b2, b3, b4⟩, hM⟩ := hG r sh' ln' b kc ks hg0
  refine CtW.of (by decide) (fun o => Nat.le_of_ble_eq_true rfl) (fun aa o f p e s m args below meth c A hAe C hr0 hk htab hW hU hN hnc hO hno hAo ls hl => ?_)
  have hx := C.1.1
  have hb := C.1.2.1
  have hl : lv_has ls 6 [(0, .ref (oa (0, 0))), (1, .int v1), (2, .int v2), (3, .int v3), (4, .ref o)] := hl
  refine lv_aload hx hb dL_apart_0 (lv_at hl 4 rfl) ?_
  refine lv_iconst (v := 0) hx hb dL_apart_2 (by decide) ?_
  refine lv_aload_n hx hb dL_apart_3 rfl (lv_at hl 0 rfl) ?_
  refine lv_iload_n hx hb dL_apart_4 rfl (lv_at hl 1 rfl) ?_
  refine lv_iload_n hx hb dL_apart_5 rfl (lv_at hl 2 rfl) ?_
  refine lv_iload_n hx hb dL_apart_6 rfl (lv_at hl 3 rfl) ?_
  refine r_callG (k := ((0, 0) : Ky)) (C0 := RX10) C hU hN hW hl lk_L_32 hM ⟨by show rm.frames + 1 ≤ 46; omega, by show 8 + (4 + 11) + rm.locals ≤ 1260; omega⟩ rfl rfl rfl (As := [.int v1, .int v2, .int v3]) (rest := [.int 0, .ref o]) rfl rfl (Nat.le_of_ble_eq_true rfl) dL_apart_7 ⟨by show 0 + rm.cells ≤ kc + 1; omega, by show 0 + rm.slots ≤ ks + 6; omega⟩ (fun x hx2 oa' aa' H1 locs1 hag hW hf0 hz hkp => ?_) (fun cn hcn hsh aa' H1 locs1 q ce hW hf0 hz hkp hce hcv hcl => ?_)
  · subst hx2
    have hO1 : outc tc o f H1 := (hkp o hO.lt (nAF hno hO.lt)).trans hO
    have hno1 := nfa hno hO.lt hf0
    refine lv_if_eq (tgt := 17) hx hb dL_apart_10 (by decide) (fun c1 => ?_) (fun c1 => ?_)
    · refine lv_lconst (v := 0) hx hb dL_apart_17 rfl ?_
      refine r_lastW C hW hO1 hno1 hAo dL_apart_18 (fun H2 locs2 hW hz2 hO2 => ?_)
      refine lv_goto (tgt := 30) hx hb dL_apart_19 (by decide) ?_
      refine lv_iconst (v := 0) hx hb dL_apart_30 (by decide) ?_
      exact r_iretW (cd := 0) C hr0 hk hAe hag hW hf0 hO2 (fun v hv => by cases hv; exact (if_pos c1).symm) (by show 0 + rm.cells ≤ kc + 1; omega) (by show 0 + rm.slots ≤ ks + 6; omega) dL_apart_31
    · refine lv_lconst (v := 1) hx hb dL_apart_13 rfl ?_
      refine lv_goto (tgt := 18) hx hb dL_apart_14 (by decide) ?_
      refine r_lastW C hW hO1 hno1 hAo dL_apart_18 (fun H2 locs2 hW hz2 hO2 => ?_)
      refine lv_goto (tgt := 30) hx hb dL_apart_19 (by decide) ?_
      refine lv_iconst (v := 0) hx hb dL_apart_30 (by decide) ?_
      exact r_iretW (cd := 0) C hr0 hk hAe hag hW hf0 hO2 (fun v hv => by cases hv; exact (if_neg c1).symm) (by show 0 + rm.cells ≤ kc + 1; omega) (by show 0 + rm.slots ≤ ks + 6; omega) dL_apart_31
  · subst hsh
    have hO1 : outc tc o f H1 := (hkp o hO.lt (nAF hno hO.lt)).trans hO
    have hm := mdIS_of (hr cn hcn)
    rcases hm with rfl | rfl
    · subst hcn
      refine vx_catch (own := RL) (name := "java/lang/IndexOutOfBoundsException") (E := "java/lang/IndexOutOfBoundsException") C.1.2.2.2.1 [] (xce 0 19 22 24) [xce 0 19 26 36] htab (fun z hz => absurd hz List.not_mem_nil) (by decide) (by decide) (C.1.2.2.2.2 _ kw_1388) (va_Nw.use (nwT_on _ ct_1) (hN.2 _ ct_1)) hce hcv hcl ?_
      refine lv_astore (lv' := (5, .ref q) :: [(0, .ref (oa (0, 0))), (1, .int v1), (2, .int v2), (3, .int v3), (4, .ref o)]) hx hb dL_apart_22 hl (by decide) rfl (fun ls hl => ?_)
      refine lv_iconst (v := 1) hx hb dL_apart_24 (by decide) ?_
      exact r_iretW (cd := 1) C hr0 hk hAe AGR.rf hW hf0 hO1 (fun v hv => by cases hv) (by show 0 + rm.cells ≤ kc + 1; omega) (by show 0 + rm.slots ≤ ks + 6; omega) dL_apart_25
    · subst hcn
      refine vx_catch (own := RL) (name := "java/lang/IllegalStateException") (E := "java/lang/IllegalStateException") C.1.2.2.2.1 [xce 0 19 22 24] (xce 0 19 26 36) [] htab (fun z hz => by rw [List.mem_singleton.mp hz]; exact Or.inr ⟨by decide, "java/lang/IndexOutOfBoundsException", C.1.2.2.2.2 _ kw_1388, hnc.2.2.1⟩) (by decide) (by decide) (C.1.2.2.2.2 _ kw_1467) (va_Nw.use (nwT_on _ ct_4) (hN.2 _ ct_4)) hce hcv hcl ?_
      refine lv_astore (lv' := (5, .ref q) :: [(0, .ref (oa (0, 0))), (1, .int v1), (2, .int v2), (3, .int v3), (4, .ref o)]) hx hb dL_apart_26 hl (by decide) rfl (fun ls hl => ?_)
      refine lv_iconst (v := 2) hx hb dL_apart_28 (by decide) ?_
      exact r_iretW (cd := 2) C hr0 hk hAe AGR.rf hW hf0 hO1 (fun v hv => by cases hv) (by show 0 + rm.cells ≤ kc + 1; omega) (by show 0 + rm.slots ≤ ks + 6; omega) dL_apart_29
set_option maxHeartbeats 4000000 in
set_option maxRecDepth 100000 in
theorem cW_sure {l : Launch} {D : va_G} {tc : Nat → ClassId} {ro : Ro} {oa : Ky → Nat} {sh : Sh} {ln : Nat → Nat} {μ : Mm} {v1 v2 : Int32} {gk : Option (((Int32 ⊕ Nat) × Sh × (Nat → Nat) × Mm) × Nat × Nat)} {r : Int32 ⊕ Nat} {sh' : Sh} {ln' : Nat → Nat} {b : Mm} {kc ks : Nat} (hG : CtG l D tc ro oa yX10_sure cX10_sure 3 (some .boolean) [.ref (oa (0, 0)), .int v1, .int v2] sh ln μ (fun x => some (.int x)) gk) (hg0 : gk = some ((r, sh', ln', b), kc, ks)) (hr : ∀ cn, r = .inr cn → 1 ≤ mdIS cn) : CtW l D tc ro oa yL_sure cL_sure 5 [(0, 17, 20, 24), (0, 17, 24, 36)] (rma 46 1260 (kc + 1) (ks + 6)) [.int v1, .int v2] sh ln μ (cdW mdIS r) (lvB r) sh' ln' b := by
  obtain ⟨rm, ⟨b1, b2, b3, b4⟩, hM⟩ := hG r sh' ln' b kc ks hg0
  refine CtW.of (by decide) (fun o => Nat.le_of_ble_eq_true rfl) (fun aa o f p e s m args below meth c A hAe C hr0 hk htab hW hU hN hnc hO hno hAo ls hl => ?_)
  have hx := C.1.1
  have hb := C.1.2.1
  have hl : lv_has ls 5 [(0, .ref (oa (0, 0))), (1, .int v1), (2, .int v2), (3, .ref o)] := hl
  refine lv_aload_n hx hb dL_sure_0 rfl (lv_at hl 3 rfl) ?_
  refine lv_iconst (v := 0) hx hb dL_sure_1 (by decide) ?_
  refine lv_aload_n hx hb dL_sure_2 rfl (lv_at hl 0 rfl) ?_
  refine lv_iload_n hx hb dL_sure_3 rfl (lv_at hl 1 rfl) ?_
  refine lv_iload_n hx hb dL_sure_4 rfl (lv_at hl 2 rfl) ?_
  refine r_callG (k := ((0, 0) : Ky)) (C0 := RX10) C hU hN hW hl lk_L_38 hM ⟨by show rm.frames + 1 ≤ 46; omega, by show 8 + (3 + 11) + rm.locals ≤ 1260; omega⟩ rfl rfl rfl (As := [.int v1, .int v2]) (rest := [.int 0, .ref o]) rfl rfl (Nat.le_of_ble_eq_true rfl) dL_sure_5 ⟨by show 0 + rm.cells ≤ kc + 1; omega, by show 0 + rm.slots ≤ ks + 6; omega⟩ (fun x hx2 oa' aa' H1 locs1 hag hW hf0 hz hkp => ?_) (fun cn hcn hsh aa' H1 locs1 q ce hW hf0 hz hkp hce hcv hcl => ?_)
  · subst hx2
    have hO1 : outc tc o f H1 := (hkp o hO.lt (nAF hno hO.lt)).trans hO
    have hno1 := nfa hno hO.lt hf0
    refine lv_if_eq (tgt := 15) hx hb dL_sure_8 (by decide) (fun c1 => ?_) (fun c1 => ?_)
    · refine lv_lconst (v := 0) hx hb dL_sure_15 rfl ?_
      refine r_lastW C hW hO1 hno1 hAo dL_sure_16 (fun H2 locs2 hW hz2 hO2 => ?_)
      refine lv_goto (tgt := 28) hx hb dL_sure_17 (by decide) ?_
      refine lv_iconst (v := 0) hx hb dL_sure_28 (by decide) ?_
      exact r_iretW (cd := 0) C hr0 hk hAe hag hW hf0 hO2 (fun v hv => by cases hv; exact (if_pos c1).symm) (by show 0 + rm.cells ≤ kc + 1; omega) (by show 0 + rm.slots ≤ ks + 6; omega) dL_sure_29
    · refine lv_lconst (v := 1) hx hb dL_sure_11 rfl ?_
      refine lv_goto (tgt := 16) hx hb dL_sure_12 (by decide) ?_
      refine r_lastW C hW hO1 hno1 hAo dL_sure_16 (fun H2 locs2 hW hz2 hO2 => ?_)
      refine lv_goto (tgt := 28) hx hb dL_sure_17 (by decide) ?_
      refine lv_iconst (v := 0) hx hb dL_sure_28 (by decide) ?_
      exact r_iretW (cd := 0) C hr0 hk hAe hag hW hf0 hO2 (fun v hv => by cases hv; exact (if_neg c1).symm) (by show 0 + rm.cells ≤ kc + 1; omega) (by show 0 + rm.slots ≤ ks + 6; omega) dL_sure_29
  · subst hsh
    have hO1 : outc tc o f H1 := (hkp o hO.lt (nAF hno hO.lt)).trans hO
    have hm := mdIS_of (hr cn hcn)
    rcases hm with rfl | rfl
    · subst hcn
      refine vx_catch (own := RL) (name := "java/lang/IndexOutOfBoundsException") (E := "java/lang/IndexOutOfBoundsException") C.1.2.2.2.1 [] (xce 0 17 20 24) [xce 0 17 24 36] htab (fun z hz => absurd hz List.not_mem_nil) (by decide) (by decide) (C.1.2.2.2.2 _ kw_1388) (va_Nw.use (nwT_on _ ct_1) (hN.2 _ ct_1)) hce hcv hcl ?_
      refine lv_astore (lv' := (4, .ref q) :: [(0, .ref (oa (0, 0))), (1, .int v1), (2, .int v2), (3, .ref o)]) hx hb dL_sure_20 hl (by decide) rfl (fun ls hl => ?_)
      refine lv_iconst (v := 1) hx hb dL_sure_22 (by decide) ?_
      exact r_iretW (cd := 1) C hr0 hk hAe AGR.rf hW hf0 hO1 (fun v hv => by cases hv) (by show 0 + rm.cells ≤ kc + 1; omega) (by show 0 + rm.slots ≤ ks + 6; omega) dL_sure_23
    · subst hcn
      refine vx_catch (own := RL) (name := "java/lang/IllegalStateException") (E := "java/lang/IllegalStateException") C.1.2.2.2.1 [xce 0 17 20 24] (xce 0 17 24 36) [] htab (fun z hz => by rw [List.mem_singleton.mp hz]; exact Or.inr ⟨by decide, "java/lang/IndexOutOfBoundsException", C.1.2.2.2.2 _ kw_1388, hnc.2.2.1⟩) (by decide) (by decide) (C.1.2.2.2.2 _ kw_1467) (va_Nw.use (nwT_on _ ct_4) (hN.2 _ ct_4)) hce hcv hcl ?_
      refine lv_astore (lv' := (4, .ref q) :: [(0, .ref (oa (0, 0))), (1, .int v1), (2, .int v2), (3, .ref o)]) hx hb dL_sure_24 hl (by decide) rfl (fun ls hl => ?_)
      refine lv_iconst (v := 2) hx hb dL_sure_26 (by decide) ?_
      exact r_iretW (cd := 2) C hr0 hk hAe AGR.rf hW hf0 hO1 (fun v hv => by cases hv) (by show 0 + rm.cells ≤ kc + 1; omega) (by show 0 + rm.slots ≤ ks + 6; omega) dL_sure_27
set_option maxHeartbeats 4000000 in
set_option maxRecDepth 100000 in
theorem cW_manner {l : Launch} {D : va_G} {tc : Nat → ClassId} {ro : Ro} {oa : Ky → Nat} {sh : Sh} {ln : Nat → Nat} {μ : Mm} {v1 v2 v3 : Int32} {gk : Option (((Int32 ⊕ Nat) × Sh × (Nat → Nat) × Mm) × Nat × Nat)} {r : Int32 ⊕ Nat} {sh' : Sh} {ln' : Nat → Nat} {b : Mm} {kc ks : Nat} (hG : CtG l D tc ro oa yX10_manner cX10_manner 4 (some .int) [.ref (oa (0, 0)), .int v1, .int v2, .int v3] sh ln μ (fun x => some (.int x)) gk) (hg0 : gk = some ((r, sh', ln', b), kc, ks)) (hr : ∀ cn, r = .inr cn → 1 ≤ mdIAS cn) : CtW l D tc ro oa yL_manner cL_manner 6 [(0, 12, 15, 24), (0, 12, 19, 13), (0, 12, 23, 36)] (rma 46 1260 (kc + 1) (ks + 6)) [.int v1, .int v2, .int v3] sh ln μ (cdW mdIAS r) (lvI r) sh' ln' b := by
  obtain ⟨rm, ⟨b1, b2, b3, b4⟩, hM⟩ := hG r sh' ln' b kc ks hg0
  refine CtW.of (by decide) (fun o => Nat.le_of_ble_eq_true rfl) (fun aa o f p e s m args below meth c A hAe C hr0 hk htab hW hU hN hnc hO hno hAo ls hl => ?_)
  have hx := C.1.1
  have hb := C.1.2.1
  have hl : lv_has ls 6 [(0, .ref (oa (0, 0))), (1, .int v1), (2, .int v2), (3, .int v3), (4, .ref o)] := hl
  refine lv_aload hx hb dL_manner_0 (lv_at hl 4 rfl) ?_
  refine lv_iconst (v := 0) hx hb dL_manner_2 (by decide) ?_
  refine lv_aload_n hx hb dL_manner_3 rfl (lv_at hl 0 rfl) ?_
  refine lv_iload_n hx hb dL_manner_4 rfl (lv_at hl 1 rfl) ?_
  refine lv_iload_n hx hb dL_manner_5 rfl (lv_at hl 2 rfl) ?_
  refine lv_iload_n hx hb dL_manner_6 rfl (lv_at hl 3 rfl) ?_
  refine r_callG (k := ((0, 0) : Ky)) (C0 := RX10) C hU hN hW hl lk_L_42 hM ⟨by show rm.frames + 1 ≤ 46; omega, by show 8 + (4 + 11) + rm.locals ≤ 1260; omega⟩ rfl rfl rfl (As := [.int v1, .int v2, .int v3]) (rest := [.int 0, .ref o]) rfl rfl (Nat.le_of_ble_eq_true rfl) dL_manner_7 ⟨by show 0 + rm.cells ≤ kc + 1; omega, by show 0 + rm.slots ≤ ks + 6; omega⟩ (fun x hx2 oa' aa' H1 locs1 hag hW hf0 hz hkp => ?_) (fun cn hcn hsh aa' H1 locs1 q ce hW hf0 hz hkp hce hcv hcl => ?_)
  · subst hx2
    have hO1 : outc tc o f H1 := (hkp o hO.lt (nAF hno hO.lt)).trans hO
    have hno1 := nfa hno hO.lt hf0
    refine lv_i2l hx hb dL_manner_10 rfl ?_
    refine r_lastW C hW hO1 hno1 hAo dL_manner_11 (fun H2 locs2 hW hz2 hO2 => ?_)
    refine lv_goto (tgt := 27) hx hb dL_manner_12 (by decide) ?_
    refine lv_iconst (v := 0) hx hb dL_manner_27 (by decide) ?_
    exact r_iretW (cd := 0) C hr0 hk hAe hag hW hf0 hO2 (fun v hv => by cases hv; rfl) (by show 0 + rm.cells ≤ kc + 1; omega) (by show 0 + rm.slots ≤ ks + 6; omega) dL_manner_28
  · subst hsh
    have hO1 : outc tc o f H1 := (hkp o hO.lt (nAF hno hO.lt)).trans hO
    have hm := mdIAS_of (hr cn hcn)
    rcases hm with rfl | rfl | rfl
    · subst hcn
      refine vx_catch (own := RL) (name := "java/lang/IndexOutOfBoundsException") (E := "java/lang/IndexOutOfBoundsException") C.1.2.2.2.1 [] (xce 0 12 15 24) [xce 0 12 19 13, xce 0 12 23 36] htab (fun z hz => absurd hz List.not_mem_nil) (by decide) (by decide) (C.1.2.2.2.2 _ kw_1388) (va_Nw.use (nwT_on _ ct_1) (hN.2 _ ct_1)) hce hcv hcl ?_
      refine lv_astore (lv' := (5, .ref q) :: [(0, .ref (oa (0, 0))), (1, .int v1), (2, .int v2), (3, .int v3), (4, .ref o)]) hx hb dL_manner_15 hl (by decide) rfl (fun ls hl => ?_)
      refine lv_iconst (v := 1) hx hb dL_manner_17 (by decide) ?_
      exact r_iretW (cd := 1) C hr0 hk hAe AGR.rf hW hf0 hO1 (fun v hv => by cases hv) (by show 0 + rm.cells ≤ kc + 1; omega) (by show 0 + rm.slots ≤ ks + 6; omega) dL_manner_18
    · subst hcn
      refine vx_catch (own := RL) (name := "java/lang/IllegalArgumentException") (E := "java/lang/IllegalArgumentException") C.1.2.2.2.1 [xce 0 12 15 24] (xce 0 12 19 13) [xce 0 12 23 36] htab (fun z hz => by rw [List.mem_singleton.mp hz]; exact Or.inr ⟨by decide, "java/lang/IndexOutOfBoundsException", C.1.2.2.2.2 _ kw_1388, hnc.2.2.2.1⟩) (by decide) (by decide) (C.1.2.2.2.2 _ kw_1074) (va_Nw.use (nwT_on _ ct_3) (hN.2 _ ct_3)) hce hcv hcl ?_
      refine lv_astore (lv' := (5, .ref q) :: [(0, .ref (oa (0, 0))), (1, .int v1), (2, .int v2), (3, .int v3), (4, .ref o)]) hx hb dL_manner_19 hl (by decide) rfl (fun ls hl => ?_)
      refine lv_iconst (v := 2) hx hb dL_manner_21 (by decide) ?_
      exact r_iretW (cd := 2) C hr0 hk hAe AGR.rf hW hf0 hO1 (fun v hv => by cases hv) (by show 0 + rm.cells ≤ kc + 1; omega) (by show 0 + rm.slots ≤ ks + 6; omega) dL_manner_22
    · subst hcn
      refine vx_catch (own := RL) (name := "java/lang/IllegalStateException") (E := "java/lang/IllegalStateException") C.1.2.2.2.1 [xce 0 12 15 24, xce 0 12 19 13] (xce 0 12 23 36) [] htab (hp2 (Or.inr ⟨by decide, "java/lang/IndexOutOfBoundsException", C.1.2.2.2.2 _ kw_1388, hnc.2.2.1⟩) (Or.inr ⟨by decide, "java/lang/IllegalArgumentException", C.1.2.2.2.2 _ kw_1074, hnc.2.2.2.2⟩)) (by decide) (by decide) (C.1.2.2.2.2 _ kw_1467) (va_Nw.use (nwT_on _ ct_4) (hN.2 _ ct_4)) hce hcv hcl ?_
      refine lv_astore (lv' := (5, .ref q) :: [(0, .ref (oa (0, 0))), (1, .int v1), (2, .int v2), (3, .int v3), (4, .ref o)]) hx hb dL_manner_23 hl (by decide) rfl (fun ls hl => ?_)
      refine lv_iconst (v := 3) hx hb dL_manner_25 (by decide) ?_
      exact r_iretW (cd := 3) C hr0 hk hAe AGR.rf hW hf0 hO1 (fun v hv => by cases hv) (by show 0 + rm.cells ≤ kc + 1; omega) (by show 0 + rm.slots ≤ ks + 6; omega) dL_manner_26
set_option maxHeartbeats 4000000 in
set_option maxRecDepth 100000 in
theorem cW_treat {l : Launch} {D : va_G} {tc : Nat → ClassId} {ro : Ro} {oa : Ky → Nat} {sh : Sh} {ln : Nat → Nat} {μ : Mm} {v1 v2 v3 : Int32} {gk : Option (((Int32 ⊕ Nat) × Sh × (Nat → Nat) × Mm) × Nat × Nat)} {r : Int32 ⊕ Nat} {sh' : Sh} {ln' : Nat → Nat} {b : Mm} {kc ks : Nat} (hG : CtG l D tc ro oa yX10_treat cX10_treat 4 (some .int) [.ref (oa (0, 0)), .int v1, .int v2, .int v3] sh ln μ (fun x => some (.int x)) gk) (hg0 : gk = some ((r, sh', ln', b), kc, ks)) (hr : ∀ cn, r = .inr cn → 1 ≤ mdIAS cn) : CtW l D tc ro oa yL_treat cL_treat 6 [(0, 12, 15, 24), (0, 12, 19, 13), (0, 12, 23, 36)] (rma 46 1260 (kc + 1) (ks + 6)) [.int v1, .int v2, .int v3] sh ln μ (cdW mdIAS r) (lvI r) sh' ln' b := by
  obtain ⟨rm, ⟨b1, b2, b3, b4⟩, hM⟩ := hG r sh' ln' b kc ks hg0
  refine CtW.of (by decide) (fun o => Nat.le_of_ble_eq_true rfl) (fun aa o f p e s m args below meth c A hAe C hr0 hk htab hW hU hN hnc hO hno hAo ls hl => ?_)
  have hx := C.1.1
  have hb := C.1.2.1
  have hl : lv_has ls 6 [(0, .ref (oa (0, 0))), (1, .int v1), (2, .int v2), (3, .int v3), (4, .ref o)] := hl
  refine lv_aload hx hb dL_treat_0 (lv_at hl 4 rfl) ?_
  refine lv_iconst (v := 0) hx hb dL_treat_2 (by decide) ?_
  refine lv_aload_n hx hb dL_treat_3 rfl (lv_at hl 0 rfl) ?_
  refine lv_iload_n hx hb dL_treat_4 rfl (lv_at hl 1 rfl) ?_
  refine lv_iload_n hx hb dL_treat_5 rfl (lv_at hl 2 rfl) ?_
  refine lv_iload_n hx hb dL_treat_6 rfl (lv_at hl 3 rfl) ?_
  refine r_callG (k := ((0, 0) : Ky)) (C0 := RX10) C hU hN hW hl lk_L_46 hM ⟨by show rm.frames + 1 ≤ 46; omega, by show 8 + (4 + 11) + rm.locals ≤ 1260; omega⟩ rfl rfl rfl (As := [.int v1, .int v2, .int v3]) (rest := [.int 0, .ref o]) rfl rfl (Nat.le_of_ble_eq_true rfl) dL_treat_7 ⟨by show 0 + rm.cells ≤ kc + 1; omega, by show 0 + rm.slots ≤ ks + 6; omega⟩ (fun x hx2 oa' aa' H1 locs1 hag hW hf0 hz hkp => ?_) (fun cn hcn hsh aa' H1 locs1 q ce hW hf0 hz hkp hce hcv hcl => ?_)
  · subst hx2
    have hO1 : outc tc o f H1 := (hkp o hO.lt (nAF hno hO.lt)).trans hO
    have hno1 := nfa hno hO.lt hf0
    refine lv_i2l hx hb dL_treat_10 rfl ?_
    refine r_lastW C hW hO1 hno1 hAo dL_treat_11 (fun H2 locs2 hW hz2 hO2 => ?_)
    refine lv_goto (tgt := 27) hx hb dL_treat_12 (by decide) ?_
    refine lv_iconst (v := 0) hx hb dL_treat_27 (by decide) ?_
    exact r_iretW (cd := 0) C hr0 hk hAe hag hW hf0 hO2 (fun v hv => by cases hv; rfl) (by show 0 + rm.cells ≤ kc + 1; omega) (by show 0 + rm.slots ≤ ks + 6; omega) dL_treat_28
  · subst hsh
    have hO1 : outc tc o f H1 := (hkp o hO.lt (nAF hno hO.lt)).trans hO
    have hm := mdIAS_of (hr cn hcn)
    rcases hm with rfl | rfl | rfl
    · subst hcn
      refine vx_catch (own := RL) (name := "java/lang/IndexOutOfBoundsException") (E := "java/lang/IndexOutOfBoundsException") C.1.2.2.2.1 [] (xce 0 12 15 24) [xce 0 12 19 13, xce 0 12 23 36] htab (fun z hz => absurd hz List.not_mem_nil) (by decide) (by decide) (C.1.2.2.2.2 _ kw_1388) (va_Nw.use (nwT_on _ ct_1) (hN.2 _ ct_1)) hce hcv hcl ?_
      refine lv_astore (lv' := (5, .ref q) :: [(0, .ref (oa (0, 0))), (1, .int v1), (2, .int v2), (3, .int v3), (4, .ref o)]) hx hb dL_treat_15 hl (by decide) rfl (fun ls hl => ?_)
      refine lv_iconst (v := 1) hx hb dL_treat_17 (by decide) ?_
      exact r_iretW (cd := 1) C hr0 hk hAe AGR.rf hW hf0 hO1 (fun v hv => by cases hv) (by show 0 + rm.cells ≤ kc + 1; omega) (by show 0 + rm.slots ≤ ks + 6; omega) dL_treat_18
    · subst hcn
      refine vx_catch (own := RL) (name := "java/lang/IllegalArgumentException") (E := "java/lang/IllegalArgumentException") C.1.2.2.2.1 [xce 0 12 15 24] (xce 0 12 19 13) [xce 0 12 23 36] htab (fun z hz => by rw [List.mem_singleton.mp hz]; exact Or.inr ⟨by decide, "java/lang/IndexOutOfBoundsException", C.1.2.2.2.2 _ kw_1388, hnc.2.2.2.1⟩) (by decide) (by decide) (C.1.2.2.2.2 _ kw_1074) (va_Nw.use (nwT_on _ ct_3) (hN.2 _ ct_3)) hce hcv hcl ?_
      refine lv_astore (lv' := (5, .ref q) :: [(0, .ref (oa (0, 0))), (1, .int v1), (2, .int v2), (3, .int v3), (4, .ref o)]) hx hb dL_treat_19 hl (by decide) rfl (fun ls hl => ?_)
      refine lv_iconst (v := 2) hx hb dL_treat_21 (by decide) ?_
      exact r_iretW (cd := 2) C hr0 hk hAe AGR.rf hW hf0 hO1 (fun v hv => by cases hv) (by show 0 + rm.cells ≤ kc + 1; omega) (by show 0 + rm.slots ≤ ks + 6; omega) dL_treat_22
    · subst hcn
      refine vx_catch (own := RL) (name := "java/lang/IllegalStateException") (E := "java/lang/IllegalStateException") C.1.2.2.2.1 [xce 0 12 15 24, xce 0 12 19 13] (xce 0 12 23 36) [] htab (hp2 (Or.inr ⟨by decide, "java/lang/IndexOutOfBoundsException", C.1.2.2.2.2 _ kw_1388, hnc.2.2.1⟩) (Or.inr ⟨by decide, "java/lang/IllegalArgumentException", C.1.2.2.2.2 _ kw_1074, hnc.2.2.2.2⟩)) (by decide) (by decide) (C.1.2.2.2.2 _ kw_1467) (va_Nw.use (nwT_on _ ct_4) (hN.2 _ ct_4)) hce hcv hcl ?_
      refine lv_astore (lv' := (5, .ref q) :: [(0, .ref (oa (0, 0))), (1, .int v1), (2, .int v2), (3, .int v3), (4, .ref o)]) hx hb dL_treat_23 hl (by decide) rfl (fun ls hl => ?_)
      refine lv_iconst (v := 3) hx hb dL_treat_25 (by decide) ?_
      exact r_iretW (cd := 3) C hr0 hk hAe AGR.rf hW hf0 hO1 (fun v hv => by cases hv) (by show 0 + rm.cells ≤ kc + 1; omega) (by show 0 + rm.slots ≤ ks + 6; omega) dL_treat_26
set_option maxHeartbeats 4000000 in
set_option maxRecDepth 100000 in
theorem cW_turn {l : Launch} {D : va_G} {tc : Nat → ClassId} {ro : Ro} {oa : Ky → Nat} {sh : Sh} {ln : Nat → Nat} {μ : Mm} {v1 v2 : Int32} {gk : Option (((Int32 ⊕ Nat) × Sh × (Nat → Nat) × Mm) × Nat × Nat)} {r : Int32 ⊕ Nat} {sh' : Sh} {ln' : Nat → Nat} {b : Mm} {kc ks : Nat} (hG : CtG l D tc ro oa yX10_turn cX10_turn 3 (some .int) [.ref (oa (0, 0)), .int v1, .int v2] sh ln μ (fun x => some (.int x)) gk) (hg0 : gk = some ((r, sh', ln', b), kc, ks)) (hr : ∀ cn, r = .inr cn → 1 ≤ mdI cn) : CtW l D tc ro oa yL_turn cL_turn 5 [(0, 10, 13, 24)] (rma 46 1260 (kc + 1) (ks + 6)) [.int v1, .int v2] sh ln μ (cdW mdI r) (lvI r) sh' ln' b := by
  obtain ⟨rm, ⟨b1, b2, b3, b4⟩, hM⟩ := hG r sh' ln' b kc ks hg0
  refine CtW.of (by decide) (fun o => Nat.le_of_ble_eq_true rfl) (fun aa o f p e s m args below meth c A hAe C hr0 hk htab hW hU hN hnc hO hno hAo ls hl => ?_)
  have hx := C.1.1
  have hb := C.1.2.1
  have hl : lv_has ls 5 [(0, .ref (oa (0, 0))), (1, .int v1), (2, .int v2), (3, .ref o)] := hl
  refine lv_aload_n hx hb dL_turn_0 rfl (lv_at hl 3 rfl) ?_
  refine lv_iconst (v := 0) hx hb dL_turn_1 (by decide) ?_
  refine lv_aload_n hx hb dL_turn_2 rfl (lv_at hl 0 rfl) ?_
  refine lv_iload_n hx hb dL_turn_3 rfl (lv_at hl 1 rfl) ?_
  refine lv_iload_n hx hb dL_turn_4 rfl (lv_at hl 2 rfl) ?_
  refine r_callG (k := ((0, 0) : Ky)) (C0 := RX10) C hU hN hW hl lk_L_50 hM ⟨by show rm.frames + 1 ≤ 46; omega, by show 8 + (3 + 11) + rm.locals ≤ 1260; omega⟩ rfl rfl rfl (As := [.int v1, .int v2]) (rest := [.int 0, .ref o]) rfl rfl (Nat.le_of_ble_eq_true rfl) dL_turn_5 ⟨by show 0 + rm.cells ≤ kc + 1; omega, by show 0 + rm.slots ≤ ks + 6; omega⟩ (fun x hx2 oa' aa' H1 locs1 hag hW hf0 hz hkp => ?_) (fun cn hcn hsh aa' H1 locs1 q ce hW hf0 hz hkp hce hcv hcl => ?_)
  · subst hx2
    have hO1 : outc tc o f H1 := (hkp o hO.lt (nAF hno hO.lt)).trans hO
    have hno1 := nfa hno hO.lt hf0
    refine lv_i2l hx hb dL_turn_8 rfl ?_
    refine r_lastW C hW hO1 hno1 hAo dL_turn_9 (fun H2 locs2 hW hz2 hO2 => ?_)
    refine lv_goto (tgt := 17) hx hb dL_turn_10 (by decide) ?_
    refine lv_iconst (v := 0) hx hb dL_turn_17 (by decide) ?_
    exact r_iretW (cd := 0) C hr0 hk hAe hag hW hf0 hO2 (fun v hv => by cases hv; rfl) (by show 0 + rm.cells ≤ kc + 1; omega) (by show 0 + rm.slots ≤ ks + 6; omega) dL_turn_18
  · subst hsh
    have hO1 : outc tc o f H1 := (hkp o hO.lt (nAF hno hO.lt)).trans hO
    have hm := mdI_of (hr cn hcn)
    rcases hm with rfl
    · subst hcn
      refine vx_catch (own := RL) (name := "java/lang/IndexOutOfBoundsException") (E := "java/lang/IndexOutOfBoundsException") C.1.2.2.2.1 [] (xce 0 10 13 24) [] htab (fun z hz => absurd hz List.not_mem_nil) (by decide) (by decide) (C.1.2.2.2.2 _ kw_1388) (va_Nw.use (nwT_on _ ct_1) (hN.2 _ ct_1)) hce hcv hcl ?_
      refine lv_astore (lv' := (4, .ref q) :: [(0, .ref (oa (0, 0))), (1, .int v1), (2, .int v2), (3, .ref o)]) hx hb dL_turn_13 hl (by decide) rfl (fun ls hl => ?_)
      refine lv_iconst (v := 1) hx hb dL_turn_15 (by decide) ?_
      exact r_iretW (cd := 1) C hr0 hk hAe AGR.rf hW hf0 hO1 (fun v hv => by cases hv) (by show 0 + rm.cells ≤ kc + 1; omega) (by show 0 + rm.slots ≤ ks + 6; omega) dL_turn_16
set_option maxHeartbeats 4000000 in
set_option maxRecDepth 100000 in
theorem cW_ask {l : Launch} {D : va_G} {tc : Nat → ClassId} {ro : Ro} {oa : Ky → Nat} {sh : Sh} {ln : Nat → Nat} {μ : Mm} {v1 : Int32} {gk : Option (((Int32 ⊕ Nat) × Sh × (Nat → Nat) × Mm) × Nat × Nat)} {r : Int32 ⊕ Nat} {sh' : Sh} {ln' : Nat → Nat} {b : Mm} {kc ks : Nat} (hG : CtG l D tc ro oa yX10_ask cX10_ask 2 (some .boolean) [.ref (oa (0, 0)), .int v1] sh ln μ (fun x => some (.int x)) gk) (hg0 : gk = some ((r, sh', ln', b), kc, ks)) (hr : ∀ cn, r = .inr cn → 1 ≤ mdI cn) : CtW l D tc ro oa yL_ask cL_ask 4 [(0, 16, 19, 24)] (rma 46 1260 (kc + 1) (ks + 6)) [.int v1] sh ln μ (cdW mdI r) (lvB r) sh' ln' b := by
  obtain ⟨rm, ⟨b1, b2, b3, b4⟩, hM⟩ := hG r sh' ln' b kc ks hg0
  refine CtW.of (by decide) (fun o => Nat.le_of_ble_eq_true rfl) (fun aa o f p e s m args below meth c A hAe C hr0 hk htab hW hU hN hnc hO hno hAo ls hl => ?_)
  have hx := C.1.1
  have hb := C.1.2.1
  have hl : lv_has ls 4 [(0, .ref (oa (0, 0))), (1, .int v1), (2, .ref o)] := hl
  refine lv_aload_n hx hb dL_ask_0 rfl (lv_at hl 2 rfl) ?_
  refine lv_iconst (v := 0) hx hb dL_ask_1 (by decide) ?_
  refine lv_aload_n hx hb dL_ask_2 rfl (lv_at hl 0 rfl) ?_
  refine lv_iload_n hx hb dL_ask_3 rfl (lv_at hl 1 rfl) ?_
  refine r_callG (k := ((0, 0) : Ky)) (C0 := RX10) C hU hN hW hl lk_L_53 hM ⟨by show rm.frames + 1 ≤ 46; omega, by show 8 + (2 + 11) + rm.locals ≤ 1260; omega⟩ rfl rfl rfl (As := [.int v1]) (rest := [.int 0, .ref o]) rfl rfl (Nat.le_of_ble_eq_true rfl) dL_ask_4 ⟨by show 0 + rm.cells ≤ kc + 1; omega, by show 0 + rm.slots ≤ ks + 6; omega⟩ (fun x hx2 oa' aa' H1 locs1 hag hW hf0 hz hkp => ?_) (fun cn hcn hsh aa' H1 locs1 q ce hW hf0 hz hkp hce hcv hcl => ?_)
  · subst hx2
    have hO1 : outc tc o f H1 := (hkp o hO.lt (nAF hno hO.lt)).trans hO
    have hno1 := nfa hno hO.lt hf0
    refine lv_if_eq (tgt := 14) hx hb dL_ask_7 (by decide) (fun c1 => ?_) (fun c1 => ?_)
    · refine lv_lconst (v := 0) hx hb dL_ask_14 rfl ?_
      refine r_lastW C hW hO1 hno1 hAo dL_ask_15 (fun H2 locs2 hW hz2 hO2 => ?_)
      refine lv_goto (tgt := 22) hx hb dL_ask_16 (by decide) ?_
      refine lv_iconst (v := 0) hx hb dL_ask_22 (by decide) ?_
      exact r_iretW (cd := 0) C hr0 hk hAe hag hW hf0 hO2 (fun v hv => by cases hv; exact (if_pos c1).symm) (by show 0 + rm.cells ≤ kc + 1; omega) (by show 0 + rm.slots ≤ ks + 6; omega) dL_ask_23
    · refine lv_lconst (v := 1) hx hb dL_ask_10 rfl ?_
      refine lv_goto (tgt := 15) hx hb dL_ask_11 (by decide) ?_
      refine r_lastW C hW hO1 hno1 hAo dL_ask_15 (fun H2 locs2 hW hz2 hO2 => ?_)
      refine lv_goto (tgt := 22) hx hb dL_ask_16 (by decide) ?_
      refine lv_iconst (v := 0) hx hb dL_ask_22 (by decide) ?_
      exact r_iretW (cd := 0) C hr0 hk hAe hag hW hf0 hO2 (fun v hv => by cases hv; exact (if_neg c1).symm) (by show 0 + rm.cells ≤ kc + 1; omega) (by show 0 + rm.slots ≤ ks + 6; omega) dL_ask_23
  · subst hsh
    have hO1 : outc tc o f H1 := (hkp o hO.lt (nAF hno hO.lt)).trans hO
    have hm := mdI_of (hr cn hcn)
    rcases hm with rfl
    · subst hcn
      refine vx_catch (own := RL) (name := "java/lang/IndexOutOfBoundsException") (E := "java/lang/IndexOutOfBoundsException") C.1.2.2.2.1 [] (xce 0 16 19 24) [] htab (fun z hz => absurd hz List.not_mem_nil) (by decide) (by decide) (C.1.2.2.2.2 _ kw_1388) (va_Nw.use (nwT_on _ ct_1) (hN.2 _ ct_1)) hce hcv hcl ?_
      refine lv_astore_n (lv' := (3, .ref q) :: [(0, .ref (oa (0, 0))), (1, .int v1), (2, .ref o)]) hx hb dL_ask_19 rfl hl (by decide) rfl (fun ls hl => ?_)
      refine lv_iconst (v := 1) hx hb dL_ask_20 (by decide) ?_
      exact r_iretW (cd := 1) C hr0 hk hAe AGR.rf hW hf0 hO1 (fun v hv => by cases hv) (by show 0 + rm.cells ≤ kc + 1; omega) (by show 0 + rm.slots ≤ ks + 6; omega) dL_ask_21
set_option maxHeartbeats 4000000 in
set_option maxRecDepth 100000 in
theorem cW_read {l : Launch} {D : va_G} {tc : Nat → ClassId} {ro : Ro} {oa : Ky → Nat} {sh : Sh} {ln : Nat → Nat} {μ : Mm} {v1 : Int32} {gk : Option (((Int32 ⊕ Nat) × Sh × (Nat → Nat) × Mm) × Nat × Nat)} {r : Int32 ⊕ Nat} {sh' : Sh} {ln' : Nat → Nat} {b : Mm} {kc ks : Nat} (hG : CtG l D tc ro oa yX10_read cX10_read 2 (some .int) [.ref (oa (0, 0)), .int v1] sh ln μ (fun x => some (.int x)) gk) (hg0 : gk = some ((r, sh', ln', b), kc, ks)) (hr : ∀ cn, r = .inr cn → 1 ≤ mdI cn) : CtW l D tc ro oa yL_read cL_read 4 [(0, 9, 12, 24)] (rma 46 1260 (kc + 1) (ks + 6)) [.int v1] sh ln μ (cdW mdI r) (lvI r) sh' ln' b := by
  obtain ⟨rm, ⟨b1, b2, b3, b4⟩, hM⟩ := hG r sh' ln' b kc ks hg0
  refine CtW.of (by decide) (fun o => Nat.le_of_ble_eq_true rfl) (fun aa o f p e s m args below meth c A hAe C hr0 hk htab hW hU hN hnc hO hno hAo ls hl => ?_)
  have hx := C.1.1
  have hb := C.1.2.1
  have hl : lv_has ls 4 [(0, .ref (oa (0, 0))), (1, .int v1), (2, .ref o)] := hl
  refine lv_aload_n hx hb dL_read_0 rfl (lv_at hl 2 rfl) ?_
  refine lv_iconst (v := 0) hx hb dL_read_1 (by decide) ?_
  refine lv_aload_n hx hb dL_read_2 rfl (lv_at hl 0 rfl) ?_
  refine lv_iload_n hx hb dL_read_3 rfl (lv_at hl 1 rfl) ?_
  refine r_callG (k := ((0, 0) : Ky)) (C0 := RX10) C hU hN hW hl lk_L_56 hM ⟨by show rm.frames + 1 ≤ 46; omega, by show 8 + (2 + 11) + rm.locals ≤ 1260; omega⟩ rfl rfl rfl (As := [.int v1]) (rest := [.int 0, .ref o]) rfl rfl (Nat.le_of_ble_eq_true rfl) dL_read_4 ⟨by show 0 + rm.cells ≤ kc + 1; omega, by show 0 + rm.slots ≤ ks + 6; omega⟩ (fun x hx2 oa' aa' H1 locs1 hag hW hf0 hz hkp => ?_) (fun cn hcn hsh aa' H1 locs1 q ce hW hf0 hz hkp hce hcv hcl => ?_)
  · subst hx2
    have hO1 : outc tc o f H1 := (hkp o hO.lt (nAF hno hO.lt)).trans hO
    have hno1 := nfa hno hO.lt hf0
    refine lv_i2l hx hb dL_read_7 rfl ?_
    refine r_lastW C hW hO1 hno1 hAo dL_read_8 (fun H2 locs2 hW hz2 hO2 => ?_)
    refine lv_goto (tgt := 15) hx hb dL_read_9 (by decide) ?_
    refine lv_iconst (v := 0) hx hb dL_read_15 (by decide) ?_
    exact r_iretW (cd := 0) C hr0 hk hAe hag hW hf0 hO2 (fun v hv => by cases hv; rfl) (by show 0 + rm.cells ≤ kc + 1; omega) (by show 0 + rm.slots ≤ ks + 6; omega) dL_read_16
  · subst hsh
    have hO1 : outc tc o f H1 := (hkp o hO.lt (nAF hno hO.lt)).trans hO
    have hm := mdI_of (hr cn hcn)
    rcases hm with rfl
    · subst hcn
      refine vx_catch (own := RL) (name := "java/lang/IndexOutOfBoundsException") (E := "java/lang/IndexOutOfBoundsException") C.1.2.2.2.1 [] (xce 0 9 12 24) [] htab (fun z hz => absurd hz List.not_mem_nil) (by decide) (by decide) (C.1.2.2.2.2 _ kw_1388) (va_Nw.use (nwT_on _ ct_1) (hN.2 _ ct_1)) hce hcv hcl ?_
      refine lv_astore_n (lv' := (3, .ref q) :: [(0, .ref (oa (0, 0))), (1, .int v1), (2, .ref o)]) hx hb dL_read_12 rfl hl (by decide) rfl (fun ls hl => ?_)
      refine lv_iconst (v := 1) hx hb dL_read_13 (by decide) ?_
      exact r_iretW (cd := 1) C hr0 hk hAe AGR.rf hW hf0 hO1 (fun v hv => by cases hv) (by show 0 + rm.cells ≤ kc + 1; omega) (by show 0 + rm.slots ≤ ks + 6; omega) dL_read_14
set_option maxHeartbeats 4000000 in
set_option maxRecDepth 100000 in
theorem cW_claim {l : Launch} {D : va_G} {tc : Nat → ClassId} {ro : Ro} {oa : Ky → Nat} {sh : Sh} {ln : Nat → Nat} {μ : Mm} {v1 v2 : Int32} {gk : Option (((Int32 ⊕ Nat) × Sh × (Nat → Nat) × Mm) × Nat × Nat)} {r : Int32 ⊕ Nat} {sh' : Sh} {ln' : Nat → Nat} {b : Mm} {kc ks : Nat} (hG : CtG l D tc ro oa yX10_claim cX10_claim 3 (some .int) [.ref (oa (0, 0)), .int v1, .int v2] sh ln μ (fun x => some (.int x)) gk) (hg0 : gk = some ((r, sh', ln', b), kc, ks)) (hr : ∀ cn, r = .inr cn → 1 ≤ mdIAS cn) : CtW l D tc ro oa yL_claim cL_claim 5 [(0, 10, 13, 24), (0, 10, 17, 13), (0, 10, 21, 36)] (rma 46 1260 (kc + 1) (ks + 6)) [.int v1, .int v2] sh ln μ (cdW mdIAS r) (lvI r) sh' ln' b := by
  obtain ⟨rm, ⟨b1, b2, b3, b4⟩, hM⟩ := hG r sh' ln' b kc ks hg0
  refine CtW.of (by decide) (fun o => Nat.le_of_ble_eq_true rfl) (fun aa o f p e s m args below meth c A hAe C hr0 hk htab hW hU hN hnc hO hno hAo ls hl => ?_)
  have hx := C.1.1
  have hb := C.1.2.1
  have hl : lv_has ls 5 [(0, .ref (oa (0, 0))), (1, .int v1), (2, .int v2), (3, .ref o)] := hl
  refine lv_aload_n hx hb dL_claim_0 rfl (lv_at hl 3 rfl) ?_
  refine lv_iconst (v := 0) hx hb dL_claim_1 (by decide) ?_
  refine lv_aload_n hx hb dL_claim_2 rfl (lv_at hl 0 rfl) ?_
  refine lv_iload_n hx hb dL_claim_3 rfl (lv_at hl 1 rfl) ?_
  refine lv_iload_n hx hb dL_claim_4 rfl (lv_at hl 2 rfl) ?_
  refine r_callG (k := ((0, 0) : Ky)) (C0 := RX10) C hU hN hW hl lk_L_60 hM ⟨by show rm.frames + 1 ≤ 46; omega, by show 8 + (3 + 11) + rm.locals ≤ 1260; omega⟩ rfl rfl rfl (As := [.int v1, .int v2]) (rest := [.int 0, .ref o]) rfl rfl (Nat.le_of_ble_eq_true rfl) dL_claim_5 ⟨by show 0 + rm.cells ≤ kc + 1; omega, by show 0 + rm.slots ≤ ks + 6; omega⟩ (fun x hx2 oa' aa' H1 locs1 hag hW hf0 hz hkp => ?_) (fun cn hcn hsh aa' H1 locs1 q ce hW hf0 hz hkp hce hcv hcl => ?_)
  · subst hx2
    have hO1 : outc tc o f H1 := (hkp o hO.lt (nAF hno hO.lt)).trans hO
    have hno1 := nfa hno hO.lt hf0
    refine lv_i2l hx hb dL_claim_8 rfl ?_
    refine r_lastW C hW hO1 hno1 hAo dL_claim_9 (fun H2 locs2 hW hz2 hO2 => ?_)
    refine lv_goto (tgt := 25) hx hb dL_claim_10 (by decide) ?_
    refine lv_iconst (v := 0) hx hb dL_claim_25 (by decide) ?_
    exact r_iretW (cd := 0) C hr0 hk hAe hag hW hf0 hO2 (fun v hv => by cases hv; rfl) (by show 0 + rm.cells ≤ kc + 1; omega) (by show 0 + rm.slots ≤ ks + 6; omega) dL_claim_26
  · subst hsh
    have hO1 : outc tc o f H1 := (hkp o hO.lt (nAF hno hO.lt)).trans hO
    have hm := mdIAS_of (hr cn hcn)
    rcases hm with rfl | rfl | rfl
    · subst hcn
      refine vx_catch (own := RL) (name := "java/lang/IndexOutOfBoundsException") (E := "java/lang/IndexOutOfBoundsException") C.1.2.2.2.1 [] (xce 0 10 13 24) [xce 0 10 17 13, xce 0 10 21 36] htab (fun z hz => absurd hz List.not_mem_nil) (by decide) (by decide) (C.1.2.2.2.2 _ kw_1388) (va_Nw.use (nwT_on _ ct_1) (hN.2 _ ct_1)) hce hcv hcl ?_
      refine lv_astore (lv' := (4, .ref q) :: [(0, .ref (oa (0, 0))), (1, .int v1), (2, .int v2), (3, .ref o)]) hx hb dL_claim_13 hl (by decide) rfl (fun ls hl => ?_)
      refine lv_iconst (v := 1) hx hb dL_claim_15 (by decide) ?_
      exact r_iretW (cd := 1) C hr0 hk hAe AGR.rf hW hf0 hO1 (fun v hv => by cases hv) (by show 0 + rm.cells ≤ kc + 1; omega) (by show 0 + rm.slots ≤ ks + 6; omega) dL_claim_16
    · subst hcn
      refine vx_catch (own := RL) (name := "java/lang/IllegalArgumentException") (E := "java/lang/IllegalArgumentException") C.1.2.2.2.1 [xce 0 10 13 24] (xce 0 10 17 13) [xce 0 10 21 36] htab (fun z hz => by rw [List.mem_singleton.mp hz]; exact Or.inr ⟨by decide, "java/lang/IndexOutOfBoundsException", C.1.2.2.2.2 _ kw_1388, hnc.2.2.2.1⟩) (by decide) (by decide) (C.1.2.2.2.2 _ kw_1074) (va_Nw.use (nwT_on _ ct_3) (hN.2 _ ct_3)) hce hcv hcl ?_
      refine lv_astore (lv' := (4, .ref q) :: [(0, .ref (oa (0, 0))), (1, .int v1), (2, .int v2), (3, .ref o)]) hx hb dL_claim_17 hl (by decide) rfl (fun ls hl => ?_)
      refine lv_iconst (v := 2) hx hb dL_claim_19 (by decide) ?_
      exact r_iretW (cd := 2) C hr0 hk hAe AGR.rf hW hf0 hO1 (fun v hv => by cases hv) (by show 0 + rm.cells ≤ kc + 1; omega) (by show 0 + rm.slots ≤ ks + 6; omega) dL_claim_20
    · subst hcn
      refine vx_catch (own := RL) (name := "java/lang/IllegalStateException") (E := "java/lang/IllegalStateException") C.1.2.2.2.1 [xce 0 10 13 24, xce 0 10 17 13] (xce 0 10 21 36) [] htab (hp2 (Or.inr ⟨by decide, "java/lang/IndexOutOfBoundsException", C.1.2.2.2.2 _ kw_1388, hnc.2.2.1⟩) (Or.inr ⟨by decide, "java/lang/IllegalArgumentException", C.1.2.2.2.2 _ kw_1074, hnc.2.2.2.2⟩)) (by decide) (by decide) (C.1.2.2.2.2 _ kw_1467) (va_Nw.use (nwT_on _ ct_4) (hN.2 _ ct_4)) hce hcv hcl ?_
      refine lv_astore (lv' := (4, .ref q) :: [(0, .ref (oa (0, 0))), (1, .int v1), (2, .int v2), (3, .ref o)]) hx hb dL_claim_21 hl (by decide) rfl (fun ls hl => ?_)
      refine lv_iconst (v := 3) hx hb dL_claim_23 (by decide) ?_
      exact r_iretW (cd := 3) C hr0 hk hAe AGR.rf hW hf0 hO1 (fun v hv => by cases hv) (by show 0 + rm.cells ≤ kc + 1; omega) (by show 0 + rm.slots ≤ ks + 6; omega) dL_claim_24
set_option maxHeartbeats 4000000 in
set_option maxRecDepth 100000 in
theorem cW_query {l : Launch} {D : va_G} {tc : Nat → ClassId} {ro : Ro} {oa : Ky → Nat} {sh : Sh} {ln : Nat → Nat} {μ : Mm} {v1 v2 v3 : Int32} {gk : Option (((Int32 ⊕ Nat) × Sh × (Nat → Nat) × Mm) × Nat × Nat)} {r : Int32 ⊕ Nat} {sh' : Sh} {ln' : Nat → Nat} {b : Mm} {kc ks : Nat} (hG : CtG l D tc ro oa yX10_query cX10_query 4 (some .int) [.ref (oa (0, 0)), .int v1, .int v2, .int v3] sh ln μ (fun x => some (.int x)) gk) (hg0 : gk = some ((r, sh', ln', b), kc, ks)) (hr : ∀ cn, r = .inr cn → 1 ≤ mdI cn) : CtW l D tc ro oa yL_query cL_query 6 [(0, 12, 15, 24)] (rma 46 1260 (kc + 1) (ks + 6)) [.int v1, .int v2, .int v3] sh ln μ (cdW mdI r) (lvI r) sh' ln' b := by
  obtain ⟨rm, ⟨b1, b2, b3, b4⟩, hM⟩ := hG r sh' ln' b kc ks hg0
  refine CtW.of (by decide) (fun o => Nat.le_of_ble_eq_true rfl) (fun aa o f p e s m args below meth c A hAe C hr0 hk htab hW hU hN hnc hO hno hAo ls hl => ?_)
  have hx := C.1.1
  have hb := C.1.2.1
  have hl : lv_has ls 6 [(0, .ref (oa (0, 0))), (1, .int v1), (2, .int v2), (3, .int v3), (4, .ref o)] := hl
  refine lv_aload hx hb dL_query_0 (lv_at hl 4 rfl) ?_
  refine lv_iconst (v := 0) hx hb dL_query_2 (by decide) ?_
  refine lv_aload_n hx hb dL_query_3 rfl (lv_at hl 0 rfl) ?_
  refine lv_iload_n hx hb dL_query_4 rfl (lv_at hl 1 rfl) ?_
  refine lv_iload_n hx hb dL_query_5 rfl (lv_at hl 2 rfl) ?_
  refine lv_iload_n hx hb dL_query_6 rfl (lv_at hl 3 rfl) ?_
  refine r_callG (k := ((0, 0) : Ky)) (C0 := RX10) C hU hN hW hl lk_L_63 hM ⟨by show rm.frames + 1 ≤ 46; omega, by show 8 + (4 + 11) + rm.locals ≤ 1260; omega⟩ rfl rfl rfl (As := [.int v1, .int v2, .int v3]) (rest := [.int 0, .ref o]) rfl rfl (Nat.le_of_ble_eq_true rfl) dL_query_7 ⟨by show 0 + rm.cells ≤ kc + 1; omega, by show 0 + rm.slots ≤ ks + 6; omega⟩ (fun x hx2 oa' aa' H1 locs1 hag hW hf0 hz hkp => ?_) (fun cn hcn hsh aa' H1 locs1 q ce hW hf0 hz hkp hce hcv hcl => ?_)
  · subst hx2
    have hO1 : outc tc o f H1 := (hkp o hO.lt (nAF hno hO.lt)).trans hO
    have hno1 := nfa hno hO.lt hf0
    refine lv_i2l hx hb dL_query_10 rfl ?_
    refine r_lastW C hW hO1 hno1 hAo dL_query_11 (fun H2 locs2 hW hz2 hO2 => ?_)
    refine lv_goto (tgt := 19) hx hb dL_query_12 (by decide) ?_
    refine lv_iconst (v := 0) hx hb dL_query_19 (by decide) ?_
    exact r_iretW (cd := 0) C hr0 hk hAe hag hW hf0 hO2 (fun v hv => by cases hv; rfl) (by show 0 + rm.cells ≤ kc + 1; omega) (by show 0 + rm.slots ≤ ks + 6; omega) dL_query_20
  · subst hsh
    have hO1 : outc tc o f H1 := (hkp o hO.lt (nAF hno hO.lt)).trans hO
    have hm := mdI_of (hr cn hcn)
    rcases hm with rfl
    · subst hcn
      refine vx_catch (own := RL) (name := "java/lang/IndexOutOfBoundsException") (E := "java/lang/IndexOutOfBoundsException") C.1.2.2.2.1 [] (xce 0 12 15 24) [] htab (fun z hz => absurd hz List.not_mem_nil) (by decide) (by decide) (C.1.2.2.2.2 _ kw_1388) (va_Nw.use (nwT_on _ ct_1) (hN.2 _ ct_1)) hce hcv hcl ?_
      refine lv_astore (lv' := (5, .ref q) :: [(0, .ref (oa (0, 0))), (1, .int v1), (2, .int v2), (3, .int v3), (4, .ref o)]) hx hb dL_query_15 hl (by decide) rfl (fun ls hl => ?_)
      refine lv_iconst (v := 1) hx hb dL_query_17 (by decide) ?_
      exact r_iretW (cd := 1) C hr0 hk hAe AGR.rf hW hf0 hO1 (fun v hv => by cases hv) (by show 0 + rm.cells ≤ kc + 1; omega) (by show 0 + rm.slots ≤ ks + 6; omega) dL_query_18
set_option maxHeartbeats 4000000 in
set_option maxRecDepth 100000 in
theorem cW_stroll {l : Launch} {D : va_G} {tc : Nat → ClassId} {ro : Ro} {oa : Ky → Nat} {sh : Sh} {ln : Nat → Nat} {μ : Mm} {v1 : Int32} {gk : Option (((Int32 ⊕ Nat) × Sh × (Nat → Nat) × Mm) × Nat × Nat)} {r : Int32 ⊕ Nat} {sh' : Sh} {ln' : Nat → Nat} {b : Mm} {kc ks : Nat} (hG : CtG l D tc ro oa yX10_stroll cX10_stroll 2 (some .int) [.ref (oa (0, 0)), .int v1] sh ln μ (fun x => some (.int x)) gk) (hg0 : gk = some ((r, sh', ln', b), kc, ks)) (hr : ∀ cn, r = .inr cn → 1 ≤ mdA cn) : CtW l D tc ro oa yL_stroll cL_stroll 4 [(0, 9, 12, 13)] (rma 46 1260 (kc + 1) (ks + 6)) [.int v1] sh ln μ (cdW mdA r) (lvI r) sh' ln' b := by
  obtain ⟨rm, ⟨b1, b2, b3, b4⟩, hM⟩ := hG r sh' ln' b kc ks hg0
  refine CtW.of (by decide) (fun o => Nat.le_of_ble_eq_true rfl) (fun aa o f p e s m args below meth c A hAe C hr0 hk htab hW hU hN hnc hO hno hAo ls hl => ?_)
  have hx := C.1.1
  have hb := C.1.2.1
  have hl : lv_has ls 4 [(0, .ref (oa (0, 0))), (1, .int v1), (2, .ref o)] := hl
  refine lv_aload_n hx hb dL_stroll_0 rfl (lv_at hl 2 rfl) ?_
  refine lv_iconst (v := 0) hx hb dL_stroll_1 (by decide) ?_
  refine lv_aload_n hx hb dL_stroll_2 rfl (lv_at hl 0 rfl) ?_
  refine lv_iload_n hx hb dL_stroll_3 rfl (lv_at hl 1 rfl) ?_
  refine r_callG (k := ((0, 0) : Ky)) (C0 := RX10) C hU hN hW hl lk_L_66 hM ⟨by show rm.frames + 1 ≤ 46; omega, by show 8 + (2 + 11) + rm.locals ≤ 1260; omega⟩ rfl rfl rfl (As := [.int v1]) (rest := [.int 0, .ref o]) rfl rfl (Nat.le_of_ble_eq_true rfl) dL_stroll_4 ⟨by show 0 + rm.cells ≤ kc + 1; omega, by show 0 + rm.slots ≤ ks + 6; omega⟩ (fun x hx2 oa' aa' H1 locs1 hag hW hf0 hz hkp => ?_) (fun cn hcn hsh aa' H1 locs1 q ce hW hf0 hz hkp hce hcv hcl => ?_)
  · subst hx2
    have hO1 : outc tc o f H1 := (hkp o hO.lt (nAF hno hO.lt)).trans hO
    have hno1 := nfa hno hO.lt hf0
    refine lv_i2l hx hb dL_stroll_7 rfl ?_
    refine r_lastW C hW hO1 hno1 hAo dL_stroll_8 (fun H2 locs2 hW hz2 hO2 => ?_)
    refine lv_goto (tgt := 15) hx hb dL_stroll_9 (by decide) ?_
    refine lv_iconst (v := 0) hx hb dL_stroll_15 (by decide) ?_
    exact r_iretW (cd := 0) C hr0 hk hAe hag hW hf0 hO2 (fun v hv => by cases hv; rfl) (by show 0 + rm.cells ≤ kc + 1; omega) (by show 0 + rm.slots ≤ ks + 6; omega) dL_stroll_16
  · subst hsh
    have hO1 : outc tc o f H1 := (hkp o hO.lt (nAF hno hO.lt)).trans hO
    have hm := mdA_of (hr cn hcn)
    rcases hm with rfl
    · subst hcn
      refine vx_catch (own := RL) (name := "java/lang/IllegalArgumentException") (E := "java/lang/IllegalArgumentException") C.1.2.2.2.1 [] (xce 0 9 12 13) [] htab (fun z hz => absurd hz List.not_mem_nil) (by decide) (by decide) (C.1.2.2.2.2 _ kw_1074) (va_Nw.use (nwT_on _ ct_3) (hN.2 _ ct_3)) hce hcv hcl ?_
      refine lv_astore_n (lv' := (3, .ref q) :: [(0, .ref (oa (0, 0))), (1, .int v1), (2, .ref o)]) hx hb dL_stroll_12 rfl hl (by decide) rfl (fun ls hl => ?_)
      refine lv_iconst (v := 1) hx hb dL_stroll_13 (by decide) ?_
      exact r_iretW (cd := 1) C hr0 hk hAe AGR.rf hW hf0 hO1 (fun v hv => by cases hv) (by show 0 + rm.cells ≤ kc + 1; omega) (by show 0 + rm.slots ≤ ks + 6; omega) dL_stroll_14
set_option maxHeartbeats 4000000 in
set_option maxRecDepth 100000 in
theorem cW_possible {l : Launch} {D : va_G} {tc : Nat → ClassId} {ro : Ro} {oa : Ky → Nat} {sh : Sh} {ln : Nat → Nat} {μ : Mm} {v1 v2 : Int32} {gk : Option (((Int32 ⊕ Nat) × Sh × (Nat → Nat) × Mm) × Nat × Nat)} {r : Int32 ⊕ Nat} {sh' : Sh} {ln' : Nat → Nat} {b : Mm} {kc ks : Nat} (hG : CtG l D tc ro oa yX10_possible cX10_possible 3 (some .int) [.ref (oa (0, 0)), .int v1, .int v2] sh ln μ (fun x => some (.int x)) gk) (hg0 : gk = some ((r, sh', ln', b), kc, ks)) (hr : ∀ cn, r = .inr cn → 1 ≤ mdI cn) : CtW l D tc ro oa yL_possible cL_possible 5 [(0, 10, 13, 24)] (rma 46 1260 (kc + 1) (ks + 6)) [.int v1, .int v2] sh ln μ (cdW mdI r) (lvI r) sh' ln' b := by
  obtain ⟨rm, ⟨b1, b2, b3, b4⟩, hM⟩ := hG r sh' ln' b kc ks hg0
  refine CtW.of (by decide) (fun o => Nat.le_of_ble_eq_true rfl) (fun aa o f p e s m args below meth c A hAe C hr0 hk htab hW hU hN hnc hO hno hAo ls hl => ?_)
  have hx := C.1.1
  have hb := C.1.2.1
  have hl : lv_has ls 5 [(0, .ref (oa (0, 0))), (1, .int v1), (2, .int v2), (3, .ref o)] := hl
  refine lv_aload_n hx hb dL_possible_0 rfl (lv_at hl 3 rfl) ?_
  refine lv_iconst (v := 0) hx hb dL_possible_1 (by decide) ?_
  refine lv_aload_n hx hb dL_possible_2 rfl (lv_at hl 0 rfl) ?_
  refine lv_iload_n hx hb dL_possible_3 rfl (lv_at hl 1 rfl) ?_
  refine lv_iload_n hx hb dL_possible_4 rfl (lv_at hl 2 rfl) ?_
  refine r_callG (k := ((0, 0) : Ky)) (C0 := RX10) C hU hN hW hl lk_L_69 hM ⟨by show rm.frames + 1 ≤ 46; omega, by show 8 + (3 + 11) + rm.locals ≤ 1260; omega⟩ rfl rfl rfl (As := [.int v1, .int v2]) (rest := [.int 0, .ref o]) rfl rfl (Nat.le_of_ble_eq_true rfl) dL_possible_5 ⟨by show 0 + rm.cells ≤ kc + 1; omega, by show 0 + rm.slots ≤ ks + 6; omega⟩ (fun x hx2 oa' aa' H1 locs1 hag hW hf0 hz hkp => ?_) (fun cn hcn hsh aa' H1 locs1 q ce hW hf0 hz hkp hce hcv hcl => ?_)
  · subst hx2
    have hO1 : outc tc o f H1 := (hkp o hO.lt (nAF hno hO.lt)).trans hO
    have hno1 := nfa hno hO.lt hf0
    refine lv_i2l hx hb dL_possible_8 rfl ?_
    refine r_lastW C hW hO1 hno1 hAo dL_possible_9 (fun H2 locs2 hW hz2 hO2 => ?_)
    refine lv_goto (tgt := 17) hx hb dL_possible_10 (by decide) ?_
    refine lv_iconst (v := 0) hx hb dL_possible_17 (by decide) ?_
    exact r_iretW (cd := 0) C hr0 hk hAe hag hW hf0 hO2 (fun v hv => by cases hv; rfl) (by show 0 + rm.cells ≤ kc + 1; omega) (by show 0 + rm.slots ≤ ks + 6; omega) dL_possible_18
  · subst hsh
    have hO1 : outc tc o f H1 := (hkp o hO.lt (nAF hno hO.lt)).trans hO
    have hm := mdI_of (hr cn hcn)
    rcases hm with rfl
    · subst hcn
      refine vx_catch (own := RL) (name := "java/lang/IndexOutOfBoundsException") (E := "java/lang/IndexOutOfBoundsException") C.1.2.2.2.1 [] (xce 0 10 13 24) [] htab (fun z hz => absurd hz List.not_mem_nil) (by decide) (by decide) (C.1.2.2.2.2 _ kw_1388) (va_Nw.use (nwT_on _ ct_1) (hN.2 _ ct_1)) hce hcv hcl ?_
      refine lv_astore (lv' := (4, .ref q) :: [(0, .ref (oa (0, 0))), (1, .int v1), (2, .int v2), (3, .ref o)]) hx hb dL_possible_13 hl (by decide) rfl (fun ls hl => ?_)
      refine lv_iconst (v := 1) hx hb dL_possible_15 (by decide) ?_
      exact r_iretW (cd := 1) C hr0 hk hAe AGR.rf hW hf0 hO1 (fun v hv => by cases hv) (by show 0 + rm.cells ≤ kc + 1; omega) (by show 0 + rm.slots ≤ ks + 6; omega) dL_possible_16
set_option maxHeartbeats 4000000 in
set_option maxRecDepth 100000 in
theorem cW_knows {l : Launch} {D : va_G} {tc : Nat → ClassId} {ro : Ro} {oa : Ky → Nat} {sh : Sh} {ln : Nat → Nat} {μ : Mm} {v1 v2 : Int32} {gk : Option (((Int32 ⊕ Nat) × Sh × (Nat → Nat) × Mm) × Nat × Nat)} {r : Int32 ⊕ Nat} {sh' : Sh} {ln' : Nat → Nat} {b : Mm} {kc ks : Nat} (hG : CtG l D tc ro oa yX10_knows cX10_knows 3 (some .int) [.ref (oa (0, 0)), .int v1, .int v2] sh ln μ (fun x => some (.int x)) gk) (hg0 : gk = some ((r, sh', ln', b), kc, ks)) (hr : ∀ cn, r = .inr cn → 1 ≤ mdI cn) : CtW l D tc ro oa yL_knows cL_knows 5 [(0, 10, 13, 24)] (rma 46 1260 (kc + 1) (ks + 6)) [.int v1, .int v2] sh ln μ (cdW mdI r) (lvI r) sh' ln' b := by
  obtain ⟨rm, ⟨b1, b2, b3, b4⟩, hM⟩ := hG r sh' ln' b kc ks hg0
  refine CtW.of (by decide) (fun o => Nat.le_of_ble_eq_true rfl) (fun aa o f p e s m args below meth c A hAe C hr0 hk htab hW hU hN hnc hO hno hAo ls hl => ?_)
  have hx := C.1.1
  have hb := C.1.2.1
  have hl : lv_has ls 5 [(0, .ref (oa (0, 0))), (1, .int v1), (2, .int v2), (3, .ref o)] := hl
  refine lv_aload_n hx hb dL_knows_0 rfl (lv_at hl 3 rfl) ?_
  refine lv_iconst (v := 0) hx hb dL_knows_1 (by decide) ?_
  refine lv_aload_n hx hb dL_knows_2 rfl (lv_at hl 0 rfl) ?_
  refine lv_iload_n hx hb dL_knows_3 rfl (lv_at hl 1 rfl) ?_
  refine lv_iload_n hx hb dL_knows_4 rfl (lv_at hl 2 rfl) ?_
  refine r_callG (k := ((0, 0) : Ky)) (C0 := RX10) C hU hN hW hl lk_L_72 hM ⟨by show rm.frames + 1 ≤ 46; omega, by show 8 + (3 + 11) + rm.locals ≤ 1260; omega⟩ rfl rfl rfl (As := [.int v1, .int v2]) (rest := [.int 0, .ref o]) rfl rfl (Nat.le_of_ble_eq_true rfl) dL_knows_5 ⟨by show 0 + rm.cells ≤ kc + 1; omega, by show 0 + rm.slots ≤ ks + 6; omega⟩ (fun x hx2 oa' aa' H1 locs1 hag hW hf0 hz hkp => ?_) (fun cn hcn hsh aa' H1 locs1 q ce hW hf0 hz hkp hce hcv hcl => ?_)
  · subst hx2
    have hO1 : outc tc o f H1 := (hkp o hO.lt (nAF hno hO.lt)).trans hO
    have hno1 := nfa hno hO.lt hf0
    refine lv_i2l hx hb dL_knows_8 rfl ?_
    refine r_lastW C hW hO1 hno1 hAo dL_knows_9 (fun H2 locs2 hW hz2 hO2 => ?_)
    refine lv_goto (tgt := 17) hx hb dL_knows_10 (by decide) ?_
    refine lv_iconst (v := 0) hx hb dL_knows_17 (by decide) ?_
    exact r_iretW (cd := 0) C hr0 hk hAe hag hW hf0 hO2 (fun v hv => by cases hv; rfl) (by show 0 + rm.cells ≤ kc + 1; omega) (by show 0 + rm.slots ≤ ks + 6; omega) dL_knows_18
  · subst hsh
    have hO1 : outc tc o f H1 := (hkp o hO.lt (nAF hno hO.lt)).trans hO
    have hm := mdI_of (hr cn hcn)
    rcases hm with rfl
    · subst hcn
      refine vx_catch (own := RL) (name := "java/lang/IndexOutOfBoundsException") (E := "java/lang/IndexOutOfBoundsException") C.1.2.2.2.1 [] (xce 0 10 13 24) [] htab (fun z hz => absurd hz List.not_mem_nil) (by decide) (by decide) (C.1.2.2.2.2 _ kw_1388) (va_Nw.use (nwT_on _ ct_1) (hN.2 _ ct_1)) hce hcv hcl ?_
      refine lv_astore (lv' := (4, .ref q) :: [(0, .ref (oa (0, 0))), (1, .int v1), (2, .int v2), (3, .ref o)]) hx hb dL_knows_13 hl (by decide) rfl (fun ls hl => ?_)
      refine lv_iconst (v := 1) hx hb dL_knows_15 (by decide) ?_
      exact r_iretW (cd := 1) C hr0 hk hAe AGR.rf hW hf0 hO1 (fun v hv => by cases hv) (by show 0 + rm.cells ≤ kc + 1; omega) (by show 0 + rm.slots ≤ ks + 6; omega) dL_knows_16
set_option maxHeartbeats 4000000 in
set_option maxRecDepth 100000 in
theorem cW_thinks {l : Launch} {D : va_G} {tc : Nat → ClassId} {ro : Ro} {oa : Ky → Nat} {sh : Sh} {ln : Nat → Nat} {μ : Mm} {v1 v2 v3 : Int32} {gk : Option (((Int32 ⊕ Nat) × Sh × (Nat → Nat) × Mm) × Nat × Nat)} {r : Int32 ⊕ Nat} {sh' : Sh} {ln' : Nat → Nat} {b : Mm} {kc ks : Nat} (hG : CtG l D tc ro oa yX10_thinks cX10_thinks 4 (some .boolean) [.ref (oa (0, 0)), .int v1, .int v2, .int v3] sh ln μ (fun x => some (.int x)) gk) (hg0 : gk = some ((r, sh', ln', b), kc, ks)) (hr : ∀ cn, r = .inr cn → 1 ≤ mdI cn) : CtW l D tc ro oa yL_thinks cL_thinks 6 [(0, 19, 22, 24)] (rma 46 1260 (kc + 1) (ks + 6)) [.int v1, .int v2, .int v3] sh ln μ (cdW mdI r) (lvB r) sh' ln' b := by
  obtain ⟨rm, ⟨b1, b2, b3, b4⟩, hM⟩ := hG r sh' ln' b kc ks hg0
  refine CtW.of (by decide) (fun o => Nat.le_of_ble_eq_true rfl) (fun aa o f p e s m args below meth c A hAe C hr0 hk htab hW hU hN hnc hO hno hAo ls hl => ?_)
  have hx := C.1.1
  have hb := C.1.2.1
  have hl : lv_has ls 6 [(0, .ref (oa (0, 0))), (1, .int v1), (2, .int v2), (3, .int v3), (4, .ref o)] := hl
  refine lv_aload hx hb dL_thinks_0 (lv_at hl 4 rfl) ?_
  refine lv_iconst (v := 0) hx hb dL_thinks_2 (by decide) ?_
  refine lv_aload_n hx hb dL_thinks_3 rfl (lv_at hl 0 rfl) ?_
  refine lv_iload_n hx hb dL_thinks_4 rfl (lv_at hl 1 rfl) ?_
  refine lv_iload_n hx hb dL_thinks_5 rfl (lv_at hl 2 rfl) ?_
  refine lv_iload_n hx hb dL_thinks_6 rfl (lv_at hl 3 rfl) ?_
  refine r_callG (k := ((0, 0) : Ky)) (C0 := RX10) C hU hN hW hl lk_L_75 hM ⟨by show rm.frames + 1 ≤ 46; omega, by show 8 + (4 + 11) + rm.locals ≤ 1260; omega⟩ rfl rfl rfl (As := [.int v1, .int v2, .int v3]) (rest := [.int 0, .ref o]) rfl rfl (Nat.le_of_ble_eq_true rfl) dL_thinks_7 ⟨by show 0 + rm.cells ≤ kc + 1; omega, by show 0 + rm.slots ≤ ks + 6; omega⟩ (fun x hx2 oa' aa' H1 locs1 hag hW hf0 hz hkp => ?_) (fun cn hcn hsh aa' H1 locs1 q ce hW hf0 hz hkp hce hcv hcl => ?_)
  · subst hx2
    have hO1 : outc tc o f H1 := (hkp o hO.lt (nAF hno hO.lt)).trans hO
    have hno1 := nfa hno hO.lt hf0
    refine lv_if_eq (tgt := 17) hx hb dL_thinks_10 (by decide) (fun c1 => ?_) (fun c1 => ?_)
    · refine lv_lconst (v := 0) hx hb dL_thinks_17 rfl ?_
      refine r_lastW C hW hO1 hno1 hAo dL_thinks_18 (fun H2 locs2 hW hz2 hO2 => ?_)
      refine lv_goto (tgt := 26) hx hb dL_thinks_19 (by decide) ?_
      refine lv_iconst (v := 0) hx hb dL_thinks_26 (by decide) ?_
      exact r_iretW (cd := 0) C hr0 hk hAe hag hW hf0 hO2 (fun v hv => by cases hv; exact (if_pos c1).symm) (by show 0 + rm.cells ≤ kc + 1; omega) (by show 0 + rm.slots ≤ ks + 6; omega) dL_thinks_27
    · refine lv_lconst (v := 1) hx hb dL_thinks_13 rfl ?_
      refine lv_goto (tgt := 18) hx hb dL_thinks_14 (by decide) ?_
      refine r_lastW C hW hO1 hno1 hAo dL_thinks_18 (fun H2 locs2 hW hz2 hO2 => ?_)
      refine lv_goto (tgt := 26) hx hb dL_thinks_19 (by decide) ?_
      refine lv_iconst (v := 0) hx hb dL_thinks_26 (by decide) ?_
      exact r_iretW (cd := 0) C hr0 hk hAe hag hW hf0 hO2 (fun v hv => by cases hv; exact (if_neg c1).symm) (by show 0 + rm.cells ≤ kc + 1; omega) (by show 0 + rm.slots ≤ ks + 6; omega) dL_thinks_27
  · subst hsh
    have hO1 : outc tc o f H1 := (hkp o hO.lt (nAF hno hO.lt)).trans hO
    have hm := mdI_of (hr cn hcn)
    rcases hm with rfl
    · subst hcn
      refine vx_catch (own := RL) (name := "java/lang/IndexOutOfBoundsException") (E := "java/lang/IndexOutOfBoundsException") C.1.2.2.2.1 [] (xce 0 19 22 24) [] htab (fun z hz => absurd hz List.not_mem_nil) (by decide) (by decide) (C.1.2.2.2.2 _ kw_1388) (va_Nw.use (nwT_on _ ct_1) (hN.2 _ ct_1)) hce hcv hcl ?_
      refine lv_astore (lv' := (5, .ref q) :: [(0, .ref (oa (0, 0))), (1, .int v1), (2, .int v2), (3, .int v3), (4, .ref o)]) hx hb dL_thinks_22 hl (by decide) rfl (fun ls hl => ?_)
      refine lv_iconst (v := 1) hx hb dL_thinks_24 (by decide) ?_
      exact r_iretW (cd := 1) C hr0 hk hAe AGR.rf hW hf0 hO1 (fun v hv => by cases hv) (by show 0 + rm.cells ≤ kc + 1; omega) (by show 0 + rm.slots ≤ ks + 6; omega) dL_thinks_25
set_option maxHeartbeats 4000000 in
set_option maxRecDepth 100000 in
theorem cW_common {l : Launch} {D : va_G} {tc : Nat → ClassId} {ro : Ro} {oa : Ky → Nat} {sh : Sh} {ln : Nat → Nat} {μ : Mm} {v1 : Int32} {gk : Option (((Int32 ⊕ Nat) × Sh × (Nat → Nat) × Mm) × Nat × Nat)} {r : Int32 ⊕ Nat} {sh' : Sh} {ln' : Nat → Nat} {b : Mm} {kc ks : Nat} (hG : CtG l D tc ro oa yX10_common cX10_common 2 (some .int) [.ref (oa (0, 0)), .int v1] sh ln μ (fun x => some (.int x)) gk) (hg0 : gk = some ((r, sh', ln', b), kc, ks)) (hr : ∀ cn, r = .inr cn → 1 ≤ mdI cn) : CtW l D tc ro oa yL_common cL_common 4 [(0, 9, 12, 24)] (rma 46 1260 (kc + 1) (ks + 6)) [.int v1] sh ln μ (cdW mdI r) (lvI r) sh' ln' b := by
  obtain ⟨rm, ⟨b1, b2, b3, b4⟩, hM⟩ := hG r sh' ln' b kc ks hg0
  refine CtW.of (by decide) (fun o => Nat.le_of_ble_eq_true rfl) (fun aa o f p e s m args below meth c A hAe C hr0 hk htab hW hU hN hnc hO hno hAo ls hl => ?_)
  have hx := C.1.1
  have hb := C.1.2.1
  have hl : lv_has ls 4 [(0, .ref (oa (0, 0))), (1, .int v1), (2, .ref o)] := hl
  refine lv_aload_n hx hb dL_common_0 rfl (lv_at hl 2 rfl) ?_
  refine lv_iconst (v := 0) hx hb dL_common_1 (by decide) ?_
  refine lv_aload_n hx hb dL_common_2 rfl (lv_at hl 0 rfl) ?_
  refine lv_iload_n hx hb dL_common_3 rfl (lv_at hl 1 rfl) ?_
  refine r_callG (k := ((0, 0) : Ky)) (C0 := RX10) C hU hN hW hl lk_L_78 hM ⟨by show rm.frames + 1 ≤ 46; omega, by show 8 + (2 + 11) + rm.locals ≤ 1260; omega⟩ rfl rfl rfl (As := [.int v1]) (rest := [.int 0, .ref o]) rfl rfl (Nat.le_of_ble_eq_true rfl) dL_common_4 ⟨by show 0 + rm.cells ≤ kc + 1; omega, by show 0 + rm.slots ≤ ks + 6; omega⟩ (fun x hx2 oa' aa' H1 locs1 hag hW hf0 hz hkp => ?_) (fun cn hcn hsh aa' H1 locs1 q ce hW hf0 hz hkp hce hcv hcl => ?_)
  · subst hx2
    have hO1 : outc tc o f H1 := (hkp o hO.lt (nAF hno hO.lt)).trans hO
    have hno1 := nfa hno hO.lt hf0
    refine lv_i2l hx hb dL_common_7 rfl ?_
    refine r_lastW C hW hO1 hno1 hAo dL_common_8 (fun H2 locs2 hW hz2 hO2 => ?_)
    refine lv_goto (tgt := 15) hx hb dL_common_9 (by decide) ?_
    refine lv_iconst (v := 0) hx hb dL_common_15 (by decide) ?_
    exact r_iretW (cd := 0) C hr0 hk hAe hag hW hf0 hO2 (fun v hv => by cases hv; rfl) (by show 0 + rm.cells ≤ kc + 1; omega) (by show 0 + rm.slots ≤ ks + 6; omega) dL_common_16
  · subst hsh
    have hO1 : outc tc o f H1 := (hkp o hO.lt (nAF hno hO.lt)).trans hO
    have hm := mdI_of (hr cn hcn)
    rcases hm with rfl
    · subst hcn
      refine vx_catch (own := RL) (name := "java/lang/IndexOutOfBoundsException") (E := "java/lang/IndexOutOfBoundsException") C.1.2.2.2.1 [] (xce 0 9 12 24) [] htab (fun z hz => absurd hz List.not_mem_nil) (by decide) (by decide) (C.1.2.2.2.2 _ kw_1388) (va_Nw.use (nwT_on _ ct_1) (hN.2 _ ct_1)) hce hcv hcl ?_
      refine lv_astore_n (lv' := (3, .ref q) :: [(0, .ref (oa (0, 0))), (1, .int v1), (2, .ref o)]) hx hb dL_common_12 rfl hl (by decide) rfl (fun ls hl => ?_)
      refine lv_iconst (v := 1) hx hb dL_common_13 (by decide) ?_
      exact r_iretW (cd := 1) C hr0 hk hAe AGR.rf hW hf0 hO1 (fun v hv => by cases hv) (by show 0 + rm.cells ≤ kc + 1; omega) (by show 0 + rm.slots ≤ ks + 6; omega) dL_common_14
set_option maxHeartbeats 4000000 in
set_option maxRecDepth 100000 in
theorem cW_muddy {l : Launch} {D : va_G} {tc : Nat → ClassId} {ro : Ro} {oa : Ky → Nat} {sh : Sh} {ln : Nat → Nat} {μ : Mm} {v1 : Int32} {gk : Option (((Int32 ⊕ Nat) × Sh × (Nat → Nat) × Mm) × Nat × Nat)} {r : Int32 ⊕ Nat} {sh' : Sh} {ln' : Nat → Nat} {b : Mm} {kc ks : Nat} (hG : CtG l D tc ro oa yX10_muddy cX10_muddy 2 (some .int) [.ref (oa (0, 0)), .int v1] sh ln μ (fun x => some (.int x)) gk) (hg0 : gk = some ((r, sh', ln', b), kc, ks)) (hr : ∀ cn, r = .inr cn → 1 ≤ mdI cn) : CtW l D tc ro oa yL_muddy cL_muddy 4 [(0, 9, 12, 24)] (rma 46 1260 (kc + 1) (ks + 6)) [.int v1] sh ln μ (cdW mdI r) (lvI r) sh' ln' b := by
  obtain ⟨rm, ⟨b1, b2, b3, b4⟩, hM⟩ := hG r sh' ln' b kc ks hg0
  refine CtW.of (by decide) (fun o => Nat.le_of_ble_eq_true rfl) (fun aa o f p e s m args below meth c A hAe C hr0 hk htab hW hU hN hnc hO hno hAo ls hl => ?_)
  have hx := C.1.1
  have hb := C.1.2.1
  have hl : lv_has ls 4 [(0, .ref (oa (0, 0))), (1, .int v1), (2, .ref o)] := hl
  refine lv_aload_n hx hb dL_muddy_0 rfl (lv_at hl 2 rfl) ?_
  refine lv_iconst (v := 0) hx hb dL_muddy_1 (by decide) ?_
  refine lv_aload_n hx hb dL_muddy_2 rfl (lv_at hl 0 rfl) ?_
  refine lv_iload_n hx hb dL_muddy_3 rfl (lv_at hl 1 rfl) ?_
  refine r_callG (k := ((0, 0) : Ky)) (C0 := RX10) C hU hN hW hl lk_L_81 hM ⟨by show rm.frames + 1 ≤ 46; omega, by show 8 + (2 + 11) + rm.locals ≤ 1260; omega⟩ rfl rfl rfl (As := [.int v1]) (rest := [.int 0, .ref o]) rfl rfl (Nat.le_of_ble_eq_true rfl) dL_muddy_4 ⟨by show 0 + rm.cells ≤ kc + 1; omega, by show 0 + rm.slots ≤ ks + 6; omega⟩ (fun x hx2 oa' aa' H1 locs1 hag hW hf0 hz hkp => ?_) (fun cn hcn hsh aa' H1 locs1 q ce hW hf0 hz hkp hce hcv hcl => ?_)
  · subst hx2
    have hO1 : outc tc o f H1 := (hkp o hO.lt (nAF hno hO.lt)).trans hO
    have hno1 := nfa hno hO.lt hf0
    refine lv_i2l hx hb dL_muddy_7 rfl ?_
    refine r_lastW C hW hO1 hno1 hAo dL_muddy_8 (fun H2 locs2 hW hz2 hO2 => ?_)
    refine lv_goto (tgt := 15) hx hb dL_muddy_9 (by decide) ?_
    refine lv_iconst (v := 0) hx hb dL_muddy_15 (by decide) ?_
    exact r_iretW (cd := 0) C hr0 hk hAe hag hW hf0 hO2 (fun v hv => by cases hv; rfl) (by show 0 + rm.cells ≤ kc + 1; omega) (by show 0 + rm.slots ≤ ks + 6; omega) dL_muddy_16
  · subst hsh
    have hO1 : outc tc o f H1 := (hkp o hO.lt (nAF hno hO.lt)).trans hO
    have hm := mdI_of (hr cn hcn)
    rcases hm with rfl
    · subst hcn
      refine vx_catch (own := RL) (name := "java/lang/IndexOutOfBoundsException") (E := "java/lang/IndexOutOfBoundsException") C.1.2.2.2.1 [] (xce 0 9 12 24) [] htab (fun z hz => absurd hz List.not_mem_nil) (by decide) (by decide) (C.1.2.2.2.2 _ kw_1388) (va_Nw.use (nwT_on _ ct_1) (hN.2 _ ct_1)) hce hcv hcl ?_
      refine lv_astore_n (lv' := (3, .ref q) :: [(0, .ref (oa (0, 0))), (1, .int v1), (2, .ref o)]) hx hb dL_muddy_12 rfl hl (by decide) rfl (fun ls hl => ?_)
      refine lv_iconst (v := 1) hx hb dL_muddy_13 (by decide) ?_
      exact r_iretW (cd := 1) C hr0 hk hAe AGR.rf hW hf0 hO1 (fun v hv => by cases hv) (by show 0 + rm.cells ≤ kc + 1; omega) (by show 0 + rm.slots ≤ ks + 6; omega) dL_muddy_14
set_option maxHeartbeats 4000000 in
set_option maxRecDepth 100000 in
theorem cW_backs {l : Launch} {D : va_G} {tc : Nat → ClassId} {ro : Ro} {oa : Ky → Nat} {sh : Sh} {ln : Nat → Nat} {μ : Mm} {v1 : Int32} {gk : Option (((Int32 ⊕ Nat) × Sh × (Nat → Nat) × Mm) × Nat × Nat)} {r : Int32 ⊕ Nat} {sh' : Sh} {ln' : Nat → Nat} {b : Mm} {kc ks : Nat} (hG : CtG l D tc ro oa yX10_backs cX10_backs 2 (some .int) [.ref (oa (0, 0)), .int v1] sh ln μ (fun x => some (.int x)) gk) (hg0 : gk = some ((r, sh', ln', b), kc, ks)) (hr : ∀ cn, r = .inr cn → 1 ≤ mdI cn) : CtW l D tc ro oa yL_backs cL_backs 4 [(0, 9, 12, 24)] (rma 46 1260 (kc + 1) (ks + 6)) [.int v1] sh ln μ (cdW mdI r) (lvI r) sh' ln' b := by
  obtain ⟨rm, ⟨b1, b2, b3, b4⟩, hM⟩ := hG r sh' ln' b kc ks hg0
  refine CtW.of (by decide) (fun o => Nat.le_of_ble_eq_true rfl) (fun aa o f p e s m args below meth c A hAe C hr0 hk htab hW hU hN hnc hO hno hAo ls hl => ?_)
  have hx := C.1.1
  have hb := C.1.2.1
  have hl : lv_has ls 4 [(0, .ref (oa (0, 0))), (1, .int v1), (2, .ref o)] := hl
  refine lv_aload_n hx hb dL_backs_0 rfl (lv_at hl 2 rfl) ?_
  refine lv_iconst (v := 0) hx hb dL_backs_1 (by decide) ?_
  refine lv_aload_n hx hb dL_backs_2 rfl (lv_at hl 0 rfl) ?_
  refine lv_iload_n hx hb dL_backs_3 rfl (lv_at hl 1 rfl) ?_
  refine r_callG (k := ((0, 0) : Ky)) (C0 := RX10) C hU hN hW hl lk_L_84 hM ⟨by show rm.frames + 1 ≤ 46; omega, by show 8 + (2 + 11) + rm.locals ≤ 1260; omega⟩ rfl rfl rfl (As := [.int v1]) (rest := [.int 0, .ref o]) rfl rfl (Nat.le_of_ble_eq_true rfl) dL_backs_4 ⟨by show 0 + rm.cells ≤ kc + 1; omega, by show 0 + rm.slots ≤ ks + 6; omega⟩ (fun x hx2 oa' aa' H1 locs1 hag hW hf0 hz hkp => ?_) (fun cn hcn hsh aa' H1 locs1 q ce hW hf0 hz hkp hce hcv hcl => ?_)
  · subst hx2
    have hO1 : outc tc o f H1 := (hkp o hO.lt (nAF hno hO.lt)).trans hO
    have hno1 := nfa hno hO.lt hf0
    refine lv_i2l hx hb dL_backs_7 rfl ?_
    refine r_lastW C hW hO1 hno1 hAo dL_backs_8 (fun H2 locs2 hW hz2 hO2 => ?_)
    refine lv_goto (tgt := 15) hx hb dL_backs_9 (by decide) ?_
    refine lv_iconst (v := 0) hx hb dL_backs_15 (by decide) ?_
    exact r_iretW (cd := 0) C hr0 hk hAe hag hW hf0 hO2 (fun v hv => by cases hv; rfl) (by show 0 + rm.cells ≤ kc + 1; omega) (by show 0 + rm.slots ≤ ks + 6; omega) dL_backs_16
  · subst hsh
    have hO1 : outc tc o f H1 := (hkp o hO.lt (nAF hno hO.lt)).trans hO
    have hm := mdI_of (hr cn hcn)
    rcases hm with rfl
    · subst hcn
      refine vx_catch (own := RL) (name := "java/lang/IndexOutOfBoundsException") (E := "java/lang/IndexOutOfBoundsException") C.1.2.2.2.1 [] (xce 0 9 12 24) [] htab (fun z hz => absurd hz List.not_mem_nil) (by decide) (by decide) (C.1.2.2.2.2 _ kw_1388) (va_Nw.use (nwT_on _ ct_1) (hN.2 _ ct_1)) hce hcv hcl ?_
      refine lv_astore_n (lv' := (3, .ref q) :: [(0, .ref (oa (0, 0))), (1, .int v1), (2, .ref o)]) hx hb dL_backs_12 rfl hl (by decide) rfl (fun ls hl => ?_)
      refine lv_iconst (v := 1) hx hb dL_backs_13 (by decide) ?_
      exact r_iretW (cd := 1) C hr0 hk hAe AGR.rf hW hf0 hO1 (fun v hv => by cases hv) (by show 0 + rm.cells ≤ kc + 1; omega) (by show 0 + rm.slots ≤ ks + 6; omega) dL_backs_14
set_option maxHeartbeats 4000000 in
set_option maxRecDepth 100000 in
theorem cW_gives {l : Launch} {D : va_G} {tc : Nat → ClassId} {ro : Ro} {oa : Ky → Nat} {sh : Sh} {ln : Nat → Nat} {μ : Mm} {v1 : Int32} {gk : Option (((Int32 ⊕ Nat) × Sh × (Nat → Nat) × Mm) × Nat × Nat)} {r : Int32 ⊕ Nat} {sh' : Sh} {ln' : Nat → Nat} {b : Mm} {kc ks : Nat} (hG : CtG l D tc ro oa yX10_gives cX10_gives 2 (some .int) [.ref (oa (0, 0)), .int v1] sh ln μ (fun x => some (.int x)) gk) (hg0 : gk = some ((r, sh', ln', b), kc, ks)) (hr : ∀ cn, r = .inr cn → 1 ≤ mdI cn) : CtW l D tc ro oa yL_gives cL_gives 4 [(0, 9, 12, 24)] (rma 46 1260 (kc + 1) (ks + 6)) [.int v1] sh ln μ (cdW mdI r) (lvI r) sh' ln' b := by
  obtain ⟨rm, ⟨b1, b2, b3, b4⟩, hM⟩ := hG r sh' ln' b kc ks hg0
  refine CtW.of (by decide) (fun o => Nat.le_of_ble_eq_true rfl) (fun aa o f p e s m args below meth c A hAe C hr0 hk htab hW hU hN hnc hO hno hAo ls hl => ?_)
  have hx := C.1.1
  have hb := C.1.2.1
  have hl : lv_has ls 4 [(0, .ref (oa (0, 0))), (1, .int v1), (2, .ref o)] := hl
  refine lv_aload_n hx hb dL_gives_0 rfl (lv_at hl 2 rfl) ?_
  refine lv_iconst (v := 0) hx hb dL_gives_1 (by decide) ?_
  refine lv_aload_n hx hb dL_gives_2 rfl (lv_at hl 0 rfl) ?_
  refine lv_iload_n hx hb dL_gives_3 rfl (lv_at hl 1 rfl) ?_
  refine r_callG (k := ((0, 0) : Ky)) (C0 := RX10) C hU hN hW hl lk_L_87 hM ⟨by show rm.frames + 1 ≤ 46; omega, by show 8 + (2 + 11) + rm.locals ≤ 1260; omega⟩ rfl rfl rfl (As := [.int v1]) (rest := [.int 0, .ref o]) rfl rfl (Nat.le_of_ble_eq_true rfl) dL_gives_4 ⟨by show 0 + rm.cells ≤ kc + 1; omega, by show 0 + rm.slots ≤ ks + 6; omega⟩ (fun x hx2 oa' aa' H1 locs1 hag hW hf0 hz hkp => ?_) (fun cn hcn hsh aa' H1 locs1 q ce hW hf0 hz hkp hce hcv hcl => ?_)
  · subst hx2
    have hO1 : outc tc o f H1 := (hkp o hO.lt (nAF hno hO.lt)).trans hO
    have hno1 := nfa hno hO.lt hf0
    refine lv_i2l hx hb dL_gives_7 rfl ?_
    refine r_lastW C hW hO1 hno1 hAo dL_gives_8 (fun H2 locs2 hW hz2 hO2 => ?_)
    refine lv_goto (tgt := 15) hx hb dL_gives_9 (by decide) ?_
    refine lv_iconst (v := 0) hx hb dL_gives_15 (by decide) ?_
    exact r_iretW (cd := 0) C hr0 hk hAe hag hW hf0 hO2 (fun v hv => by cases hv; rfl) (by show 0 + rm.cells ≤ kc + 1; omega) (by show 0 + rm.slots ≤ ks + 6; omega) dL_gives_16
  · subst hsh
    have hO1 : outc tc o f H1 := (hkp o hO.lt (nAF hno hO.lt)).trans hO
    have hm := mdI_of (hr cn hcn)
    rcases hm with rfl
    · subst hcn
      refine vx_catch (own := RL) (name := "java/lang/IndexOutOfBoundsException") (E := "java/lang/IndexOutOfBoundsException") C.1.2.2.2.1 [] (xce 0 9 12 24) [] htab (fun z hz => absurd hz List.not_mem_nil) (by decide) (by decide) (C.1.2.2.2.2 _ kw_1388) (va_Nw.use (nwT_on _ ct_1) (hN.2 _ ct_1)) hce hcv hcl ?_
      refine lv_astore_n (lv' := (3, .ref q) :: [(0, .ref (oa (0, 0))), (1, .int v1), (2, .ref o)]) hx hb dL_gives_12 rfl hl (by decide) rfl (fun ls hl => ?_)
      refine lv_iconst (v := 1) hx hb dL_gives_13 (by decide) ?_
      exact r_iretW (cd := 1) C hr0 hk hAe AGR.rf hW hf0 hO1 (fun v hv => by cases hv) (by show 0 + rm.cells ≤ kc + 1; omega) (by show 0 + rm.slots ≤ ks + 6; omega) dL_gives_14
set_option maxHeartbeats 4000000 in
set_option maxRecDepth 100000 in
theorem cW_never {l : Launch} {D : va_G} {tc : Nat → ClassId} {ro : Ro} {oa : Ky → Nat} {sh : Sh} {ln : Nat → Nat} {μ : Mm} {v1 : Int32} {gk : Option (((Int32 ⊕ Nat) × Sh × (Nat → Nat) × Mm) × Nat × Nat)} {r : Int32 ⊕ Nat} {sh' : Sh} {ln' : Nat → Nat} {b : Mm} {kc ks : Nat} (hG : CtG l D tc ro oa yX10_never cX10_never 2 (some .int) [.ref (oa (0, 0)), .int v1] sh ln μ (fun x => some (.int x)) gk) (hg0 : gk = some ((r, sh', ln', b), kc, ks)) (hr : ∀ cn, r = .inr cn → 1 ≤ mdI cn) : CtW l D tc ro oa yL_never cL_never 4 [(0, 9, 12, 24)] (rma 46 1260 (kc + 1) (ks + 6)) [.int v1] sh ln μ (cdW mdI r) (lvI r) sh' ln' b := by
  obtain ⟨rm, ⟨b1, b2, b3, b4⟩, hM⟩ := hG r sh' ln' b kc ks hg0
  refine CtW.of (by decide) (fun o => Nat.le_of_ble_eq_true rfl) (fun aa o f p e s m args below meth c A hAe C hr0 hk htab hW hU hN hnc hO hno hAo ls hl => ?_)
  have hx := C.1.1
  have hb := C.1.2.1
  have hl : lv_has ls 4 [(0, .ref (oa (0, 0))), (1, .int v1), (2, .ref o)] := hl
  refine lv_aload_n hx hb dL_never_0 rfl (lv_at hl 2 rfl) ?_
  refine lv_iconst (v := 0) hx hb dL_never_1 (by decide) ?_
  refine lv_aload_n hx hb dL_never_2 rfl (lv_at hl 0 rfl) ?_
  refine lv_iload_n hx hb dL_never_3 rfl (lv_at hl 1 rfl) ?_
  refine r_callG (k := ((0, 0) : Ky)) (C0 := RX10) C hU hN hW hl lk_L_90 hM ⟨by show rm.frames + 1 ≤ 46; omega, by show 8 + (2 + 11) + rm.locals ≤ 1260; omega⟩ rfl rfl rfl (As := [.int v1]) (rest := [.int 0, .ref o]) rfl rfl (Nat.le_of_ble_eq_true rfl) dL_never_4 ⟨by show 0 + rm.cells ≤ kc + 1; omega, by show 0 + rm.slots ≤ ks + 6; omega⟩ (fun x hx2 oa' aa' H1 locs1 hag hW hf0 hz hkp => ?_) (fun cn hcn hsh aa' H1 locs1 q ce hW hf0 hz hkp hce hcv hcl => ?_)
  · subst hx2
    have hO1 : outc tc o f H1 := (hkp o hO.lt (nAF hno hO.lt)).trans hO
    have hno1 := nfa hno hO.lt hf0
    refine lv_i2l hx hb dL_never_7 rfl ?_
    refine r_lastW C hW hO1 hno1 hAo dL_never_8 (fun H2 locs2 hW hz2 hO2 => ?_)
    refine lv_goto (tgt := 15) hx hb dL_never_9 (by decide) ?_
    refine lv_iconst (v := 0) hx hb dL_never_15 (by decide) ?_
    exact r_iretW (cd := 0) C hr0 hk hAe hag hW hf0 hO2 (fun v hv => by cases hv; rfl) (by show 0 + rm.cells ≤ kc + 1; omega) (by show 0 + rm.slots ≤ ks + 6; omega) dL_never_16
  · subst hsh
    have hO1 : outc tc o f H1 := (hkp o hO.lt (nAF hno hO.lt)).trans hO
    have hm := mdI_of (hr cn hcn)
    rcases hm with rfl
    · subst hcn
      refine vx_catch (own := RL) (name := "java/lang/IndexOutOfBoundsException") (E := "java/lang/IndexOutOfBoundsException") C.1.2.2.2.1 [] (xce 0 9 12 24) [] htab (fun z hz => absurd hz List.not_mem_nil) (by decide) (by decide) (C.1.2.2.2.2 _ kw_1388) (va_Nw.use (nwT_on _ ct_1) (hN.2 _ ct_1)) hce hcv hcl ?_
      refine lv_astore_n (lv' := (3, .ref q) :: [(0, .ref (oa (0, 0))), (1, .int v1), (2, .ref o)]) hx hb dL_never_12 rfl hl (by decide) rfl (fun ls hl => ?_)
      refine lv_iconst (v := 1) hx hb dL_never_13 (by decide) ?_
      exact r_iretW (cd := 1) C hr0 hk hAe AGR.rf hW hf0 hO1 (fun v hv => by cases hv) (by show 0 + rm.cells ≤ kc + 1; omega) (by show 0 + rm.slots ≤ ks + 6; omega) dL_never_14
set_option maxHeartbeats 4000000 in
set_option maxRecDepth 100000 in
theorem cW_question {l : Launch} {D : va_G} {tc : Nat → ClassId} {ro : Ro} {oa : Ky → Nat} {sh : Sh} {ln : Nat → Nat} {μ : Mm} {v1 : Int32} {gk : Option (((Int32 ⊕ Nat) × Sh × (Nat → Nat) × Mm) × Nat × Nat)} {r : Int32 ⊕ Nat} {sh' : Sh} {ln' : Nat → Nat} {b : Mm} {kc ks : Nat} (hG : CtG l D tc ro oa yX10_question cX10_question 2 (some .int) [.ref (oa (0, 0)), .int v1] sh ln μ (fun x => some (.int x)) gk) (hg0 : gk = some ((r, sh', ln', b), kc, ks)) (hr : ∀ cn, r = .inr cn → 1 ≤ mdI cn) : CtW l D tc ro oa yL_question cL_question 4 [(0, 9, 12, 24)] (rma 46 1260 (kc + 1) (ks + 6)) [.int v1] sh ln μ (cdW mdI r) (lvI r) sh' ln' b := by
  obtain ⟨rm, ⟨b1, b2, b3, b4⟩, hM⟩ := hG r sh' ln' b kc ks hg0
  refine CtW.of (by decide) (fun o => Nat.le_of_ble_eq_true rfl) (fun aa o f p e s m args below meth c A hAe C hr0 hk htab hW hU hN hnc hO hno hAo ls hl => ?_)
  have hx := C.1.1
  have hb := C.1.2.1
  have hl : lv_has ls 4 [(0, .ref (oa (0, 0))), (1, .int v1), (2, .ref o)] := hl
  refine lv_aload_n hx hb dL_question_0 rfl (lv_at hl 2 rfl) ?_
  refine lv_iconst (v := 0) hx hb dL_question_1 (by decide) ?_
  refine lv_aload_n hx hb dL_question_2 rfl (lv_at hl 0 rfl) ?_
  refine lv_iload_n hx hb dL_question_3 rfl (lv_at hl 1 rfl) ?_
  refine r_callG (k := ((0, 0) : Ky)) (C0 := RX10) C hU hN hW hl lk_L_93 hM ⟨by show rm.frames + 1 ≤ 46; omega, by show 8 + (2 + 11) + rm.locals ≤ 1260; omega⟩ rfl rfl rfl (As := [.int v1]) (rest := [.int 0, .ref o]) rfl rfl (Nat.le_of_ble_eq_true rfl) dL_question_4 ⟨by show 0 + rm.cells ≤ kc + 1; omega, by show 0 + rm.slots ≤ ks + 6; omega⟩ (fun x hx2 oa' aa' H1 locs1 hag hW hf0 hz hkp => ?_) (fun cn hcn hsh aa' H1 locs1 q ce hW hf0 hz hkp hce hcv hcl => ?_)
  · subst hx2
    have hO1 : outc tc o f H1 := (hkp o hO.lt (nAF hno hO.lt)).trans hO
    have hno1 := nfa hno hO.lt hf0
    refine lv_i2l hx hb dL_question_7 rfl ?_
    refine r_lastW C hW hO1 hno1 hAo dL_question_8 (fun H2 locs2 hW hz2 hO2 => ?_)
    refine lv_goto (tgt := 15) hx hb dL_question_9 (by decide) ?_
    refine lv_iconst (v := 0) hx hb dL_question_15 (by decide) ?_
    exact r_iretW (cd := 0) C hr0 hk hAe hag hW hf0 hO2 (fun v hv => by cases hv; rfl) (by show 0 + rm.cells ≤ kc + 1; omega) (by show 0 + rm.slots ≤ ks + 6; omega) dL_question_16
  · subst hsh
    have hO1 : outc tc o f H1 := (hkp o hO.lt (nAF hno hO.lt)).trans hO
    have hm := mdI_of (hr cn hcn)
    rcases hm with rfl
    · subst hcn
      refine vx_catch (own := RL) (name := "java/lang/IndexOutOfBoundsException") (E := "java/lang/IndexOutOfBoundsException") C.1.2.2.2.1 [] (xce 0 9 12 24) [] htab (fun z hz => absurd hz List.not_mem_nil) (by decide) (by decide) (C.1.2.2.2.2 _ kw_1388) (va_Nw.use (nwT_on _ ct_1) (hN.2 _ ct_1)) hce hcv hcl ?_
      refine lv_astore_n (lv' := (3, .ref q) :: [(0, .ref (oa (0, 0))), (1, .int v1), (2, .ref o)]) hx hb dL_question_12 rfl hl (by decide) rfl (fun ls hl => ?_)
      refine lv_iconst (v := 1) hx hb dL_question_13 (by decide) ?_
      exact r_iretW (cd := 1) C hr0 hk hAe AGR.rf hW hf0 hO1 (fun v hv => by cases hv) (by show 0 + rm.cells ≤ kc + 1; omega) (by show 0 + rm.slots ≤ ks + 6; omega) dL_question_14
set_option maxHeartbeats 4000000 in
set_option maxRecDepth 100000 in
theorem cW_queries {l : Launch} {D : va_G} {tc : Nat → ClassId} {ro : Ro} {oa : Ky → Nat} {sh : Sh} {ln : Nat → Nat} {μ : Mm} {v1 : Int32} {gk : Option (((Int32 ⊕ Nat) × Sh × (Nat → Nat) × Mm) × Nat × Nat)} {r : Int32 ⊕ Nat} {sh' : Sh} {ln' : Nat → Nat} {b : Mm} {kc ks : Nat} (hG : CtG l D tc ro oa yX10_queries cX10_queries 2 (some .int) [.ref (oa (0, 0)), .int v1] sh ln μ (fun x => some (.int x)) gk) (hg0 : gk = some ((r, sh', ln', b), kc, ks)) (hr : ∀ cn, r = .inr cn → 1 ≤ mdI cn) : CtW l D tc ro oa yL_queries cL_queries 4 [(0, 9, 12, 24)] (rma 46 1260 (kc + 1) (ks + 6)) [.int v1] sh ln μ (cdW mdI r) (lvI r) sh' ln' b := by
  obtain ⟨rm, ⟨b1, b2, b3, b4⟩, hM⟩ := hG r sh' ln' b kc ks hg0
  refine CtW.of (by decide) (fun o => Nat.le_of_ble_eq_true rfl) (fun aa o f p e s m args below meth c A hAe C hr0 hk htab hW hU hN hnc hO hno hAo ls hl => ?_)
  have hx := C.1.1
  have hb := C.1.2.1
  have hl : lv_has ls 4 [(0, .ref (oa (0, 0))), (1, .int v1), (2, .ref o)] := hl
  refine lv_aload_n hx hb dL_queries_0 rfl (lv_at hl 2 rfl) ?_
  refine lv_iconst (v := 0) hx hb dL_queries_1 (by decide) ?_
  refine lv_aload_n hx hb dL_queries_2 rfl (lv_at hl 0 rfl) ?_
  refine lv_iload_n hx hb dL_queries_3 rfl (lv_at hl 1 rfl) ?_
  refine r_callG (k := ((0, 0) : Ky)) (C0 := RX10) C hU hN hW hl lk_L_96 hM ⟨by show rm.frames + 1 ≤ 46; omega, by show 8 + (2 + 11) + rm.locals ≤ 1260; omega⟩ rfl rfl rfl (As := [.int v1]) (rest := [.int 0, .ref o]) rfl rfl (Nat.le_of_ble_eq_true rfl) dL_queries_4 ⟨by show 0 + rm.cells ≤ kc + 1; omega, by show 0 + rm.slots ≤ ks + 6; omega⟩ (fun x hx2 oa' aa' H1 locs1 hag hW hf0 hz hkp => ?_) (fun cn hcn hsh aa' H1 locs1 q ce hW hf0 hz hkp hce hcv hcl => ?_)
  · subst hx2
    have hO1 : outc tc o f H1 := (hkp o hO.lt (nAF hno hO.lt)).trans hO
    have hno1 := nfa hno hO.lt hf0
    refine lv_i2l hx hb dL_queries_7 rfl ?_
    refine r_lastW C hW hO1 hno1 hAo dL_queries_8 (fun H2 locs2 hW hz2 hO2 => ?_)
    refine lv_goto (tgt := 15) hx hb dL_queries_9 (by decide) ?_
    refine lv_iconst (v := 0) hx hb dL_queries_15 (by decide) ?_
    exact r_iretW (cd := 0) C hr0 hk hAe hag hW hf0 hO2 (fun v hv => by cases hv; rfl) (by show 0 + rm.cells ≤ kc + 1; omega) (by show 0 + rm.slots ≤ ks + 6; omega) dL_queries_16
  · subst hsh
    have hO1 : outc tc o f H1 := (hkp o hO.lt (nAF hno hO.lt)).trans hO
    have hm := mdI_of (hr cn hcn)
    rcases hm with rfl
    · subst hcn
      refine vx_catch (own := RL) (name := "java/lang/IndexOutOfBoundsException") (E := "java/lang/IndexOutOfBoundsException") C.1.2.2.2.1 [] (xce 0 9 12 24) [] htab (fun z hz => absurd hz List.not_mem_nil) (by decide) (by decide) (C.1.2.2.2.2 _ kw_1388) (va_Nw.use (nwT_on _ ct_1) (hN.2 _ ct_1)) hce hcv hcl ?_
      refine lv_astore_n (lv' := (3, .ref q) :: [(0, .ref (oa (0, 0))), (1, .int v1), (2, .ref o)]) hx hb dL_queries_12 rfl hl (by decide) rfl (fun ls hl => ?_)
      refine lv_iconst (v := 1) hx hb dL_queries_13 (by decide) ?_
      exact r_iretW (cd := 1) C hr0 hk hAe AGR.rf hW hf0 hO1 (fun v hv => by cases hv) (by show 0 + rm.cells ≤ kc + 1; omega) (by show 0 + rm.slots ≤ ks + 6; omega) dL_queries_14
set_option maxHeartbeats 4000000 in
set_option maxRecDepth 100000 in
theorem cW_spill {l : Launch} {D : va_G} {tc : Nat → ClassId} {ro : Ro} {oa : Ky → Nat} {sh : Sh} {ln : Nat → Nat} {μ : Mm} {v1 : Int32} {gk : Option (((Int32 ⊕ Nat) × Sh × (Nat → Nat) × Mm) × Nat × Nat)} {r : Int32 ⊕ Nat} {sh' : Sh} {ln' : Nat → Nat} {b : Mm} {kc ks : Nat} (hG : CtG l D tc ro oa yX10_spill cX10_spill 2 (some .int) [.ref (oa (0, 0)), .int v1] sh ln μ (fun x => some (.int x)) gk) (hg0 : gk = some ((r, sh', ln', b), kc, ks)) (hr : ∀ cn, r = .inr cn → 1 ≤ mdI cn) : CtW l D tc ro oa yL_spill cL_spill 4 [(0, 9, 12, 24)] (rma 46 1260 (kc + 1) (ks + 6)) [.int v1] sh ln μ (cdW mdI r) (lvI r) sh' ln' b := by
  obtain ⟨rm, ⟨b1, b2, b3, b4⟩, hM⟩ := hG r sh' ln' b kc ks hg0
  refine CtW.of (by decide) (fun o => Nat.le_of_ble_eq_true rfl) (fun aa o f p e s m args below meth c A hAe C hr0 hk htab hW hU hN hnc hO hno hAo ls hl => ?_)
  have hx := C.1.1
  have hb := C.1.2.1
  have hl : lv_has ls 4 [(0, .ref (oa (0, 0))), (1, .int v1), (2, .ref o)] := hl
  refine lv_aload_n hx hb dL_spill_0 rfl (lv_at hl 2 rfl) ?_
  refine lv_iconst (v := 0) hx hb dL_spill_1 (by decide) ?_
  refine lv_aload_n hx hb dL_spill_2 rfl (lv_at hl 0 rfl) ?_
  refine lv_iload_n hx hb dL_spill_3 rfl (lv_at hl 1 rfl) ?_
  refine r_callG (k := ((0, 0) : Ky)) (C0 := RX10) C hU hN hW hl lk_L_99 hM ⟨by show rm.frames + 1 ≤ 46; omega, by show 8 + (2 + 11) + rm.locals ≤ 1260; omega⟩ rfl rfl rfl (As := [.int v1]) (rest := [.int 0, .ref o]) rfl rfl (Nat.le_of_ble_eq_true rfl) dL_spill_4 ⟨by show 0 + rm.cells ≤ kc + 1; omega, by show 0 + rm.slots ≤ ks + 6; omega⟩ (fun x hx2 oa' aa' H1 locs1 hag hW hf0 hz hkp => ?_) (fun cn hcn hsh aa' H1 locs1 q ce hW hf0 hz hkp hce hcv hcl => ?_)
  · subst hx2
    have hO1 : outc tc o f H1 := (hkp o hO.lt (nAF hno hO.lt)).trans hO
    have hno1 := nfa hno hO.lt hf0
    refine lv_i2l hx hb dL_spill_7 rfl ?_
    refine r_lastW C hW hO1 hno1 hAo dL_spill_8 (fun H2 locs2 hW hz2 hO2 => ?_)
    refine lv_goto (tgt := 15) hx hb dL_spill_9 (by decide) ?_
    refine lv_iconst (v := 0) hx hb dL_spill_15 (by decide) ?_
    exact r_iretW (cd := 0) C hr0 hk hAe hag hW hf0 hO2 (fun v hv => by cases hv; rfl) (by show 0 + rm.cells ≤ kc + 1; omega) (by show 0 + rm.slots ≤ ks + 6; omega) dL_spill_16
  · subst hsh
    have hO1 : outc tc o f H1 := (hkp o hO.lt (nAF hno hO.lt)).trans hO
    have hm := mdI_of (hr cn hcn)
    rcases hm with rfl
    · subst hcn
      refine vx_catch (own := RL) (name := "java/lang/IndexOutOfBoundsException") (E := "java/lang/IndexOutOfBoundsException") C.1.2.2.2.1 [] (xce 0 9 12 24) [] htab (fun z hz => absurd hz List.not_mem_nil) (by decide) (by decide) (C.1.2.2.2.2 _ kw_1388) (va_Nw.use (nwT_on _ ct_1) (hN.2 _ ct_1)) hce hcv hcl ?_
      refine lv_astore_n (lv' := (3, .ref q) :: [(0, .ref (oa (0, 0))), (1, .int v1), (2, .ref o)]) hx hb dL_spill_12 rfl hl (by decide) rfl (fun ls hl => ?_)
      refine lv_iconst (v := 1) hx hb dL_spill_13 (by decide) ?_
      exact r_iretW (cd := 1) C hr0 hk hAe AGR.rf hW hf0 hO1 (fun v hv => by cases hv) (by show 0 + rm.cells ≤ kc + 1; omega) (by show 0 + rm.slots ≤ ks + 6; omega) dL_spill_14
set_option maxHeartbeats 4000000 in
set_option maxRecDepth 100000 in
theorem cW_game {l : Launch} {D : va_G} {tc : Nat → ClassId} {ro : Ro} {oa : Ky → Nat} {sh : Sh} {ln : Nat → Nat} {μ : Mm} {v1 v2 : Int32} {gk : Option (((Int32 ⊕ Nat) × Sh × (Nat → Nat) × Mm) × Nat × Nat)} {r : Int32 ⊕ Nat} {sh' : Sh} {ln' : Nat → Nat} {b : Mm} {kc ks : Nat} (hG : CtG l D tc ro oa yX10_game cX10_game 3 (some .int) [.ref (oa (0, 0)), .int v1, .int v2] sh ln μ (fun x => some (.int x)) gk) (hg0 : gk = some ((r, sh', ln', b), kc, ks)) (hr : ∀ cn, r = .inr cn → 1 ≤ mdI cn) : CtW l D tc ro oa yL_game cL_game 5 [(0, 10, 13, 24)] (rma 46 1260 (kc + 1) (ks + 6)) [.int v1, .int v2] sh ln μ (cdW mdI r) (lvI r) sh' ln' b := by
  obtain ⟨rm, ⟨b1, b2, b3, b4⟩, hM⟩ := hG r sh' ln' b kc ks hg0
  refine CtW.of (by decide) (fun o => Nat.le_of_ble_eq_true rfl) (fun aa o f p e s m args below meth c A hAe C hr0 hk htab hW hU hN hnc hO hno hAo ls hl => ?_)
  have hx := C.1.1
  have hb := C.1.2.1
  have hl : lv_has ls 5 [(0, .ref (oa (0, 0))), (1, .int v1), (2, .int v2), (3, .ref o)] := hl
  refine lv_aload_n hx hb dL_game_0 rfl (lv_at hl 3 rfl) ?_
  refine lv_iconst (v := 0) hx hb dL_game_1 (by decide) ?_
  refine lv_aload_n hx hb dL_game_2 rfl (lv_at hl 0 rfl) ?_
  refine lv_iload_n hx hb dL_game_3 rfl (lv_at hl 1 rfl) ?_
  refine lv_iload_n hx hb dL_game_4 rfl (lv_at hl 2 rfl) ?_
  refine r_callG (k := ((0, 0) : Ky)) (C0 := RX10) C hU hN hW hl lk_L_102 hM ⟨by show rm.frames + 1 ≤ 46; omega, by show 8 + (3 + 11) + rm.locals ≤ 1260; omega⟩ rfl rfl rfl (As := [.int v1, .int v2]) (rest := [.int 0, .ref o]) rfl rfl (Nat.le_of_ble_eq_true rfl) dL_game_5 ⟨by show 0 + rm.cells ≤ kc + 1; omega, by show 0 + rm.slots ≤ ks + 6; omega⟩ (fun x hx2 oa' aa' H1 locs1 hag hW hf0 hz hkp => ?_) (fun cn hcn hsh aa' H1 locs1 q ce hW hf0 hz hkp hce hcv hcl => ?_)
  · subst hx2
    have hO1 : outc tc o f H1 := (hkp o hO.lt (nAF hno hO.lt)).trans hO
    have hno1 := nfa hno hO.lt hf0
    refine lv_i2l hx hb dL_game_8 rfl ?_
    refine r_lastW C hW hO1 hno1 hAo dL_game_9 (fun H2 locs2 hW hz2 hO2 => ?_)
    refine lv_goto (tgt := 17) hx hb dL_game_10 (by decide) ?_
    refine lv_iconst (v := 0) hx hb dL_game_17 (by decide) ?_
    exact r_iretW (cd := 0) C hr0 hk hAe hag hW hf0 hO2 (fun v hv => by cases hv; rfl) (by show 0 + rm.cells ≤ kc + 1; omega) (by show 0 + rm.slots ≤ ks + 6; omega) dL_game_18
  · subst hsh
    have hO1 : outc tc o f H1 := (hkp o hO.lt (nAF hno hO.lt)).trans hO
    have hm := mdI_of (hr cn hcn)
    rcases hm with rfl
    · subst hcn
      refine vx_catch (own := RL) (name := "java/lang/IndexOutOfBoundsException") (E := "java/lang/IndexOutOfBoundsException") C.1.2.2.2.1 [] (xce 0 10 13 24) [] htab (fun z hz => absurd hz List.not_mem_nil) (by decide) (by decide) (C.1.2.2.2.2 _ kw_1388) (va_Nw.use (nwT_on _ ct_1) (hN.2 _ ct_1)) hce hcv hcl ?_
      refine lv_astore (lv' := (4, .ref q) :: [(0, .ref (oa (0, 0))), (1, .int v1), (2, .int v2), (3, .ref o)]) hx hb dL_game_13 hl (by decide) rfl (fun ls hl => ?_)
      refine lv_iconst (v := 1) hx hb dL_game_15 (by decide) ?_
      exact r_iretW (cd := 1) C hr0 hk hAe AGR.rf hW hf0 hO1 (fun v hv => by cases hv) (by show 0 + rm.cells ≤ kc + 1; omega) (by show 0 + rm.slots ≤ ks + 6; omega) dL_game_16
set_option maxHeartbeats 4000000 in
set_option maxRecDepth 100000 in
theorem cW_steps {l : Launch} {D : va_G} {tc : Nat → ClassId} {ro : Ro} {oa : Ky → Nat} {sh : Sh} {ln : Nat → Nat} {μ : Mm} {v1 v2 : Int32} {gk : Option (((Int32 ⊕ Nat) × Sh × (Nat → Nat) × Mm) × Nat × Nat)} {r : Int32 ⊕ Nat} {sh' : Sh} {ln' : Nat → Nat} {b : Mm} {kc ks : Nat} (hG : CtG l D tc ro oa yX10_steps cX10_steps 3 (some .int) [.ref (oa (0, 0)), .int v1, .int v2] sh ln μ (fun x => some (.int x)) gk) (hg0 : gk = some ((r, sh', ln', b), kc, ks)) (hr : ∀ cn, r = .inr cn → 1 ≤ mdI cn) : CtW l D tc ro oa yL_steps cL_steps 5 [(0, 10, 13, 24)] (rma 46 1260 (kc + 1) (ks + 6)) [.int v1, .int v2] sh ln μ (cdW mdI r) (lvI r) sh' ln' b := by
  obtain ⟨rm, ⟨b1, b2, b3, b4⟩, hM⟩ := hG r sh' ln' b kc ks hg0
  refine CtW.of (by decide) (fun o => Nat.le_of_ble_eq_true rfl) (fun aa o f p e s m args below meth c A hAe C hr0 hk htab hW hU hN hnc hO hno hAo ls hl => ?_)
  have hx := C.1.1
  have hb := C.1.2.1
  have hl : lv_has ls 5 [(0, .ref (oa (0, 0))), (1, .int v1), (2, .int v2), (3, .ref o)] := hl
  refine lv_aload_n hx hb dL_steps_0 rfl (lv_at hl 3 rfl) ?_
  refine lv_iconst (v := 0) hx hb dL_steps_1 (by decide) ?_
  refine lv_aload_n hx hb dL_steps_2 rfl (lv_at hl 0 rfl) ?_
  refine lv_iload_n hx hb dL_steps_3 rfl (lv_at hl 1 rfl) ?_
  refine lv_iload_n hx hb dL_steps_4 rfl (lv_at hl 2 rfl) ?_
  refine r_callG (k := ((0, 0) : Ky)) (C0 := RX10) C hU hN hW hl lk_L_106 hM ⟨by show rm.frames + 1 ≤ 46; omega, by show 8 + (3 + 11) + rm.locals ≤ 1260; omega⟩ rfl rfl rfl (As := [.int v1, .int v2]) (rest := [.int 0, .ref o]) rfl rfl (Nat.le_of_ble_eq_true rfl) dL_steps_5 ⟨by show 0 + rm.cells ≤ kc + 1; omega, by show 0 + rm.slots ≤ ks + 6; omega⟩ (fun x hx2 oa' aa' H1 locs1 hag hW hf0 hz hkp => ?_) (fun cn hcn hsh aa' H1 locs1 q ce hW hf0 hz hkp hce hcv hcl => ?_)
  · subst hx2
    have hO1 : outc tc o f H1 := (hkp o hO.lt (nAF hno hO.lt)).trans hO
    have hno1 := nfa hno hO.lt hf0
    refine lv_i2l hx hb dL_steps_8 rfl ?_
    refine r_lastW C hW hO1 hno1 hAo dL_steps_9 (fun H2 locs2 hW hz2 hO2 => ?_)
    refine lv_goto (tgt := 17) hx hb dL_steps_10 (by decide) ?_
    refine lv_iconst (v := 0) hx hb dL_steps_17 (by decide) ?_
    exact r_iretW (cd := 0) C hr0 hk hAe hag hW hf0 hO2 (fun v hv => by cases hv; rfl) (by show 0 + rm.cells ≤ kc + 1; omega) (by show 0 + rm.slots ≤ ks + 6; omega) dL_steps_18
  · subst hsh
    have hO1 : outc tc o f H1 := (hkp o hO.lt (nAF hno hO.lt)).trans hO
    have hm := mdI_of (hr cn hcn)
    rcases hm with rfl
    · subst hcn
      refine vx_catch (own := RL) (name := "java/lang/IndexOutOfBoundsException") (E := "java/lang/IndexOutOfBoundsException") C.1.2.2.2.1 [] (xce 0 10 13 24) [] htab (fun z hz => absurd hz List.not_mem_nil) (by decide) (by decide) (C.1.2.2.2.2 _ kw_1388) (va_Nw.use (nwT_on _ ct_1) (hN.2 _ ct_1)) hce hcv hcl ?_
      refine lv_astore (lv' := (4, .ref q) :: [(0, .ref (oa (0, 0))), (1, .int v1), (2, .int v2), (3, .ref o)]) hx hb dL_steps_13 hl (by decide) rfl (fun ls hl => ?_)
      refine lv_iconst (v := 1) hx hb dL_steps_15 (by decide) ?_
      exact r_iretW (cd := 1) C hr0 hk hAe AGR.rf hW hf0 hO1 (fun v hv => by cases hv) (by show 0 + rm.cells ≤ kc + 1; omega) (by show 0 + rm.slots ≤ ks + 6; omega) dL_steps_16
set_option maxHeartbeats 4000000 in
set_option maxRecDepth 100000 in
theorem cW_trial {l : Launch} {D : va_G} {tc : Nat → ClassId} {ro : Ro} {oa : Ky → Nat} {sh : Sh} {ln : Nat → Nat} {μ : Mm} {v1 : Int32} {gk : Option (((Int32 ⊕ Nat) × Sh × (Nat → Nat) × Mm) × Nat × Nat)} {r : Int32 ⊕ Nat} {sh' : Sh} {ln' : Nat → Nat} {b : Mm} {kc ks : Nat} (hG : CtG l D tc ro oa yX10_trial cX10_trial 2 (some .int) [.ref (oa (0, 0)), .int v1] sh ln μ (fun x => some (.int x)) gk) (hg0 : gk = some ((r, sh', ln', b), kc, ks)) (hr : ∀ cn, r = .inr cn → 1 ≤ mdA cn) : CtW l D tc ro oa yL_trial cL_trial 4 [(0, 9, 12, 13)] (rma 46 1260 (kc + 1) (ks + 6)) [.int v1] sh ln μ (cdW mdA r) (lvI r) sh' ln' b := by
  obtain ⟨rm, ⟨b1, b2, b3, b4⟩, hM⟩ := hG r sh' ln' b kc ks hg0
  refine CtW.of (by decide) (fun o => Nat.le_of_ble_eq_true rfl) (fun aa o f p e s m args below meth c A hAe C hr0 hk htab hW hU hN hnc hO hno hAo ls hl => ?_)
  have hx := C.1.1
  have hb := C.1.2.1
  have hl : lv_has ls 4 [(0, .ref (oa (0, 0))), (1, .int v1), (2, .ref o)] := hl
  refine lv_aload_n hx hb dL_trial_0 rfl (lv_at hl 2 rfl) ?_
  refine lv_iconst (v := 0) hx hb dL_trial_1 (by decide) ?_
  refine lv_aload_n hx hb dL_trial_2 rfl (lv_at hl 0 rfl) ?_
  refine lv_iload_n hx hb dL_trial_3 rfl (lv_at hl 1 rfl) ?_
  refine r_callG (k := ((0, 0) : Ky)) (C0 := RX10) C hU hN hW hl lk_L_109 hM ⟨by show rm.frames + 1 ≤ 46; omega, by show 8 + (2 + 11) + rm.locals ≤ 1260; omega⟩ rfl rfl rfl (As := [.int v1]) (rest := [.int 0, .ref o]) rfl rfl (Nat.le_of_ble_eq_true rfl) dL_trial_4 ⟨by show 0 + rm.cells ≤ kc + 1; omega, by show 0 + rm.slots ≤ ks + 6; omega⟩ (fun x hx2 oa' aa' H1 locs1 hag hW hf0 hz hkp => ?_) (fun cn hcn hsh aa' H1 locs1 q ce hW hf0 hz hkp hce hcv hcl => ?_)
  · subst hx2
    have hO1 : outc tc o f H1 := (hkp o hO.lt (nAF hno hO.lt)).trans hO
    have hno1 := nfa hno hO.lt hf0
    refine lv_i2l hx hb dL_trial_7 rfl ?_
    refine r_lastW C hW hO1 hno1 hAo dL_trial_8 (fun H2 locs2 hW hz2 hO2 => ?_)
    refine lv_goto (tgt := 15) hx hb dL_trial_9 (by decide) ?_
    refine lv_iconst (v := 0) hx hb dL_trial_15 (by decide) ?_
    exact r_iretW (cd := 0) C hr0 hk hAe hag hW hf0 hO2 (fun v hv => by cases hv; rfl) (by show 0 + rm.cells ≤ kc + 1; omega) (by show 0 + rm.slots ≤ ks + 6; omega) dL_trial_16
  · subst hsh
    have hO1 : outc tc o f H1 := (hkp o hO.lt (nAF hno hO.lt)).trans hO
    have hm := mdA_of (hr cn hcn)
    rcases hm with rfl
    · subst hcn
      refine vx_catch (own := RL) (name := "java/lang/IllegalArgumentException") (E := "java/lang/IllegalArgumentException") C.1.2.2.2.1 [] (xce 0 9 12 13) [] htab (fun z hz => absurd hz List.not_mem_nil) (by decide) (by decide) (C.1.2.2.2.2 _ kw_1074) (va_Nw.use (nwT_on _ ct_3) (hN.2 _ ct_3)) hce hcv hcl ?_
      refine lv_astore_n (lv' := (3, .ref q) :: [(0, .ref (oa (0, 0))), (1, .int v1), (2, .ref o)]) hx hb dL_trial_12 rfl hl (by decide) rfl (fun ls hl => ?_)
      refine lv_iconst (v := 1) hx hb dL_trial_13 (by decide) ?_
      exact r_iretW (cd := 1) C hr0 hk hAe AGR.rf hW hf0 hO1 (fun v hv => by cases hv) (by show 0 + rm.cells ≤ kc + 1; omega) (by show 0 + rm.slots ≤ ks + 6; omega) dL_trial_14
set_option maxHeartbeats 4000000 in
set_option maxRecDepth 100000 in
theorem cW_span {l : Launch} {D : va_G} {tc : Nat → ClassId} {ro : Ro} {oa : Ky → Nat} {sh : Sh} {ln : Nat → Nat} {μ : Mm} {v1 v2 : Int32} {gk : Option (((Int32 ⊕ Nat) × Sh × (Nat → Nat) × Mm) × Nat × Nat)} {r : Int32 ⊕ Nat} {sh' : Sh} {ln' : Nat → Nat} {b : Mm} {kc ks : Nat} (hG : CtG l D tc ro oa yX10_span cX10_span 6 (some .int) [.ref (oa (0, 0)), .int v1, .int v2] sh ln μ (fun x => some (.int x)) gk) (hg0 : gk = some ((r, sh', ln', b), kc, ks)) (hr : ∀ cn, r = .inr cn → 1 ≤ mdA cn) : CtW l D tc ro oa yL_span cL_span 5 [(0, 10, 13, 13)] (rma 46 1260 (kc + 1) (ks + 6)) [.int v1, .int v2] sh ln μ (cdW mdA r) (lvI r) sh' ln' b := by
  obtain ⟨rm, ⟨b1, b2, b3, b4⟩, hM⟩ := hG r sh' ln' b kc ks hg0
  refine CtW.of (by decide) (fun o => Nat.le_of_ble_eq_true rfl) (fun aa o f p e s m args below meth c A hAe C hr0 hk htab hW hU hN hnc hO hno hAo ls hl => ?_)
  have hx := C.1.1
  have hb := C.1.2.1
  have hl : lv_has ls 5 [(0, .ref (oa (0, 0))), (1, .int v1), (2, .int v2), (3, .ref o)] := hl
  refine lv_aload_n hx hb dL_span_0 rfl (lv_at hl 3 rfl) ?_
  refine lv_iconst (v := 0) hx hb dL_span_1 (by decide) ?_
  refine lv_aload_n hx hb dL_span_2 rfl (lv_at hl 0 rfl) ?_
  refine lv_iload_n hx hb dL_span_3 rfl (lv_at hl 1 rfl) ?_
  refine lv_iload_n hx hb dL_span_4 rfl (lv_at hl 2 rfl) ?_
  refine r_callG (k := ((0, 0) : Ky)) (C0 := RX10) C hU hN hW hl lk_L_112 hM ⟨by show rm.frames + 1 ≤ 46; omega, by show 8 + (6 + 11) + rm.locals ≤ 1260; omega⟩ rfl rfl rfl (As := [.int v1, .int v2]) (rest := [.int 0, .ref o]) rfl rfl (Nat.le_of_ble_eq_true rfl) dL_span_5 ⟨by show 0 + rm.cells ≤ kc + 1; omega, by show 0 + rm.slots ≤ ks + 6; omega⟩ (fun x hx2 oa' aa' H1 locs1 hag hW hf0 hz hkp => ?_) (fun cn hcn hsh aa' H1 locs1 q ce hW hf0 hz hkp hce hcv hcl => ?_)
  · subst hx2
    have hO1 : outc tc o f H1 := (hkp o hO.lt (nAF hno hO.lt)).trans hO
    have hno1 := nfa hno hO.lt hf0
    refine lv_i2l hx hb dL_span_8 rfl ?_
    refine r_lastW C hW hO1 hno1 hAo dL_span_9 (fun H2 locs2 hW hz2 hO2 => ?_)
    refine lv_goto (tgt := 17) hx hb dL_span_10 (by decide) ?_
    refine lv_iconst (v := 0) hx hb dL_span_17 (by decide) ?_
    exact r_iretW (cd := 0) C hr0 hk hAe hag hW hf0 hO2 (fun v hv => by cases hv; rfl) (by show 0 + rm.cells ≤ kc + 1; omega) (by show 0 + rm.slots ≤ ks + 6; omega) dL_span_18
  · subst hsh
    have hO1 : outc tc o f H1 := (hkp o hO.lt (nAF hno hO.lt)).trans hO
    have hm := mdA_of (hr cn hcn)
    rcases hm with rfl
    · subst hcn
      refine vx_catch (own := RL) (name := "java/lang/IllegalArgumentException") (E := "java/lang/IllegalArgumentException") C.1.2.2.2.1 [] (xce 0 10 13 13) [] htab (fun z hz => absurd hz List.not_mem_nil) (by decide) (by decide) (C.1.2.2.2.2 _ kw_1074) (va_Nw.use (nwT_on _ ct_3) (hN.2 _ ct_3)) hce hcv hcl ?_
      refine lv_astore (lv' := (4, .ref q) :: [(0, .ref (oa (0, 0))), (1, .int v1), (2, .int v2), (3, .ref o)]) hx hb dL_span_13 hl (by decide) rfl (fun ls hl => ?_)
      refine lv_iconst (v := 1) hx hb dL_span_15 (by decide) ?_
      exact r_iretW (cd := 1) C hr0 hk hAe AGR.rf hW hf0 hO1 (fun v hv => by cases hv) (by show 0 + rm.cells ≤ kc + 1; omega) (by show 0 + rm.slots ≤ ks + 6; omega) dL_span_16
set_option maxHeartbeats 4000000 in
set_option maxRecDepth 100000 in
theorem cW_nth {l : Launch} {D : va_G} {tc : Nat → ClassId} {ro : Ro} {oa : Ky → Nat} {sh : Sh} {ln : Nat → Nat} {μ : Mm} {v1 v2 : Int32} {gk : Option (((Int32 ⊕ Nat) × Sh × (Nat → Nat) × Mm) × Nat × Nat)} {r : Int32 ⊕ Nat} {sh' : Sh} {ln' : Nat → Nat} {b : Mm} {kc ks : Nat} (hG : CtG l D tc ro oa yX10_nth cX10_nth 3 (some .int) [.ref (oa (0, 0)), .int v1, .int v2] sh ln μ (fun x => some (.int x)) gk) (hg0 : gk = some ((r, sh', ln', b), kc, ks)) (hr : ∀ cn, r = .inr cn → 1 ≤ mdI cn) : CtW l D tc ro oa yL_nth cL_nth 5 [(0, 10, 13, 24)] (rma 46 1260 (kc + 1) (ks + 6)) [.int v1, .int v2] sh ln μ (cdW mdI r) (lvI r) sh' ln' b := by
  obtain ⟨rm, ⟨b1, b2, b3, b4⟩, hM⟩ := hG r sh' ln' b kc ks hg0
  refine CtW.of (by decide) (fun o => Nat.le_of_ble_eq_true rfl) (fun aa o f p e s m args below meth c A hAe C hr0 hk htab hW hU hN hnc hO hno hAo ls hl => ?_)
  have hx := C.1.1
  have hb := C.1.2.1
  have hl : lv_has ls 5 [(0, .ref (oa (0, 0))), (1, .int v1), (2, .int v2), (3, .ref o)] := hl
  refine lv_aload_n hx hb dL_nth_0 rfl (lv_at hl 3 rfl) ?_
  refine lv_iconst (v := 0) hx hb dL_nth_1 (by decide) ?_
  refine lv_aload_n hx hb dL_nth_2 rfl (lv_at hl 0 rfl) ?_
  refine lv_iload_n hx hb dL_nth_3 rfl (lv_at hl 1 rfl) ?_
  refine lv_iload_n hx hb dL_nth_4 rfl (lv_at hl 2 rfl) ?_
  refine r_callG (k := ((0, 0) : Ky)) (C0 := RX10) C hU hN hW hl lk_L_115 hM ⟨by show rm.frames + 1 ≤ 46; omega, by show 8 + (3 + 11) + rm.locals ≤ 1260; omega⟩ rfl rfl rfl (As := [.int v1, .int v2]) (rest := [.int 0, .ref o]) rfl rfl (Nat.le_of_ble_eq_true rfl) dL_nth_5 ⟨by show 0 + rm.cells ≤ kc + 1; omega, by show 0 + rm.slots ≤ ks + 6; omega⟩ (fun x hx2 oa' aa' H1 locs1 hag hW hf0 hz hkp => ?_) (fun cn hcn hsh aa' H1 locs1 q ce hW hf0 hz hkp hce hcv hcl => ?_)
  · subst hx2
    have hO1 : outc tc o f H1 := (hkp o hO.lt (nAF hno hO.lt)).trans hO
    have hno1 := nfa hno hO.lt hf0
    refine lv_i2l hx hb dL_nth_8 rfl ?_
    refine r_lastW C hW hO1 hno1 hAo dL_nth_9 (fun H2 locs2 hW hz2 hO2 => ?_)
    refine lv_goto (tgt := 17) hx hb dL_nth_10 (by decide) ?_
    refine lv_iconst (v := 0) hx hb dL_nth_17 (by decide) ?_
    exact r_iretW (cd := 0) C hr0 hk hAe hag hW hf0 hO2 (fun v hv => by cases hv; rfl) (by show 0 + rm.cells ≤ kc + 1; omega) (by show 0 + rm.slots ≤ ks + 6; omega) dL_nth_18
  · subst hsh
    have hO1 : outc tc o f H1 := (hkp o hO.lt (nAF hno hO.lt)).trans hO
    have hm := mdI_of (hr cn hcn)
    rcases hm with rfl
    · subst hcn
      refine vx_catch (own := RL) (name := "java/lang/IndexOutOfBoundsException") (E := "java/lang/IndexOutOfBoundsException") C.1.2.2.2.1 [] (xce 0 10 13 24) [] htab (fun z hz => absurd hz List.not_mem_nil) (by decide) (by decide) (C.1.2.2.2.2 _ kw_1388) (va_Nw.use (nwT_on _ ct_1) (hN.2 _ ct_1)) hce hcv hcl ?_
      refine lv_astore (lv' := (4, .ref q) :: [(0, .ref (oa (0, 0))), (1, .int v1), (2, .int v2), (3, .ref o)]) hx hb dL_nth_13 hl (by decide) rfl (fun ls hl => ?_)
      refine lv_iconst (v := 1) hx hb dL_nth_15 (by decide) ?_
      exact r_iretW (cd := 1) C hr0 hk hAe AGR.rf hW hf0 hO1 (fun v hv => by cases hv) (by show 0 + rm.cells ≤ kc + 1; omega) (by show 0 + rm.slots ≤ ks + 6; omega) dL_nth_16
set_option maxHeartbeats 4000000 in
set_option maxRecDepth 100000 in
theorem cW_guess {l : Launch} {D : va_G} {tc : Nat → ClassId} {ro : Ro} {oa : Ky → Nat} {sh : Sh} {ln : Nat → Nat} {μ : Mm} {v1 : Int32} {gk : Option (((Int32 ⊕ Nat) × Sh × (Nat → Nat) × Mm) × Nat × Nat)} {r : Int32 ⊕ Nat} {sh' : Sh} {ln' : Nat → Nat} {b : Mm} {kc ks : Nat} (hG : CtG l D tc ro oa yX10_guess cX10_guess 2 (some .int) [.ref (oa (0, 0)), .int v1] sh ln μ (fun x => some (.int x)) gk) (hg0 : gk = some ((r, sh', ln', b), kc, ks)) (hr : ∀ cn, r = .inr cn → 1 ≤ mdI cn) : CtW l D tc ro oa yL_guess cL_guess 4 [(0, 9, 12, 24)] (rma 46 1260 (kc + 1) (ks + 6)) [.int v1] sh ln μ (cdW mdI r) (lvI r) sh' ln' b := by
  obtain ⟨rm, ⟨b1, b2, b3, b4⟩, hM⟩ := hG r sh' ln' b kc ks hg0
  refine CtW.of (by decide) (fun o => Nat.le_of_ble_eq_true rfl) (fun aa o f p e s m args below meth c A hAe C hr0 hk htab hW hU hN hnc hO hno hAo ls hl => ?_)
  have hx := C.1.1
  have hb := C.1.2.1
  have hl : lv_has ls 4 [(0, .ref (oa (0, 0))), (1, .int v1), (2, .ref o)] := hl
  refine lv_aload_n hx hb dL_guess_0 rfl (lv_at hl 2 rfl) ?_
  refine lv_iconst (v := 0) hx hb dL_guess_1 (by decide) ?_
  refine lv_aload_n hx hb dL_guess_2 rfl (lv_at hl 0 rfl) ?_
  refine lv_iload_n hx hb dL_guess_3 rfl (lv_at hl 1 rfl) ?_
  refine r_callG (k := ((0, 0) : Ky)) (C0 := RX10) C hU hN hW hl lk_L_118 hM ⟨by show rm.frames + 1 ≤ 46; omega, by show 8 + (2 + 11) + rm.locals ≤ 1260; omega⟩ rfl rfl rfl (As := [.int v1]) (rest := [.int 0, .ref o]) rfl rfl (Nat.le_of_ble_eq_true rfl) dL_guess_4 ⟨by show 0 + rm.cells ≤ kc + 1; omega, by show 0 + rm.slots ≤ ks + 6; omega⟩ (fun x hx2 oa' aa' H1 locs1 hag hW hf0 hz hkp => ?_) (fun cn hcn hsh aa' H1 locs1 q ce hW hf0 hz hkp hce hcv hcl => ?_)
  · subst hx2
    have hO1 : outc tc o f H1 := (hkp o hO.lt (nAF hno hO.lt)).trans hO
    have hno1 := nfa hno hO.lt hf0
    refine lv_i2l hx hb dL_guess_7 rfl ?_
    refine r_lastW C hW hO1 hno1 hAo dL_guess_8 (fun H2 locs2 hW hz2 hO2 => ?_)
    refine lv_goto (tgt := 15) hx hb dL_guess_9 (by decide) ?_
    refine lv_iconst (v := 0) hx hb dL_guess_15 (by decide) ?_
    exact r_iretW (cd := 0) C hr0 hk hAe hag hW hf0 hO2 (fun v hv => by cases hv; rfl) (by show 0 + rm.cells ≤ kc + 1; omega) (by show 0 + rm.slots ≤ ks + 6; omega) dL_guess_16
  · subst hsh
    have hO1 : outc tc o f H1 := (hkp o hO.lt (nAF hno hO.lt)).trans hO
    have hm := mdI_of (hr cn hcn)
    rcases hm with rfl
    · subst hcn
      refine vx_catch (own := RL) (name := "java/lang/IndexOutOfBoundsException") (E := "java/lang/IndexOutOfBoundsException") C.1.2.2.2.1 [] (xce 0 9 12 24) [] htab (fun z hz => absurd hz List.not_mem_nil) (by decide) (by decide) (C.1.2.2.2.2 _ kw_1388) (va_Nw.use (nwT_on _ ct_1) (hN.2 _ ct_1)) hce hcv hcl ?_
      refine lv_astore_n (lv' := (3, .ref q) :: [(0, .ref (oa (0, 0))), (1, .int v1), (2, .ref o)]) hx hb dL_guess_12 rfl hl (by decide) rfl (fun ls hl => ?_)
      refine lv_iconst (v := 1) hx hb dL_guess_13 (by decide) ?_
      exact r_iretW (cd := 1) C hr0 hk hAe AGR.rf hW hf0 hO1 (fun v hv => by cases hv) (by show 0 + rm.cells ≤ kc + 1; omega) (by show 0 + rm.slots ≤ ks + 6; omega) dL_guess_14
set_option maxHeartbeats 4000000 in
set_option maxRecDepth 100000 in
theorem cW_right {l : Launch} {D : va_G} {tc : Nat → ClassId} {ro : Ro} {oa : Ky → Nat} {sh : Sh} {ln : Nat → Nat} {μ : Mm} {v1 : Int32} {gk : Option (((Int32 ⊕ Nat) × Sh × (Nat → Nat) × Mm) × Nat × Nat)} {r : Int32 ⊕ Nat} {sh' : Sh} {ln' : Nat → Nat} {b : Mm} {kc ks : Nat} (hG : CtG l D tc ro oa yX10_right cX10_right 2 (some .int) [.ref (oa (0, 0)), .int v1] sh ln μ (fun x => some (.int x)) gk) (hg0 : gk = some ((r, sh', ln', b), kc, ks)) (hr : ∀ cn, r = .inr cn → 1 ≤ mdI cn) : CtW l D tc ro oa yL_right cL_right 4 [(0, 9, 12, 24)] (rma 46 1260 (kc + 1) (ks + 6)) [.int v1] sh ln μ (cdW mdI r) (lvI r) sh' ln' b := by
  obtain ⟨rm, ⟨b1, b2, b3, b4⟩, hM⟩ := hG r sh' ln' b kc ks hg0
  refine CtW.of (by decide) (fun o => Nat.le_of_ble_eq_true rfl) (fun aa o f p e s m args below meth c A hAe C hr0 hk htab hW hU hN hnc hO hno hAo ls hl => ?_)
  have hx := C.1.1
  have hb := C.1.2.1
  have hl : lv_has ls 4 [(0, .ref (oa (0, 0))), (1, .int v1), (2, .ref o)] := hl
  refine lv_aload_n hx hb dL_right_0 rfl (lv_at hl 2 rfl) ?_
  refine lv_iconst (v := 0) hx hb dL_right_1 (by decide) ?_
  refine lv_aload_n hx hb dL_right_2 rfl (lv_at hl 0 rfl) ?_
  refine lv_iload_n hx hb dL_right_3 rfl (lv_at hl 1 rfl) ?_
  refine r_callG (k := ((0, 0) : Ky)) (C0 := RX10) C hU hN hW hl lk_L_121 hM ⟨by show rm.frames + 1 ≤ 46; omega, by show 8 + (2 + 11) + rm.locals ≤ 1260; omega⟩ rfl rfl rfl (As := [.int v1]) (rest := [.int 0, .ref o]) rfl rfl (Nat.le_of_ble_eq_true rfl) dL_right_4 ⟨by show 0 + rm.cells ≤ kc + 1; omega, by show 0 + rm.slots ≤ ks + 6; omega⟩ (fun x hx2 oa' aa' H1 locs1 hag hW hf0 hz hkp => ?_) (fun cn hcn hsh aa' H1 locs1 q ce hW hf0 hz hkp hce hcv hcl => ?_)
  · subst hx2
    have hO1 : outc tc o f H1 := (hkp o hO.lt (nAF hno hO.lt)).trans hO
    have hno1 := nfa hno hO.lt hf0
    refine lv_i2l hx hb dL_right_7 rfl ?_
    refine r_lastW C hW hO1 hno1 hAo dL_right_8 (fun H2 locs2 hW hz2 hO2 => ?_)
    refine lv_goto (tgt := 15) hx hb dL_right_9 (by decide) ?_
    refine lv_iconst (v := 0) hx hb dL_right_15 (by decide) ?_
    exact r_iretW (cd := 0) C hr0 hk hAe hag hW hf0 hO2 (fun v hv => by cases hv; rfl) (by show 0 + rm.cells ≤ kc + 1; omega) (by show 0 + rm.slots ≤ ks + 6; omega) dL_right_16
  · subst hsh
    have hO1 : outc tc o f H1 := (hkp o hO.lt (nAF hno hO.lt)).trans hO
    have hm := mdI_of (hr cn hcn)
    rcases hm with rfl
    · subst hcn
      refine vx_catch (own := RL) (name := "java/lang/IndexOutOfBoundsException") (E := "java/lang/IndexOutOfBoundsException") C.1.2.2.2.1 [] (xce 0 9 12 24) [] htab (fun z hz => absurd hz List.not_mem_nil) (by decide) (by decide) (C.1.2.2.2.2 _ kw_1388) (va_Nw.use (nwT_on _ ct_1) (hN.2 _ ct_1)) hce hcv hcl ?_
      refine lv_astore_n (lv' := (3, .ref q) :: [(0, .ref (oa (0, 0))), (1, .int v1), (2, .ref o)]) hx hb dL_right_12 rfl hl (by decide) rfl (fun ls hl => ?_)
      refine lv_iconst (v := 1) hx hb dL_right_13 (by decide) ?_
      exact r_iretW (cd := 1) C hr0 hk hAe AGR.rf hW hf0 hO1 (fun v hv => by cases hv) (by show 0 + rm.cells ≤ kc + 1; omega) (by show 0 + rm.slots ≤ ks + 6; omega) dL_right_14
set_option maxHeartbeats 4000000 in
set_option maxRecDepth 100000 in
theorem cW_rows {l : Launch} {D : va_G} {tc : Nat → ClassId} {ro : Ro} {oa : Ky → Nat} {sh : Sh} {ln : Nat → Nat} {μ : Mm} {v1 : Int32} {gk : Option (((Int32 ⊕ Nat) × Sh × (Nat → Nat) × Mm) × Nat × Nat)} {r : Int32 ⊕ Nat} {sh' : Sh} {ln' : Nat → Nat} {b : Mm} {kc ks : Nat} (hG : CtG l D tc ro oa yX10_rows cX10_rows 3 (some .int) [.ref (oa (0, 0)), .int v1] sh ln μ (fun x => some (.int x)) gk) (hg0 : gk = some ((r, sh', ln', b), kc, ks)) (hr : ∀ cn, r = .inr cn → 1 ≤ mdA cn) : CtW l D tc ro oa yL_rows cL_rows 4 [(0, 9, 12, 13)] (rma 46 1260 (kc + 1) (ks + 6)) [.int v1] sh ln μ (cdW mdA r) (lvI r) sh' ln' b := by
  obtain ⟨rm, ⟨b1, b2, b3, b4⟩, hM⟩ := hG r sh' ln' b kc ks hg0
  refine CtW.of (by decide) (fun o => Nat.le_of_ble_eq_true rfl) (fun aa o f p e s m args below meth c A hAe C hr0 hk htab hW hU hN hnc hO hno hAo ls hl => ?_)
  have hx := C.1.1
  have hb := C.1.2.1
  have hl : lv_has ls 4 [(0, .ref (oa (0, 0))), (1, .int v1), (2, .ref o)] := hl
  refine lv_aload_n hx hb dL_rows_0 rfl (lv_at hl 2 rfl) ?_
  refine lv_iconst (v := 0) hx hb dL_rows_1 (by decide) ?_
  refine lv_aload_n hx hb dL_rows_2 rfl (lv_at hl 0 rfl) ?_
  refine lv_iload_n hx hb dL_rows_3 rfl (lv_at hl 1 rfl) ?_
  refine r_callG (k := ((0, 0) : Ky)) (C0 := RX10) C hU hN hW hl lk_L_124 hM ⟨by show rm.frames + 1 ≤ 46; omega, by show 8 + (3 + 11) + rm.locals ≤ 1260; omega⟩ rfl rfl rfl (As := [.int v1]) (rest := [.int 0, .ref o]) rfl rfl (Nat.le_of_ble_eq_true rfl) dL_rows_4 ⟨by show 0 + rm.cells ≤ kc + 1; omega, by show 0 + rm.slots ≤ ks + 6; omega⟩ (fun x hx2 oa' aa' H1 locs1 hag hW hf0 hz hkp => ?_) (fun cn hcn hsh aa' H1 locs1 q ce hW hf0 hz hkp hce hcv hcl => ?_)
  · subst hx2
    have hO1 : outc tc o f H1 := (hkp o hO.lt (nAF hno hO.lt)).trans hO
    have hno1 := nfa hno hO.lt hf0
    refine lv_i2l hx hb dL_rows_7 rfl ?_
    refine r_lastW C hW hO1 hno1 hAo dL_rows_8 (fun H2 locs2 hW hz2 hO2 => ?_)
    refine lv_goto (tgt := 15) hx hb dL_rows_9 (by decide) ?_
    refine lv_iconst (v := 0) hx hb dL_rows_15 (by decide) ?_
    exact r_iretW (cd := 0) C hr0 hk hAe hag hW hf0 hO2 (fun v hv => by cases hv; rfl) (by show 0 + rm.cells ≤ kc + 1; omega) (by show 0 + rm.slots ≤ ks + 6; omega) dL_rows_16
  · subst hsh
    have hO1 : outc tc o f H1 := (hkp o hO.lt (nAF hno hO.lt)).trans hO
    have hm := mdA_of (hr cn hcn)
    rcases hm with rfl
    · subst hcn
      refine vx_catch (own := RL) (name := "java/lang/IllegalArgumentException") (E := "java/lang/IllegalArgumentException") C.1.2.2.2.1 [] (xce 0 9 12 13) [] htab (fun z hz => absurd hz List.not_mem_nil) (by decide) (by decide) (C.1.2.2.2.2 _ kw_1074) (va_Nw.use (nwT_on _ ct_3) (hN.2 _ ct_3)) hce hcv hcl ?_
      refine lv_astore_n (lv' := (3, .ref q) :: [(0, .ref (oa (0, 0))), (1, .int v1), (2, .ref o)]) hx hb dL_rows_12 rfl hl (by decide) rfl (fun ls hl => ?_)
      refine lv_iconst (v := 1) hx hb dL_rows_13 (by decide) ?_
      exact r_iretW (cd := 1) C hr0 hk hAe AGR.rf hW hf0 hO1 (fun v hv => by cases hv) (by show 0 + rm.cells ≤ kc + 1; omega) (by show 0 + rm.slots ≤ ks + 6; omega) dL_rows_14
set_option maxHeartbeats 4000000 in
set_option maxRecDepth 100000 in
theorem cW_liars {l : Launch} {D : va_G} {tc : Nat → ClassId} {ro : Ro} {oa : Ky → Nat} {sh : Sh} {ln : Nat → Nat} {μ : Mm} {v1 v2 : Int32} {gk : Option (((Int32 ⊕ Nat) × Sh × (Nat → Nat) × Mm) × Nat × Nat)} {r : Int32 ⊕ Nat} {sh' : Sh} {ln' : Nat → Nat} {b : Mm} {kc ks : Nat} (hG : CtG l D tc ro oa yX10_liars cX10_liars 4 (some .int) [.ref (oa (0, 0)), .int v1, .int v2] sh ln μ (fun x => some (.int x)) gk) (hg0 : gk = some ((r, sh', ln', b), kc, ks)) (hr : ∀ cn, r = .inr cn → 1 ≤ mdA cn) : CtW l D tc ro oa yL_liars cL_liars 5 [(0, 10, 13, 13)] (rma 46 1260 (kc + 1) (ks + 6)) [.int v1, .int v2] sh ln μ (cdW mdA r) (lvI r) sh' ln' b := by
  obtain ⟨rm, ⟨b1, b2, b3, b4⟩, hM⟩ := hG r sh' ln' b kc ks hg0
  refine CtW.of (by decide) (fun o => Nat.le_of_ble_eq_true rfl) (fun aa o f p e s m args below meth c A hAe C hr0 hk htab hW hU hN hnc hO hno hAo ls hl => ?_)
  have hx := C.1.1
  have hb := C.1.2.1
  have hl : lv_has ls 5 [(0, .ref (oa (0, 0))), (1, .int v1), (2, .int v2), (3, .ref o)] := hl
  refine lv_aload_n hx hb dL_liars_0 rfl (lv_at hl 3 rfl) ?_
  refine lv_iconst (v := 0) hx hb dL_liars_1 (by decide) ?_
  refine lv_aload_n hx hb dL_liars_2 rfl (lv_at hl 0 rfl) ?_
  refine lv_iload_n hx hb dL_liars_3 rfl (lv_at hl 1 rfl) ?_
  refine lv_iload_n hx hb dL_liars_4 rfl (lv_at hl 2 rfl) ?_
  refine r_callG (k := ((0, 0) : Ky)) (C0 := RX10) C hU hN hW hl lk_L_127 hM ⟨by show rm.frames + 1 ≤ 46; omega, by show 8 + (4 + 11) + rm.locals ≤ 1260; omega⟩ rfl rfl rfl (As := [.int v1, .int v2]) (rest := [.int 0, .ref o]) rfl rfl (Nat.le_of_ble_eq_true rfl) dL_liars_5 ⟨by show 0 + rm.cells ≤ kc + 1; omega, by show 0 + rm.slots ≤ ks + 6; omega⟩ (fun x hx2 oa' aa' H1 locs1 hag hW hf0 hz hkp => ?_) (fun cn hcn hsh aa' H1 locs1 q ce hW hf0 hz hkp hce hcv hcl => ?_)
  · subst hx2
    have hO1 : outc tc o f H1 := (hkp o hO.lt (nAF hno hO.lt)).trans hO
    have hno1 := nfa hno hO.lt hf0
    refine lv_i2l hx hb dL_liars_8 rfl ?_
    refine r_lastW C hW hO1 hno1 hAo dL_liars_9 (fun H2 locs2 hW hz2 hO2 => ?_)
    refine lv_goto (tgt := 17) hx hb dL_liars_10 (by decide) ?_
    refine lv_iconst (v := 0) hx hb dL_liars_17 (by decide) ?_
    exact r_iretW (cd := 0) C hr0 hk hAe hag hW hf0 hO2 (fun v hv => by cases hv; rfl) (by show 0 + rm.cells ≤ kc + 1; omega) (by show 0 + rm.slots ≤ ks + 6; omega) dL_liars_18
  · subst hsh
    have hO1 : outc tc o f H1 := (hkp o hO.lt (nAF hno hO.lt)).trans hO
    have hm := mdA_of (hr cn hcn)
    rcases hm with rfl
    · subst hcn
      refine vx_catch (own := RL) (name := "java/lang/IllegalArgumentException") (E := "java/lang/IllegalArgumentException") C.1.2.2.2.1 [] (xce 0 10 13 13) [] htab (fun z hz => absurd hz List.not_mem_nil) (by decide) (by decide) (C.1.2.2.2.2 _ kw_1074) (va_Nw.use (nwT_on _ ct_3) (hN.2 _ ct_3)) hce hcv hcl ?_
      refine lv_astore (lv' := (4, .ref q) :: [(0, .ref (oa (0, 0))), (1, .int v1), (2, .int v2), (3, .ref o)]) hx hb dL_liars_13 hl (by decide) rfl (fun ls hl => ?_)
      refine lv_iconst (v := 1) hx hb dL_liars_15 (by decide) ?_
      exact r_iretW (cd := 1) C hr0 hk hAe AGR.rf hW hf0 hO1 (fun v hv => by cases hv) (by show 0 + rm.cells ≤ kc + 1; omega) (by show 0 + rm.slots ≤ ks + 6; omega) dL_liars_16
set_option maxHeartbeats 4000000 in
set_option maxRecDepth 100000 in
theorem cW_married {l : Launch} {D : va_G} {tc : Nat → ClassId} {ro : Ro} {oa : Ky → Nat} {sh : Sh} {ln : Nat → Nat} {μ : Mm} {v1 : Int32} {gk : Option (((Int32 ⊕ Nat) × Sh × (Nat → Nat) × Mm) × Nat × Nat)} {r : Int32 ⊕ Nat} {sh' : Sh} {ln' : Nat → Nat} {b : Mm} {kc ks : Nat} (hG : CtG l D tc ro oa yX10_married cX10_married 2 (some .int) [.ref (oa (0, 0)), .int v1] sh ln μ (fun x => some (.int x)) gk) (hg0 : gk = some ((r, sh', ln', b), kc, ks)) (hr : ∀ cn, r = .inr cn → 1 ≤ mdI cn) : CtW l D tc ro oa yL_married cL_married 4 [(0, 9, 12, 24)] (rma 46 1260 (kc + 1) (ks + 6)) [.int v1] sh ln μ (cdW mdI r) (lvI r) sh' ln' b := by
  obtain ⟨rm, ⟨b1, b2, b3, b4⟩, hM⟩ := hG r sh' ln' b kc ks hg0
  refine CtW.of (by decide) (fun o => Nat.le_of_ble_eq_true rfl) (fun aa o f p e s m args below meth c A hAe C hr0 hk htab hW hU hN hnc hO hno hAo ls hl => ?_)
  have hx := C.1.1
  have hb := C.1.2.1
  have hl : lv_has ls 4 [(0, .ref (oa (0, 0))), (1, .int v1), (2, .ref o)] := hl
  refine lv_aload_n hx hb dL_married_0 rfl (lv_at hl 2 rfl) ?_
  refine lv_iconst (v := 0) hx hb dL_married_1 (by decide) ?_
  refine lv_aload_n hx hb dL_married_2 rfl (lv_at hl 0 rfl) ?_
  refine lv_iload_n hx hb dL_married_3 rfl (lv_at hl 1 rfl) ?_
  refine r_callG (k := ((0, 0) : Ky)) (C0 := RX10) C hU hN hW hl lk_L_130 hM ⟨by show rm.frames + 1 ≤ 46; omega, by show 8 + (2 + 11) + rm.locals ≤ 1260; omega⟩ rfl rfl rfl (As := [.int v1]) (rest := [.int 0, .ref o]) rfl rfl (Nat.le_of_ble_eq_true rfl) dL_married_4 ⟨by show 0 + rm.cells ≤ kc + 1; omega, by show 0 + rm.slots ≤ ks + 6; omega⟩ (fun x hx2 oa' aa' H1 locs1 hag hW hf0 hz hkp => ?_) (fun cn hcn hsh aa' H1 locs1 q ce hW hf0 hz hkp hce hcv hcl => ?_)
  · subst hx2
    have hO1 : outc tc o f H1 := (hkp o hO.lt (nAF hno hO.lt)).trans hO
    have hno1 := nfa hno hO.lt hf0
    refine lv_i2l hx hb dL_married_7 rfl ?_
    refine r_lastW C hW hO1 hno1 hAo dL_married_8 (fun H2 locs2 hW hz2 hO2 => ?_)
    refine lv_goto (tgt := 15) hx hb dL_married_9 (by decide) ?_
    refine lv_iconst (v := 0) hx hb dL_married_15 (by decide) ?_
    exact r_iretW (cd := 0) C hr0 hk hAe hag hW hf0 hO2 (fun v hv => by cases hv; rfl) (by show 0 + rm.cells ≤ kc + 1; omega) (by show 0 + rm.slots ≤ ks + 6; omega) dL_married_16
  · subst hsh
    have hO1 : outc tc o f H1 := (hkp o hO.lt (nAF hno hO.lt)).trans hO
    have hm := mdI_of (hr cn hcn)
    rcases hm with rfl
    · subst hcn
      refine vx_catch (own := RL) (name := "java/lang/IndexOutOfBoundsException") (E := "java/lang/IndexOutOfBoundsException") C.1.2.2.2.1 [] (xce 0 9 12 24) [] htab (fun z hz => absurd hz List.not_mem_nil) (by decide) (by decide) (C.1.2.2.2.2 _ kw_1388) (va_Nw.use (nwT_on _ ct_1) (hN.2 _ ct_1)) hce hcv hcl ?_
      refine lv_astore_n (lv' := (3, .ref q) :: [(0, .ref (oa (0, 0))), (1, .int v1), (2, .ref o)]) hx hb dL_married_12 rfl hl (by decide) rfl (fun ls hl => ?_)
      refine lv_iconst (v := 1) hx hb dL_married_13 (by decide) ?_
      exact r_iretW (cd := 1) C hr0 hk hAe AGR.rf hW hf0 hO1 (fun v hv => by cases hv) (by show 0 + rm.cells ≤ kc + 1; omega) (by show 0 + rm.slots ≤ ks + 6; omega) dL_married_14
set_option maxHeartbeats 4000000 in
set_option maxRecDepth 100000 in
theorem cW_led {l : Launch} {D : va_G} {tc : Nat → ClassId} {ro : Ro} {oa : Ky → Nat} {sh : Sh} {ln : Nat → Nat} {μ : Mm} {v1 : Int32} {gk : Option (((Int32 ⊕ Nat) × Sh × (Nat → Nat) × Mm) × Nat × Nat)} {r : Int32 ⊕ Nat} {sh' : Sh} {ln' : Nat → Nat} {b : Mm} {kc ks : Nat} (hG : CtG l D tc ro oa yX10_led cX10_led 4 (some .int) [.ref (oa (0, 0)), .int v1] sh ln μ (fun x => some (.int x)) gk) (hg0 : gk = some ((r, sh', ln', b), kc, ks)) (hr : ∀ cn, r = .inr cn → 1 ≤ mdI cn) : CtW l D tc ro oa yL_led cL_led 4 [(0, 9, 12, 24)] (rma 46 1260 (kc + 1) (ks + 6)) [.int v1] sh ln μ (cdW mdI r) (lvI r) sh' ln' b := by
  obtain ⟨rm, ⟨b1, b2, b3, b4⟩, hM⟩ := hG r sh' ln' b kc ks hg0
  refine CtW.of (by decide) (fun o => Nat.le_of_ble_eq_true rfl) (fun aa o f p e s m args below meth c A hAe C hr0 hk htab hW hU hN hnc hO hno hAo ls hl => ?_)
  have hx := C.1.1
  have hb := C.1.2.1
  have hl : lv_has ls 4 [(0, .ref (oa (0, 0))), (1, .int v1), (2, .ref o)] := hl
  refine lv_aload_n hx hb dL_led_0 rfl (lv_at hl 2 rfl) ?_
  refine lv_iconst (v := 0) hx hb dL_led_1 (by decide) ?_
  refine lv_aload_n hx hb dL_led_2 rfl (lv_at hl 0 rfl) ?_
  refine lv_iload_n hx hb dL_led_3 rfl (lv_at hl 1 rfl) ?_
  refine r_callG (k := ((0, 0) : Ky)) (C0 := RX10) C hU hN hW hl lk_L_133 hM ⟨by show rm.frames + 1 ≤ 46; omega, by show 8 + (4 + 11) + rm.locals ≤ 1260; omega⟩ rfl rfl rfl (As := [.int v1]) (rest := [.int 0, .ref o]) rfl rfl (Nat.le_of_ble_eq_true rfl) dL_led_4 ⟨by show 0 + rm.cells ≤ kc + 1; omega, by show 0 + rm.slots ≤ ks + 6; omega⟩ (fun x hx2 oa' aa' H1 locs1 hag hW hf0 hz hkp => ?_) (fun cn hcn hsh aa' H1 locs1 q ce hW hf0 hz hkp hce hcv hcl => ?_)
  · subst hx2
    have hO1 : outc tc o f H1 := (hkp o hO.lt (nAF hno hO.lt)).trans hO
    have hno1 := nfa hno hO.lt hf0
    refine lv_i2l hx hb dL_led_7 rfl ?_
    refine r_lastW C hW hO1 hno1 hAo dL_led_8 (fun H2 locs2 hW hz2 hO2 => ?_)
    refine lv_goto (tgt := 15) hx hb dL_led_9 (by decide) ?_
    refine lv_iconst (v := 0) hx hb dL_led_15 (by decide) ?_
    exact r_iretW (cd := 0) C hr0 hk hAe hag hW hf0 hO2 (fun v hv => by cases hv; rfl) (by show 0 + rm.cells ≤ kc + 1; omega) (by show 0 + rm.slots ≤ ks + 6; omega) dL_led_16
  · subst hsh
    have hO1 : outc tc o f H1 := (hkp o hO.lt (nAF hno hO.lt)).trans hO
    have hm := mdI_of (hr cn hcn)
    rcases hm with rfl
    · subst hcn
      refine vx_catch (own := RL) (name := "java/lang/IndexOutOfBoundsException") (E := "java/lang/IndexOutOfBoundsException") C.1.2.2.2.1 [] (xce 0 9 12 24) [] htab (fun z hz => absurd hz List.not_mem_nil) (by decide) (by decide) (C.1.2.2.2.2 _ kw_1388) (va_Nw.use (nwT_on _ ct_1) (hN.2 _ ct_1)) hce hcv hcl ?_
      refine lv_astore_n (lv' := (3, .ref q) :: [(0, .ref (oa (0, 0))), (1, .int v1), (2, .ref o)]) hx hb dL_led_12 rfl hl (by decide) rfl (fun ls hl => ?_)
      refine lv_iconst (v := 1) hx hb dL_led_13 (by decide) ?_
      exact r_iretW (cd := 1) C hr0 hk hAe AGR.rf hW hf0 hO1 (fun v hv => by cases hv) (by show 0 + rm.cells ≤ kc + 1; omega) (by show 0 + rm.slots ≤ ks + 6; omega) dL_led_14
set_option maxHeartbeats 4000000 in
set_option maxRecDepth 100000 in
theorem cW_log {l : Launch} {D : va_G} {tc : Nat → ClassId} {ro : Ro} {oa : Ky → Nat} {sh : Sh} {ln : Nat → Nat} {μ : Mm} {v1 v2 : Int32} {gk : Option (((Int32 ⊕ Nat) × Sh × (Nat → Nat) × Mm) × Nat × Nat)} {r : Int32 ⊕ Nat} {sh' : Sh} {ln' : Nat → Nat} {b : Mm} {kc ks : Nat} (hG : CtG l D tc ro oa yX10_log cX10_log 3 (some .int) [.ref (oa (0, 0)), .int v1, .int v2] sh ln μ (fun x => some (.int x)) gk) (hg0 : gk = some ((r, sh', ln', b), kc, ks)) (hr : ∀ cn, r = .inr cn → 1 ≤ mdN cn) : CtW l D tc ro oa yL_log cL_log 5 [(0, 10, 13, 26)] (rma 46 1260 (kc + 1) (ks + 6)) [.int v1, .int v2] sh ln μ (cdW mdN r) (lvI r) sh' ln' b := by
  obtain ⟨rm, ⟨b1, b2, b3, b4⟩, hM⟩ := hG r sh' ln' b kc ks hg0
  refine CtW.of (by decide) (fun o => Nat.le_of_ble_eq_true rfl) (fun aa o f p e s m args below meth c A hAe C hr0 hk htab hW hU hN hnc hO hno hAo ls hl => ?_)
  have hx := C.1.1
  have hb := C.1.2.1
  have hl : lv_has ls 5 [(0, .ref (oa (0, 0))), (1, .int v1), (2, .int v2), (3, .ref o)] := hl
  refine lv_aload_n hx hb dL_log_0 rfl (lv_at hl 3 rfl) ?_
  refine lv_iconst (v := 0) hx hb dL_log_1 (by decide) ?_
  refine lv_aload_n hx hb dL_log_2 rfl (lv_at hl 0 rfl) ?_
  refine lv_iload_n hx hb dL_log_3 rfl (lv_at hl 1 rfl) ?_
  refine lv_iload_n hx hb dL_log_4 rfl (lv_at hl 2 rfl) ?_
  refine r_callG (k := ((0, 0) : Ky)) (C0 := RX10) C hU hN hW hl lk_L_136 hM ⟨by show rm.frames + 1 ≤ 46; omega, by show 8 + (3 + 11) + rm.locals ≤ 1260; omega⟩ rfl rfl rfl (As := [.int v1, .int v2]) (rest := [.int 0, .ref o]) rfl rfl (Nat.le_of_ble_eq_true rfl) dL_log_5 ⟨by show 0 + rm.cells ≤ kc + 1; omega, by show 0 + rm.slots ≤ ks + 6; omega⟩ (fun x hx2 oa' aa' H1 locs1 hag hW hf0 hz hkp => ?_) (fun cn hcn hsh aa' H1 locs1 q ce hW hf0 hz hkp hce hcv hcl => ?_)
  · subst hx2
    have hO1 : outc tc o f H1 := (hkp o hO.lt (nAF hno hO.lt)).trans hO
    have hno1 := nfa hno hO.lt hf0
    refine lv_i2l hx hb dL_log_8 rfl ?_
    refine r_lastW C hW hO1 hno1 hAo dL_log_9 (fun H2 locs2 hW hz2 hO2 => ?_)
    refine lv_goto (tgt := 17) hx hb dL_log_10 (by decide) ?_
    refine lv_iconst (v := 0) hx hb dL_log_17 (by decide) ?_
    exact r_iretW (cd := 0) C hr0 hk hAe hag hW hf0 hO2 (fun v hv => by cases hv; rfl) (by show 0 + rm.cells ≤ kc + 1; omega) (by show 0 + rm.slots ≤ ks + 6; omega) dL_log_18
  · subst hsh
    have hO1 : outc tc o f H1 := (hkp o hO.lt (nAF hno hO.lt)).trans hO
    have hm := mdN_of (hr cn hcn)
    rcases hm with rfl
    · subst hcn
      refine vx_catch (own := RL) (name := "java/util/NoSuchElementException") (E := "java/util/NoSuchElementException") C.1.2.2.2.1 [] (xce 0 10 13 26) [] htab (fun z hz => absurd hz List.not_mem_nil) (by decide) (by decide) (C.1.2.2.2.2 _ kw_1389) (va_Nw.use (nwT_on _ ct_2) (hN.2 _ ct_2)) hce hcv hcl ?_
      refine lv_astore (lv' := (4, .ref q) :: [(0, .ref (oa (0, 0))), (1, .int v1), (2, .int v2), (3, .ref o)]) hx hb dL_log_13 hl (by decide) rfl (fun ls hl => ?_)
      refine lv_iconst (v := 1) hx hb dL_log_15 (by decide) ?_
      exact r_iretW (cd := 1) C hr0 hk hAe AGR.rf hW hf0 hO1 (fun v hv => by cases hv) (by show 0 + rm.cells ≤ kc + 1; omega) (by show 0 + rm.slots ≤ ks + 6; omega) dL_log_16
