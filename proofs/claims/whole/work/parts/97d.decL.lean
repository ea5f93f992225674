-- the law: words, decoded rows
theorem kw_136 : (Cond.initialized "BackVillageLaw") ∈ GW := gw_1 (i := 0) (by decide +kernel) rfl
theorem kw_510 : (Cond.methodLink "BackVillageLaw" 143 ⟨"BackVillage", "feed", "(IIIII)I"⟩) ∈ GW := gw_2 (i := 134) (by decide +kernel) rfl
theorem kw_511 : (Cond.instanceMethod ⟨"BackVillage", "feed", "(IIIII)I"⟩) ∈ GW := gw_2 (i := 135) (by decide +kernel) rfl
theorem kw_512 : (Cond.selects "BackVillage" ⟨"BackVillage", "feed", "(IIIII)I"⟩ ⟨"BackVillage", "feed", "(IIIII)I"⟩) ∈ GW := gw_2 (i := 136) (by decide +kernel) rfl
theorem kw_513 : (Cond.code ⟨"BackVillage", "feed", "(IIIII)I"⟩ prog_1_method_2_code 6 (some .int)) ∈ GW := gw_2 (i := 137) (by decide +kernel) rfl
theorem kw_527 : (Cond.methodLink "BackVillageLaw" 148 ⟨"BackVillage", "end", "(I)Z"⟩) ∈ GW := gw_2 (i := 151) (by decide +kernel) rfl
theorem kw_528 : (Cond.instanceMethod ⟨"BackVillage", "end", "(I)Z"⟩) ∈ GW := gw_2 (i := 152) (by decide +kernel) rfl
theorem kw_529 : (Cond.selects "BackVillage" ⟨"BackVillage", "end", "(I)Z"⟩ ⟨"BackVillage", "end", "(I)Z"⟩) ∈ GW := gw_2 (i := 153) (by decide +kernel) rfl
theorem kw_530 : (Cond.code ⟨"BackVillage", "end", "(I)Z"⟩ prog_1_method_3_code 2 (some .boolean)) ∈ GW := gw_2 (i := 154) (by decide +kernel) rfl
theorem kw_535 : (Cond.methodLink "BackVillageLaw" 164 ⟨"BackVillage", "fault", "()I"⟩) ∈ GW := gw_2 (i := 159) (by decide +kernel) rfl
theorem kw_536 : (Cond.instanceMethod ⟨"BackVillage", "fault", "()I"⟩) ∈ GW := gw_2 (i := 160) (by decide +kernel) rfl
theorem kw_537 : (Cond.selects "BackVillage" ⟨"BackVillage", "fault", "()I"⟩ ⟨"BackVillage", "fault", "()I"⟩) ∈ GW := gw_2 (i := 161) (by decide +kernel) rfl
theorem kw_538 : (Cond.code ⟨"BackVillage", "fault", "()I"⟩ prog_1_method_6_code 1 (some .int)) ∈ GW := gw_2 (i := 162) (by decide +kernel) rfl
theorem kw_539 : (Cond.methodLink "BackVillageLaw" 196 ⟨"BackVillage", "day", "()I"⟩) ∈ GW := gw_2 (i := 163) (by decide +kernel) rfl
theorem kw_540 : (Cond.instanceMethod ⟨"BackVillage", "day", "()I"⟩) ∈ GW := gw_2 (i := 164) (by decide +kernel) rfl
theorem kw_541 : (Cond.selects "BackVillage" ⟨"BackVillage", "day", "()I"⟩ ⟨"BackVillage", "day", "()I"⟩) ∈ GW := gw_2 (i := 165) (by decide +kernel) rfl
theorem kw_542 : (Cond.code ⟨"BackVillage", "day", "()I"⟩ prog_1_method_15_code 1 (some .int)) ∈ GW := gw_2 (i := 166) (by decide +kernel) rfl
theorem kw_994 : (Cond.methodLink "BackVillageLaw" 245 ⟨"BackVillage", "quiet", "()I"⟩) ∈ GW := gw_4 (i := 138) (by decide +kernel) rfl
theorem kw_995 : (Cond.instanceMethod ⟨"BackVillage", "quiet", "()I"⟩) ∈ GW := gw_4 (i := 139) (by decide +kernel) rfl
theorem kw_996 : (Cond.selects "BackVillage" ⟨"BackVillage", "quiet", "()I"⟩ ⟨"BackVillage", "quiet", "()I"⟩) ∈ GW := gw_4 (i := 140) (by decide +kernel) rfl
theorem kw_997 : (Cond.code ⟨"BackVillage", "quiet", "()I"⟩ prog_1_method_31_code 3 (some .int)) ∈ GW := gw_4 (i := 141) (by decide +kernel) rfl
theorem kw_1014 : (Cond.methodLink "BackVillageLaw" 283 ⟨"BackVillage", "widest", "()I"⟩) ∈ GW := gw_4 (i := 158) (by decide +kernel) rfl
theorem kw_1015 : (Cond.instanceMethod ⟨"BackVillage", "widest", "()I"⟩) ∈ GW := gw_4 (i := 159) (by decide +kernel) rfl
theorem kw_1016 : (Cond.selects "BackVillage" ⟨"BackVillage", "widest", "()I"⟩ ⟨"BackVillage", "widest", "()I"⟩) ∈ GW := gw_4 (i := 160) (by decide +kernel) rfl
theorem kw_1017 : (Cond.code ⟨"BackVillage", "widest", "()I"⟩ prog_1_method_43_code 5 (some .int)) ∈ GW := gw_4 (i := 161) (by decide +kernel) rfl
theorem kw_1030 : (Cond.methodLink "BackVillageLaw" 287 ⟨"BackVillage", "under", "()I"⟩) ∈ GW := gw_4 (i := 174) (by decide +kernel) rfl
theorem kw_1031 : (Cond.instanceMethod ⟨"BackVillage", "under", "()I"⟩) ∈ GW := gw_4 (i := 175) (by decide +kernel) rfl
theorem kw_1032 : (Cond.selects "BackVillage" ⟨"BackVillage", "under", "()I"⟩ ⟨"BackVillage", "under", "()I"⟩) ∈ GW := gw_4 (i := 176) (by decide +kernel) rfl
theorem kw_1033 : (Cond.code ⟨"BackVillage", "under", "()I"⟩ prog_1_method_44_code 5 (some .int)) ∈ GW := gw_4 (i := 177) (by decide +kernel) rfl
theorem kw_1038 : (Cond.methodLink "BackVillageLaw" 294 ⟨"BackVillage", "seed", "(I)I"⟩) ∈ GW := gw_4 (i := 182) (by decide +kernel) rfl
theorem kw_1039 : (Cond.instanceMethod ⟨"BackVillage", "seed", "(I)I"⟩) ∈ GW := gw_4 (i := 183) (by decide +kernel) rfl
theorem kw_1040 : (Cond.selects "BackVillage" ⟨"BackVillage", "seed", "(I)I"⟩ ⟨"BackVillage", "seed", "(I)I"⟩) ∈ GW := gw_4 (i := 184) (by decide +kernel) rfl
theorem kw_1041 : (Cond.code ⟨"BackVillage", "seed", "(I)I"⟩ prog_1_method_46_code 3 (some .int)) ∈ GW := gw_4 (i := 185) (by decide +kernel) rfl
theorem kw_1042 : (Cond.methodLink "BackVillageLaw" 298 ⟨"BackVillage", "undo", "()Z"⟩) ∈ GW := gw_4 (i := 186) (by decide +kernel) rfl
theorem kw_1043 : (Cond.instanceMethod ⟨"BackVillage", "undo", "()Z"⟩) ∈ GW := gw_4 (i := 187) (by decide +kernel) rfl
theorem kw_1044 : (Cond.selects "BackVillage" ⟨"BackVillage", "undo", "()Z"⟩ ⟨"BackVillage", "undo", "()Z"⟩) ∈ GW := gw_4 (i := 188) (by decide +kernel) rfl
theorem kw_1045 : (Cond.code ⟨"BackVillage", "undo", "()Z"⟩ prog_1_method_47_code 1 (some .boolean)) ∈ GW := gw_4 (i := 189) (by decide +kernel) rfl
theorem kw_1046 : (Cond.methodLink "BackVillageLaw" 303 ⟨"BackVillage", "image", "()V"⟩) ∈ GW := gw_4 (i := 190) (by decide +kernel) rfl
theorem kw_1047 : (Cond.instanceMethod ⟨"BackVillage", "image", "()V"⟩) ∈ GW := gw_4 (i := 191) (by decide +kernel) rfl
theorem kw_1048 : (Cond.selects "BackVillage" ⟨"BackVillage", "image", "()V"⟩ ⟨"BackVillage", "image", "()V"⟩) ∈ GW := gw_4 (i := 192) (by decide +kernel) rfl
theorem kw_1049 : (Cond.code ⟨"BackVillage", "image", "()V"⟩ prog_1_method_48_code 1 none) ∈ GW := gw_4 (i := 193) (by decide +kernel) rfl
theorem kw_1050 : (Cond.methodLink "BackVillageLaw" 307 ⟨"BackVillage", "back", "()Z"⟩) ∈ GW := gw_4 (i := 194) (by decide +kernel) rfl
theorem kw_1051 : (Cond.instanceMethod ⟨"BackVillage", "back", "()Z"⟩) ∈ GW := gw_4 (i := 195) (by decide +kernel) rfl
theorem kw_1052 : (Cond.selects "BackVillage" ⟨"BackVillage", "back", "()Z"⟩ ⟨"BackVillage", "back", "()Z"⟩) ∈ GW := gw_4 (i := 196) (by decide +kernel) rfl
theorem kw_1053 : (Cond.code ⟨"BackVillage", "back", "()Z"⟩ prog_1_method_49_code 1 (some .boolean)) ∈ GW := gw_4 (i := 197) (by decide +kernel) rfl
theorem kw_1058 : (Cond.methodLink "BackVillageLaw" 311 ⟨"BackVillage", "count", "(I)I"⟩) ∈ GW := gw_4 (i := 202) (by decide +kernel) rfl
theorem kw_1059 : (Cond.instanceMethod ⟨"BackVillage", "count", "(I)I"⟩) ∈ GW := gw_4 (i := 203) (by decide +kernel) rfl
theorem kw_1060 : (Cond.selects "BackVillage" ⟨"BackVillage", "count", "(I)I"⟩ ⟨"BackVillage", "count", "(I)I"⟩) ∈ GW := gw_4 (i := 204) (by decide +kernel) rfl
theorem kw_1061 : (Cond.code ⟨"BackVillage", "count", "(I)I"⟩ prog_1_method_50_code 2 (some .int)) ∈ GW := gw_4 (i := 205) (by decide +kernel) rfl
theorem kw_1071 : (Cond.methodLink "BackVillageLaw" 152 ⟨"BackVillageLaw", "village", "(LBackVillage;[J)I"⟩) ∈ GW := gw_4 (i := 215) (by decide +kernel) rfl
theorem kw_1072 : (Cond.static ⟨"BackVillageLaw", "village", "(LBackVillage;[J)I"⟩) ∈ GW := gw_4 (i := 216) (by decide +kernel) rfl
theorem kw_1073 : (Cond.codeWith ⟨"BackVillageLaw", "village", "(LBackVillage;[J)I"⟩ method_3_code 3 (some .int) [(0, 8, 11, 13), (0, 8, 14, 15)]) ∈ GW := gw_4 (i := 217) (by decide +kernel) rfl
theorem kw_1344 : (Cond.methodLink "BackVillageLaw" 161 ⟨"BackVillageLaw", "law", "(LBackVillage;[J)I"⟩) ∈ GW := gw_6 (i := 8) (by decide +kernel) rfl
theorem kw_1345 : (Cond.static ⟨"BackVillageLaw", "law", "(LBackVillage;[J)I"⟩) ∈ GW := gw_6 (i := 9) (by decide +kernel) rfl
theorem kw_1346 : (Cond.codeWith ⟨"BackVillageLaw", "law", "(LBackVillage;[J)I"⟩ method_4_code 3 (some .int) [(0, 8, 11, 13)]) ∈ GW := gw_6 (i := 10) (by decide +kernel) rfl
theorem kw_1385 : (Cond.methodLink "BackVillageLaw" 168 ⟨"BackVillageLaw", "person", "(LBackVillage;II[J)I"⟩) ∈ GW := gw_6 (i := 49) (by decide +kernel) rfl
theorem kw_1386 : (Cond.static ⟨"BackVillageLaw", "person", "(LBackVillage;II[J)I"⟩) ∈ GW := gw_6 (i := 50) (by decide +kernel) rfl
theorem kw_1387 : (Cond.codeWith ⟨"BackVillageLaw", "person", "(LBackVillage;II[J)I"⟩ method_5_code 5 (some .int) [(0, 10, 13, 24), (0, 10, 17, 26)]) ∈ GW := gw_6 (i := 51) (by decide +kernel) rfl
theorem kw_1447 : (Cond.methodLink "BackVillageLaw" 172 ⟨"BackVillageLaw", "left", "(LBackVillage;I[J)I"⟩) ∈ GW := gw_6 (i := 111) (by decide +kernel) rfl
theorem kw_1448 : (Cond.static ⟨"BackVillageLaw", "left", "(LBackVillage;I[J)I"⟩) ∈ GW := gw_6 (i := 112) (by decide +kernel) rfl
theorem kw_1449 : (Cond.codeWith ⟨"BackVillageLaw", "left", "(LBackVillage;I[J)I"⟩ method_6_code 4 (some .int) [(0, 16, 19, 24)]) ∈ GW := gw_6 (i := 113) (by decide +kernel) rfl
theorem kw_1464 : (Cond.methodLink "BackVillageLaw" 176 ⟨"BackVillageLaw", "apart", "(LBackVillage;III[J)I"⟩) ∈ GW := gw_6 (i := 128) (by decide +kernel) rfl
theorem kw_1465 : (Cond.static ⟨"BackVillageLaw", "apart", "(LBackVillage;III[J)I"⟩) ∈ GW := gw_6 (i := 129) (by decide +kernel) rfl
theorem kw_1466 : (Cond.codeWith ⟨"BackVillageLaw", "apart", "(LBackVillage;III[J)I"⟩ method_7_code 6 (some .int) [(0, 19, 22, 24), (0, 19, 26, 36)]) ∈ GW := gw_6 (i := 130) (by decide +kernel) rfl
theorem kw_1493 : (Cond.methodLink "BackVillageLaw" 180 ⟨"BackVillageLaw", "sure", "(LBackVillage;II[J)I"⟩) ∈ GW := gw_6 (i := 157) (by decide +kernel) rfl
theorem kw_1494 : (Cond.static ⟨"BackVillageLaw", "sure", "(LBackVillage;II[J)I"⟩) ∈ GW := gw_6 (i := 158) (by decide +kernel) rfl
theorem kw_1495 : (Cond.codeWith ⟨"BackVillageLaw", "sure", "(LBackVillage;II[J)I"⟩ method_8_code 5 (some .int) [(0, 17, 20, 24), (0, 17, 24, 36)]) ∈ GW := gw_6 (i := 159) (by decide +kernel) rfl
theorem kw_1500 : (Cond.methodLink "BackVillageLaw" 183 ⟨"BackVillageLaw", "manner", "(LBackVillage;III[J)I"⟩) ∈ GW := gw_6 (i := 164) (by decide +kernel) rfl
theorem kw_1501 : (Cond.static ⟨"BackVillageLaw", "manner", "(LBackVillage;III[J)I"⟩) ∈ GW := gw_6 (i := 165) (by decide +kernel) rfl
theorem kw_1502 : (Cond.codeWith ⟨"BackVillageLaw", "manner", "(LBackVillage;III[J)I"⟩ method_9_code 6 (some .int) [(0, 12, 15, 24), (0, 12, 19, 13), (0, 12, 23, 36)]) ∈ GW := gw_6 (i := 166) (by decide +kernel) rfl
theorem kw_1540 : (Cond.methodLink "BackVillageLaw" 186 ⟨"BackVillageLaw", "treat", "(LBackVillage;IIZ[J)I"⟩) ∈ GW := gw_6 (i := 204) (by decide +kernel) rfl
theorem kw_1541 : (Cond.static ⟨"BackVillageLaw", "treat", "(LBackVillage;IIZ[J)I"⟩) ∈ GW := gw_6 (i := 205) (by decide +kernel) rfl
theorem kw_1542 : (Cond.codeWith ⟨"BackVillageLaw", "treat", "(LBackVillage;IIZ[J)I"⟩ method_10_code 6 (some .int) [(0, 12, 15, 24), (0, 12, 19, 13), (0, 12, 23, 36)]) ∈ GW := gw_6 (i := 206) (by decide +kernel) rfl
theorem kw_1554 : (Cond.methodLink "BackVillageLaw" 190 ⟨"BackVillageLaw", "turn", "(LBackVillage;II[J)I"⟩) ∈ GW := gw_6 (i := 218) (by decide +kernel) rfl
theorem kw_1555 : (Cond.static ⟨"BackVillageLaw", "turn", "(LBackVillage;II[J)I"⟩) ∈ GW := gw_6 (i := 219) (by decide +kernel) rfl
theorem kw_1556 : (Cond.codeWith ⟨"BackVillageLaw", "turn", "(LBackVillage;II[J)I"⟩ method_11_code 5 (some .int) [(0, 10, 13, 24)]) ∈ GW := gw_6 (i := 220) (by decide +kernel) rfl
theorem kw_1567 : (Cond.methodLink "BackVillageLaw" 193 ⟨"BackVillageLaw", "ask", "(LBackVillage;I[J)I"⟩) ∈ GW := gw_6 (i := 231) (by decide +kernel) rfl
theorem kw_1568 : (Cond.static ⟨"BackVillageLaw", "ask", "(LBackVillage;I[J)I"⟩) ∈ GW := gw_6 (i := 232) (by decide +kernel) rfl
theorem kw_1569 : (Cond.codeWith ⟨"BackVillageLaw", "ask", "(LBackVillage;I[J)I"⟩ method_12_code 4 (some .int) [(0, 16, 19, 24)]) ∈ GW := gw_6 (i := 233) (by decide +kernel) rfl
theorem kw_1582 : (Cond.methodLink "BackVillageLaw" 200 ⟨"BackVillageLaw", "read", "(LBackVillage;I[J)I"⟩) ∈ GW := gw_7 (i := 6) (by decide +kernel) rfl
theorem kw_1583 : (Cond.static ⟨"BackVillageLaw", "read", "(LBackVillage;I[J)I"⟩) ∈ GW := gw_7 (i := 7) (by decide +kernel) rfl
theorem kw_1584 : (Cond.codeWith ⟨"BackVillageLaw", "read", "(LBackVillage;I[J)I"⟩ method_13_code 4 (some .int) [(0, 9, 12, 24)]) ∈ GW := gw_7 (i := 8) (by decide +kernel) rfl
theorem kw_1594 : (Cond.methodLink "BackVillageLaw" 203 ⟨"BackVillageLaw", "claim", "(LBackVillage;II[J)I"⟩) ∈ GW := gw_7 (i := 18) (by decide +kernel) rfl
theorem kw_1595 : (Cond.static ⟨"BackVillageLaw", "claim", "(LBackVillage;II[J)I"⟩) ∈ GW := gw_7 (i := 19) (by decide +kernel) rfl
theorem kw_1596 : (Cond.codeWith ⟨"BackVillageLaw", "claim", "(LBackVillage;II[J)I"⟩ method_14_code 5 (some .int) [(0, 10, 13, 24), (0, 10, 17, 13), (0, 10, 21, 36)]) ∈ GW := gw_7 (i := 20) (by decide +kernel) rfl
theorem kw_1623 : (Cond.methodLink "BackVillageLaw" 206 ⟨"BackVillageLaw", "query", "(LBackVillage;III[J)I"⟩) ∈ GW := gw_7 (i := 47) (by decide +kernel) rfl
theorem kw_1624 : (Cond.static ⟨"BackVillageLaw", "query", "(LBackVillage;III[J)I"⟩) ∈ GW := gw_7 (i := 48) (by decide +kernel) rfl
theorem kw_1625 : (Cond.codeWith ⟨"BackVillageLaw", "query", "(LBackVillage;III[J)I"⟩ method_15_code 6 (some .int) [(0, 12, 15, 24)]) ∈ GW := gw_7 (i := 49) (by decide +kernel) rfl
theorem kw_1638 : (Cond.methodLink "BackVillageLaw" 209 ⟨"BackVillageLaw", "stroll", "(LBackVillage;I[J)I"⟩) ∈ GW := gw_7 (i := 62) (by decide +kernel) rfl
theorem kw_1639 : (Cond.static ⟨"BackVillageLaw", "stroll", "(LBackVillage;I[J)I"⟩) ∈ GW := gw_7 (i := 63) (by decide +kernel) rfl
theorem kw_1640 : (Cond.codeWith ⟨"BackVillageLaw", "stroll", "(LBackVillage;I[J)I"⟩ method_16_code 4 (some .int) [(0, 9, 12, 13)]) ∈ GW := gw_7 (i := 64) (by decide +kernel) rfl
theorem kw_1656 : (Cond.methodLink "BackVillageLaw" 212 ⟨"BackVillageLaw", "possible", "(LBackVillage;II[J)I"⟩) ∈ GW := gw_7 (i := 80) (by decide +kernel) rfl
theorem kw_1657 : (Cond.static ⟨"BackVillageLaw", "possible", "(LBackVillage;II[J)I"⟩) ∈ GW := gw_7 (i := 81) (by decide +kernel) rfl
theorem kw_1658 : (Cond.codeWith ⟨"BackVillageLaw", "possible", "(LBackVillage;II[J)I"⟩ method_17_code 5 (some .int) [(0, 10, 13, 24)]) ∈ GW := gw_7 (i := 82) (by decide +kernel) rfl
theorem kw_1664 : (Cond.methodLink "BackVillageLaw" 215 ⟨"BackVillageLaw", "knows", "(LBackVillage;II[J)I"⟩) ∈ GW := gw_7 (i := 88) (by decide +kernel) rfl
theorem kw_1665 : (Cond.static ⟨"BackVillageLaw", "knows", "(LBackVillage;II[J)I"⟩) ∈ GW := gw_7 (i := 89) (by decide +kernel) rfl
theorem kw_1666 : (Cond.codeWith ⟨"BackVillageLaw", "knows", "(LBackVillage;II[J)I"⟩ method_18_code 5 (some .int) [(0, 10, 13, 24)]) ∈ GW := gw_7 (i := 90) (by decide +kernel) rfl
theorem kw_1672 : (Cond.methodLink "BackVillageLaw" 218 ⟨"BackVillageLaw", "thinks", "(LBackVillage;III[J)I"⟩) ∈ GW := gw_7 (i := 96) (by decide +kernel) rfl
theorem kw_1673 : (Cond.static ⟨"BackVillageLaw", "thinks", "(LBackVillage;III[J)I"⟩) ∈ GW := gw_7 (i := 97) (by decide +kernel) rfl
theorem kw_1674 : (Cond.codeWith ⟨"BackVillageLaw", "thinks", "(LBackVillage;III[J)I"⟩ method_19_code 6 (some .int) [(0, 19, 22, 24)]) ∈ GW := gw_7 (i := 98) (by decide +kernel) rfl
theorem kw_1683 : (Cond.methodLink "BackVillageLaw" 221 ⟨"BackVillageLaw", "common", "(LBackVillage;I[J)I"⟩) ∈ GW := gw_7 (i := 107) (by decide +kernel) rfl
theorem kw_1684 : (Cond.static ⟨"BackVillageLaw", "common", "(LBackVillage;I[J)I"⟩) ∈ GW := gw_7 (i := 108) (by decide +kernel) rfl
theorem kw_1685 : (Cond.codeWith ⟨"BackVillageLaw", "common", "(LBackVillage;I[J)I"⟩ method_20_code 4 (some .int) [(0, 9, 12, 24)]) ∈ GW := gw_7 (i := 109) (by decide +kernel) rfl
theorem kw_1698 : (Cond.methodLink "BackVillageLaw" 224 ⟨"BackVillageLaw", "muddy", "(LBackVillage;I[J)I"⟩) ∈ GW := gw_7 (i := 122) (by decide +kernel) rfl
theorem kw_1699 : (Cond.static ⟨"BackVillageLaw", "muddy", "(LBackVillage;I[J)I"⟩) ∈ GW := gw_7 (i := 123) (by decide +kernel) rfl
theorem kw_1700 : (Cond.codeWith ⟨"BackVillageLaw", "muddy", "(LBackVillage;I[J)I"⟩ method_21_code 4 (some .int) [(0, 9, 12, 24)]) ∈ GW := gw_7 (i := 124) (by decide +kernel) rfl
theorem kw_1717 : (Cond.methodLink "BackVillageLaw" 227 ⟨"BackVillageLaw", "backs", "(LBackVillage;I[J)I"⟩) ∈ GW := gw_7 (i := 141) (by decide +kernel) rfl
theorem kw_1718 : (Cond.static ⟨"BackVillageLaw", "backs", "(LBackVillage;I[J)I"⟩) ∈ GW := gw_7 (i := 142) (by decide +kernel) rfl
theorem kw_1719 : (Cond.codeWith ⟨"BackVillageLaw", "backs", "(LBackVillage;I[J)I"⟩ method_22_code 4 (some .int) [(0, 9, 12, 24)]) ∈ GW := gw_7 (i := 143) (by decide +kernel) rfl
theorem kw_1746 : (Cond.methodLink "BackVillageLaw" 230 ⟨"BackVillageLaw", "gives", "(LBackVillage;I[J)I"⟩) ∈ GW := gw_7 (i := 170) (by decide +kernel) rfl
theorem kw_1747 : (Cond.static ⟨"BackVillageLaw", "gives", "(LBackVillage;I[J)I"⟩) ∈ GW := gw_7 (i := 171) (by decide +kernel) rfl
theorem kw_1748 : (Cond.codeWith ⟨"BackVillageLaw", "gives", "(LBackVillage;I[J)I"⟩ method_23_code 4 (some .int) [(0, 9, 12, 24)]) ∈ GW := gw_7 (i := 172) (by decide +kernel) rfl
theorem kw_1766 : (Cond.methodLink "BackVillageLaw" 233 ⟨"BackVillageLaw", "never", "(LBackVillage;I[J)I"⟩) ∈ GW := gw_7 (i := 190) (by decide +kernel) rfl
theorem kw_1767 : (Cond.static ⟨"BackVillageLaw", "never", "(LBackVillage;I[J)I"⟩) ∈ GW := gw_7 (i := 191) (by decide +kernel) rfl
theorem kw_1768 : (Cond.codeWith ⟨"BackVillageLaw", "never", "(LBackVillage;I[J)I"⟩ method_24_code 4 (some .int) [(0, 9, 12, 24)]) ∈ GW := gw_7 (i := 192) (by decide +kernel) rfl
theorem kw_1781 : (Cond.methodLink "BackVillageLaw" 236 ⟨"BackVillageLaw", "question", "(LBackVillage;I[J)I"⟩) ∈ GW := gw_7 (i := 205) (by decide +kernel) rfl
theorem kw_1782 : (Cond.static ⟨"BackVillageLaw", "question", "(LBackVillage;I[J)I"⟩) ∈ GW := gw_7 (i := 206) (by decide +kernel) rfl
theorem kw_1783 : (Cond.codeWith ⟨"BackVillageLaw", "question", "(LBackVillage;I[J)I"⟩ method_25_code 4 (some .int) [(0, 9, 12, 24)]) ∈ GW := gw_7 (i := 207) (by decide +kernel) rfl
theorem kw_1799 : (Cond.methodLink "BackVillageLaw" 239 ⟨"BackVillageLaw", "queries", "(LBackVillage;I[J)I"⟩) ∈ GW := gw_7 (i := 223) (by decide +kernel) rfl
theorem kw_1800 : (Cond.static ⟨"BackVillageLaw", "queries", "(LBackVillage;I[J)I"⟩) ∈ GW := gw_7 (i := 224) (by decide +kernel) rfl
theorem kw_1801 : (Cond.codeWith ⟨"BackVillageLaw", "queries", "(LBackVillage;I[J)I"⟩ method_26_code 4 (some .int) [(0, 9, 12, 24)]) ∈ GW := gw_7 (i := 225) (by decide +kernel) rfl
theorem kw_1816 : (Cond.methodLink "BackVillageLaw" 242 ⟨"BackVillageLaw", "spill", "(LBackVillage;I[J)I"⟩) ∈ GW := gw_8 (i := 0) (by decide +kernel) rfl
theorem kw_1817 : (Cond.static ⟨"BackVillageLaw", "spill", "(LBackVillage;I[J)I"⟩) ∈ GW := gw_8 (i := 1) (by decide +kernel) rfl
theorem kw_1818 : (Cond.codeWith ⟨"BackVillageLaw", "spill", "(LBackVillage;I[J)I"⟩ method_27_code 4 (some .int) [(0, 9, 12, 24)]) ∈ GW := gw_8 (i := 2) (by decide +kernel) rfl
theorem kw_1823 : (Cond.methodLink "BackVillageLaw" 249 ⟨"BackVillageLaw", "game", "(LBackVillage;IZ[J)I"⟩) ∈ GW := gw_8 (i := 7) (by decide +kernel) rfl
theorem kw_1824 : (Cond.static ⟨"BackVillageLaw", "game", "(LBackVillage;IZ[J)I"⟩) ∈ GW := gw_8 (i := 8) (by decide +kernel) rfl
theorem kw_1825 : (Cond.codeWith ⟨"BackVillageLaw", "game", "(LBackVillage;IZ[J)I"⟩ method_28_code 5 (some .int) [(0, 10, 13, 24)]) ∈ GW := gw_8 (i := 9) (by decide +kernel) rfl
theorem kw_1838 : (Cond.methodLink "BackVillageLaw" 253 ⟨"BackVillageLaw", "steps", "(LBackVillage;II[J)I"⟩) ∈ GW := gw_8 (i := 22) (by decide +kernel) rfl
theorem kw_1839 : (Cond.static ⟨"BackVillageLaw", "steps", "(LBackVillage;II[J)I"⟩) ∈ GW := gw_8 (i := 23) (by decide +kernel) rfl
theorem kw_1840 : (Cond.codeWith ⟨"BackVillageLaw", "steps", "(LBackVillage;II[J)I"⟩ method_29_code 5 (some .int) [(0, 10, 13, 24)]) ∈ GW := gw_8 (i := 24) (by decide +kernel) rfl
theorem kw_1849 : (Cond.methodLink "BackVillageLaw" 256 ⟨"BackVillageLaw", "trial", "(LBackVillage;I[J)I"⟩) ∈ GW := gw_8 (i := 33) (by decide +kernel) rfl
theorem kw_1850 : (Cond.static ⟨"BackVillageLaw", "trial", "(LBackVillage;I[J)I"⟩) ∈ GW := gw_8 (i := 34) (by decide +kernel) rfl
theorem kw_1851 : (Cond.codeWith ⟨"BackVillageLaw", "trial", "(LBackVillage;I[J)I"⟩ method_30_code 4 (some .int) [(0, 9, 12, 13)]) ∈ GW := gw_8 (i := 35) (by decide +kernel) rfl
theorem kw_1860 : (Cond.methodLink "BackVillageLaw" 259 ⟨"BackVillageLaw", "span", "(LBackVillage;IZ[J)I"⟩) ∈ GW := gw_8 (i := 44) (by decide +kernel) rfl
theorem kw_1861 : (Cond.static ⟨"BackVillageLaw", "span", "(LBackVillage;IZ[J)I"⟩) ∈ GW := gw_8 (i := 45) (by decide +kernel) rfl
theorem kw_1862 : (Cond.codeWith ⟨"BackVillageLaw", "span", "(LBackVillage;IZ[J)I"⟩ method_31_code 5 (some .int) [(0, 10, 13, 13)]) ∈ GW := gw_8 (i := 46) (by decide +kernel) rfl
theorem kw_1869 : (Cond.methodLink "BackVillageLaw" 262 ⟨"BackVillageLaw", "nth", "(LBackVillage;II[J)I"⟩) ∈ GW := gw_8 (i := 53) (by decide +kernel) rfl
theorem kw_1870 : (Cond.static ⟨"BackVillageLaw", "nth", "(LBackVillage;II[J)I"⟩) ∈ GW := gw_8 (i := 54) (by decide +kernel) rfl
theorem kw_1871 : (Cond.codeWith ⟨"BackVillageLaw", "nth", "(LBackVillage;II[J)I"⟩ method_32_code 5 (some .int) [(0, 10, 13, 24)]) ∈ GW := gw_8 (i := 55) (by decide +kernel) rfl
theorem kw_1880 : (Cond.methodLink "BackVillageLaw" 265 ⟨"BackVillageLaw", "guess", "(LBackVillage;I[J)I"⟩) ∈ GW := gw_8 (i := 64) (by decide +kernel) rfl
theorem kw_1881 : (Cond.static ⟨"BackVillageLaw", "guess", "(LBackVillage;I[J)I"⟩) ∈ GW := gw_8 (i := 65) (by decide +kernel) rfl
theorem kw_1882 : (Cond.codeWith ⟨"BackVillageLaw", "guess", "(LBackVillage;I[J)I"⟩ method_33_code 4 (some .int) [(0, 9, 12, 24)]) ∈ GW := gw_8 (i := 66) (by decide +kernel) rfl
theorem kw_1899 : (Cond.methodLink "BackVillageLaw" 268 ⟨"BackVillageLaw", "right", "(LBackVillage;I[J)I"⟩) ∈ GW := gw_8 (i := 83) (by decide +kernel) rfl
theorem kw_1900 : (Cond.static ⟨"BackVillageLaw", "right", "(LBackVillage;I[J)I"⟩) ∈ GW := gw_8 (i := 84) (by decide +kernel) rfl
theorem kw_1901 : (Cond.codeWith ⟨"BackVillageLaw", "right", "(LBackVillage;I[J)I"⟩ method_34_code 4 (some .int) [(0, 9, 12, 24)]) ∈ GW := gw_8 (i := 85) (by decide +kernel) rfl
theorem kw_1914 : (Cond.methodLink "BackVillageLaw" 271 ⟨"BackVillageLaw", "rows", "(LBackVillage;I[J)I"⟩) ∈ GW := gw_8 (i := 98) (by decide +kernel) rfl
theorem kw_1915 : (Cond.static ⟨"BackVillageLaw", "rows", "(LBackVillage;I[J)I"⟩) ∈ GW := gw_8 (i := 99) (by decide +kernel) rfl
theorem kw_1916 : (Cond.codeWith ⟨"BackVillageLaw", "rows", "(LBackVillage;I[J)I"⟩ method_35_code 4 (some .int) [(0, 9, 12, 13)]) ∈ GW := gw_8 (i := 100) (by decide +kernel) rfl
theorem kw_1950 : (Cond.methodLink "BackVillageLaw" 274 ⟨"BackVillageLaw", "liars", "(LBackVillage;IZ[J)I"⟩) ∈ GW := gw_8 (i := 134) (by decide +kernel) rfl
theorem kw_1951 : (Cond.static ⟨"BackVillageLaw", "liars", "(LBackVillage;IZ[J)I"⟩) ∈ GW := gw_8 (i := 135) (by decide +kernel) rfl
theorem kw_1952 : (Cond.codeWith ⟨"BackVillageLaw", "liars", "(LBackVillage;IZ[J)I"⟩ method_36_code 5 (some .int) [(0, 10, 13, 13)]) ∈ GW := gw_8 (i := 136) (by decide +kernel) rfl
theorem kw_1971 : (Cond.methodLink "BackVillageLaw" 277 ⟨"BackVillageLaw", "married", "(LBackVillage;I[J)I"⟩) ∈ GW := gw_8 (i := 155) (by decide +kernel) rfl
theorem kw_1972 : (Cond.static ⟨"BackVillageLaw", "married", "(LBackVillage;I[J)I"⟩) ∈ GW := gw_8 (i := 156) (by decide +kernel) rfl
theorem kw_1973 : (Cond.codeWith ⟨"BackVillageLaw", "married", "(LBackVillage;I[J)I"⟩ method_37_code 4 (some .int) [(0, 9, 12, 24)]) ∈ GW := gw_8 (i := 157) (by decide +kernel) rfl
theorem kw_1997 : (Cond.methodLink "BackVillageLaw" 280 ⟨"BackVillageLaw", "led", "(LBackVillage;I[J)I"⟩) ∈ GW := gw_8 (i := 181) (by decide +kernel) rfl
theorem kw_1998 : (Cond.static ⟨"BackVillageLaw", "led", "(LBackVillage;I[J)I"⟩) ∈ GW := gw_8 (i := 182) (by decide +kernel) rfl
theorem kw_1999 : (Cond.codeWith ⟨"BackVillageLaw", "led", "(LBackVillage;I[J)I"⟩ method_38_code 4 (some .int) [(0, 9, 12, 24)]) ∈ GW := gw_8 (i := 183) (by decide +kernel) rfl
theorem kw_2008 : (Cond.methodLink "BackVillageLaw" 291 ⟨"BackVillageLaw", "log", "(LBackVillage;II[J)I"⟩) ∈ GW := gw_8 (i := 192) (by decide +kernel) rfl
theorem kw_2009 : (Cond.static ⟨"BackVillageLaw", "log", "(LBackVillage;II[J)I"⟩) ∈ GW := gw_8 (i := 193) (by decide +kernel) rfl
theorem kw_2010 : (Cond.codeWith ⟨"BackVillageLaw", "log", "(LBackVillage;II[J)I"⟩ method_39_code 5 (some .int) [(0, 10, 13, 26)]) ∈ GW := gw_8 (i := 194) (by decide +kernel) rfl
theorem kw_2016 : (Cond.methodLink "BackVillageLaw" 158 ⟨"BackVillageModel", "thrown", "()I"⟩) ∈ GW := gw_8 (i := 200) (by decide +kernel) rfl
theorem kw_2017 : (Cond.instanceMethod ⟨"BackVillageModel", "thrown", "()I"⟩) ∈ GW := gw_8 (i := 201) (by decide +kernel) rfl
theorem kw_2018 : (Cond.selects "BackVillageModel" ⟨"BackVillageModel", "thrown", "()I"⟩ ⟨"BackVillageModel", "thrown", "()I"⟩) ∈ GW := gw_8 (i := 202) (by decide +kernel) rfl
theorem kw_2019 : (Cond.code ⟨"BackVillageModel", "thrown", "()I"⟩ prog_13_method_1_code 1 (some .int)) ∈ GW := gw_8 (i := 203) (by decide +kernel) rfl
theorem kw_2140 : (Cond.methodLink "BackVillageLaw" 306 ⟨"BackVillageModel", "image", "()V"⟩) ∈ GW := gw_9 (i := 84) (by decide +kernel) rfl
theorem kw_2141 : (Cond.instanceMethod ⟨"BackVillageModel", "image", "()V"⟩) ∈ GW := gw_9 (i := 85) (by decide +kernel) rfl
theorem kw_2142 : (Cond.selects "BackVillageModel" ⟨"BackVillageModel", "image", "()V"⟩ ⟨"BackVillageModel", "image", "()V"⟩) ∈ GW := gw_9 (i := 86) (by decide +kernel) rfl
theorem kw_2143 : (Cond.code ⟨"BackVillageModel", "image", "()V"⟩ prog_13_method_6_code 2 none) ∈ GW := gw_9 (i := 87) (by decide +kernel) rfl
theorem kw_2144 : (Cond.methodLink "BackVillageLaw" 310 ⟨"BackVillageModel", "back", "()Z"⟩) ∈ GW := gw_9 (i := 88) (by decide +kernel) rfl
theorem kw_2145 : (Cond.instanceMethod ⟨"BackVillageModel", "back", "()Z"⟩) ∈ GW := gw_9 (i := 89) (by decide +kernel) rfl
theorem kw_2146 : (Cond.selects "BackVillageModel" ⟨"BackVillageModel", "back", "()Z"⟩ ⟨"BackVillageModel", "back", "()Z"⟩) ∈ GW := gw_9 (i := 90) (by decide +kernel) rfl
theorem kw_2147 : (Cond.code ⟨"BackVillageModel", "back", "()Z"⟩ prog_13_method_7_code 2 (some .boolean)) ∈ GW := gw_9 (i := 91) (by decide +kernel) rfl
theorem kw_2148 : (Cond.methodLink "BackVillageLaw" 302 ⟨"BackVillageModel", "undo", "()Z"⟩) ∈ GW := gw_9 (i := 92) (by decide +kernel) rfl
theorem kw_2149 : (Cond.instanceMethod ⟨"BackVillageModel", "undo", "()Z"⟩) ∈ GW := gw_9 (i := 93) (by decide +kernel) rfl
theorem kw_2150 : (Cond.selects "BackVillageModel" ⟨"BackVillageModel", "undo", "()Z"⟩ ⟨"BackVillageModel", "undo", "()Z"⟩) ∈ GW := gw_9 (i := 94) (by decide +kernel) rfl
theorem kw_2151 : (Cond.code ⟨"BackVillageModel", "undo", "()Z"⟩ prog_13_method_9_code 2 (some .boolean)) ∈ GW := gw_9 (i := 95) (by decide +kernel) rfl
theorem kw_2152 : (Cond.methodLink "BackVillageLaw" 147 ⟨"BackVillageModel", "feed", "(IIIII)I"⟩) ∈ GW := gw_9 (i := 96) (by decide +kernel) rfl
theorem kw_2153 : (Cond.instanceMethod ⟨"BackVillageModel", "feed", "(IIIII)I"⟩) ∈ GW := gw_9 (i := 97) (by decide +kernel) rfl
theorem kw_2154 : (Cond.selects "BackVillageModel" ⟨"BackVillageModel", "feed", "(IIIII)I"⟩ ⟨"BackVillageModel", "feed", "(IIIII)I"⟩) ∈ GW := gw_9 (i := 98) (by decide +kernel) rfl
theorem kw_2155 : (Cond.code ⟨"BackVillageModel", "feed", "(IIIII)I"⟩ prog_13_method_30_code 7 (some .int)) ∈ GW := gw_9 (i := 99) (by decide +kernel) rfl
theorem kw_2156 : (Cond.methodLink "BackVillageLaw" 151 ⟨"BackVillageModel", "end", "(I)Z"⟩) ∈ GW := gw_9 (i := 100) (by decide +kernel) rfl
theorem kw_2157 : (Cond.instanceMethod ⟨"BackVillageModel", "end", "(I)Z"⟩) ∈ GW := gw_9 (i := 101) (by decide +kernel) rfl
theorem kw_2158 : (Cond.selects "BackVillageModel" ⟨"BackVillageModel", "end", "(I)Z"⟩ ⟨"BackVillageModel", "end", "(I)Z"⟩) ∈ GW := gw_9 (i := 102) (by decide +kernel) rfl
theorem kw_2159 : (Cond.code ⟨"BackVillageModel", "end", "(I)Z"⟩ prog_13_method_31_code 2 (some .boolean)) ∈ GW := gw_9 (i := 103) (by decide +kernel) rfl
theorem kw_2160 : (Cond.methodLink "BackVillageLaw" 167 ⟨"BackVillageModel", "fault", "()I"⟩) ∈ GW := gw_9 (i := 104) (by decide +kernel) rfl
theorem kw_2161 : (Cond.instanceMethod ⟨"BackVillageModel", "fault", "()I"⟩) ∈ GW := gw_9 (i := 105) (by decide +kernel) rfl
theorem kw_2162 : (Cond.selects "BackVillageModel" ⟨"BackVillageModel", "fault", "()I"⟩ ⟨"BackVillageModel", "fault", "()I"⟩) ∈ GW := gw_9 (i := 106) (by decide +kernel) rfl
theorem kw_2163 : (Cond.code ⟨"BackVillageModel", "fault", "()I"⟩ prog_13_method_40_code 1 (some .int)) ∈ GW := gw_9 (i := 107) (by decide +kernel) rfl
theorem kw_2164 : (Cond.methodLink "BackVillageLaw" 157 ⟨"BackVillageModel", "village", "()I"⟩) ∈ GW := gw_9 (i := 108) (by decide +kernel) rfl
theorem kw_2165 : (Cond.instanceMethod ⟨"BackVillageModel", "village", "()I"⟩) ∈ GW := gw_9 (i := 109) (by decide +kernel) rfl
theorem kw_2166 : (Cond.selects "BackVillageModel" ⟨"BackVillageModel", "village", "()I"⟩ ⟨"BackVillageModel", "village", "()I"⟩) ∈ GW := gw_9 (i := 110) (by decide +kernel) rfl
theorem kw_2167 : (Cond.code ⟨"BackVillageModel", "village", "()I"⟩ prog_13_method_61_code 3 (some .int)) ∈ GW := gw_9 (i := 111) (by decide +kernel) rfl
theorem kw_2349 : (Cond.methodLink "BackVillageLaw" 163 ⟨"BackVillageModel", "law", "()I"⟩) ∈ GW := gw_10 (i := 53) (by decide +kernel) rfl
theorem kw_2350 : (Cond.instanceMethod ⟨"BackVillageModel", "law", "()I"⟩) ∈ GW := gw_10 (i := 54) (by decide +kernel) rfl
theorem kw_2351 : (Cond.selects "BackVillageModel" ⟨"BackVillageModel", "law", "()I"⟩ ⟨"BackVillageModel", "law", "()I"⟩) ∈ GW := gw_10 (i := 55) (by decide +kernel) rfl
theorem kw_2352 : (Cond.code ⟨"BackVillageModel", "law", "()I"⟩ prog_13_method_62_code 3 (some .int)) ∈ GW := gw_10 (i := 56) (by decide +kernel) rfl
theorem kw_2353 : (Cond.methodLink "BackVillageLaw" 189 ⟨"BackVillageModel", "treat", "(IIZ)I"⟩) ∈ GW := gw_10 (i := 57) (by decide +kernel) rfl
theorem kw_2354 : (Cond.instanceMethod ⟨"BackVillageModel", "treat", "(IIZ)I"⟩) ∈ GW := gw_10 (i := 58) (by decide +kernel) rfl
theorem kw_2355 : (Cond.selects "BackVillageModel" ⟨"BackVillageModel", "treat", "(IIZ)I"⟩ ⟨"BackVillageModel", "treat", "(IIZ)I"⟩) ∈ GW := gw_10 (i := 59) (by decide +kernel) rfl
theorem kw_2356 : (Cond.code ⟨"BackVillageModel", "treat", "(IIZ)I"⟩ prog_13_method_70_code 4 (some .int)) ∈ GW := gw_10 (i := 60) (by decide +kernel) rfl
theorem kw_2424 : (Cond.methodLink "BackVillageLaw" 192 ⟨"BackVillageModel", "turn", "(II)I"⟩) ∈ GW := gw_10 (i := 128) (by decide +kernel) rfl
theorem kw_2425 : (Cond.instanceMethod ⟨"BackVillageModel", "turn", "(II)I"⟩) ∈ GW := gw_10 (i := 129) (by decide +kernel) rfl
theorem kw_2426 : (Cond.selects "BackVillageModel" ⟨"BackVillageModel", "turn", "(II)I"⟩ ⟨"BackVillageModel", "turn", "(II)I"⟩) ∈ GW := gw_10 (i := 130) (by decide +kernel) rfl
theorem kw_2427 : (Cond.code ⟨"BackVillageModel", "turn", "(II)I"⟩ prog_13_method_71_code 3 (some .int)) ∈ GW := gw_10 (i := 131) (by decide +kernel) rfl
theorem kw_2432 : (Cond.methodLink "BackVillageLaw" 195 ⟨"BackVillageModel", "ask", "(I)Z"⟩) ∈ GW := gw_10 (i := 136) (by decide +kernel) rfl
theorem kw_2433 : (Cond.instanceMethod ⟨"BackVillageModel", "ask", "(I)Z"⟩) ∈ GW := gw_10 (i := 137) (by decide +kernel) rfl
theorem kw_2434 : (Cond.selects "BackVillageModel" ⟨"BackVillageModel", "ask", "(I)Z"⟩ ⟨"BackVillageModel", "ask", "(I)Z"⟩) ∈ GW := gw_10 (i := 138) (by decide +kernel) rfl
theorem kw_2435 : (Cond.code ⟨"BackVillageModel", "ask", "(I)Z"⟩ prog_13_method_72_code 3 (some .boolean)) ∈ GW := gw_10 (i := 139) (by decide +kernel) rfl
theorem kw_2436 : (Cond.methodLink "BackVillageLaw" 199 ⟨"BackVillageModel", "day", "()I"⟩) ∈ GW := gw_10 (i := 140) (by decide +kernel) rfl
theorem kw_2437 : (Cond.instanceMethod ⟨"BackVillageModel", "day", "()I"⟩) ∈ GW := gw_10 (i := 141) (by decide +kernel) rfl
theorem kw_2438 : (Cond.selects "BackVillageModel" ⟨"BackVillageModel", "day", "()I"⟩ ⟨"BackVillageModel", "day", "()I"⟩) ∈ GW := gw_10 (i := 142) (by decide +kernel) rfl
theorem kw_2439 : (Cond.code ⟨"BackVillageModel", "day", "()I"⟩ prog_13_method_74_code 2 (some .int)) ∈ GW := gw_10 (i := 143) (by decide +kernel) rfl
theorem kw_2444 : (Cond.methodLink "BackVillageLaw" 202 ⟨"BackVillageModel", "read", "(I)I"⟩) ∈ GW := gw_10 (i := 148) (by decide +kernel) rfl
theorem kw_2445 : (Cond.instanceMethod ⟨"BackVillageModel", "read", "(I)I"⟩) ∈ GW := gw_10 (i := 149) (by decide +kernel) rfl
theorem kw_2446 : (Cond.selects "BackVillageModel" ⟨"BackVillageModel", "read", "(I)I"⟩ ⟨"BackVillageModel", "read", "(I)I"⟩) ∈ GW := gw_10 (i := 150) (by decide +kernel) rfl
theorem kw_2447 : (Cond.code ⟨"BackVillageModel", "read", "(I)I"⟩ prog_13_method_76_code 2 (some .int)) ∈ GW := gw_10 (i := 151) (by decide +kernel) rfl
theorem kw_2452 : (Cond.methodLink "BackVillageLaw" 205 ⟨"BackVillageModel", "claim", "(II)I"⟩) ∈ GW := gw_10 (i := 156) (by decide +kernel) rfl
theorem kw_2453 : (Cond.instanceMethod ⟨"BackVillageModel", "claim", "(II)I"⟩) ∈ GW := gw_10 (i := 157) (by decide +kernel) rfl
theorem kw_2454 : (Cond.selects "BackVillageModel" ⟨"BackVillageModel", "claim", "(II)I"⟩ ⟨"BackVillageModel", "claim", "(II)I"⟩) ∈ GW := gw_10 (i := 158) (by decide +kernel) rfl
theorem kw_2455 : (Cond.code ⟨"BackVillageModel", "claim", "(II)I"⟩ prog_13_method_77_code 4 (some .int)) ∈ GW := gw_10 (i := 159) (by decide +kernel) rfl
theorem kw_2456 : (Cond.methodLink "BackVillageLaw" 208 ⟨"BackVillageModel", "query", "(III)I"⟩) ∈ GW := gw_10 (i := 160) (by decide +kernel) rfl
theorem kw_2457 : (Cond.instanceMethod ⟨"BackVillageModel", "query", "(III)I"⟩) ∈ GW := gw_10 (i := 161) (by decide +kernel) rfl
theorem kw_2458 : (Cond.selects "BackVillageModel" ⟨"BackVillageModel", "query", "(III)I"⟩ ⟨"BackVillageModel", "query", "(III)I"⟩) ∈ GW := gw_10 (i := 162) (by decide +kernel) rfl
theorem kw_2459 : (Cond.code ⟨"BackVillageModel", "query", "(III)I"⟩ prog_13_method_79_code 5 (some .int)) ∈ GW := gw_10 (i := 163) (by decide +kernel) rfl
theorem kw_2464 : (Cond.methodLink "BackVillageLaw" 211 ⟨"BackVillageModel", "stroll", "(I)I"⟩) ∈ GW := gw_10 (i := 168) (by decide +kernel) rfl
theorem kw_2465 : (Cond.instanceMethod ⟨"BackVillageModel", "stroll", "(I)I"⟩) ∈ GW := gw_10 (i := 169) (by decide +kernel) rfl
theorem kw_2466 : (Cond.selects "BackVillageModel" ⟨"BackVillageModel", "stroll", "(I)I"⟩ ⟨"BackVillageModel", "stroll", "(I)I"⟩) ∈ GW := gw_10 (i := 170) (by decide +kernel) rfl
theorem kw_2467 : (Cond.code ⟨"BackVillageModel", "stroll", "(I)I"⟩ prog_13_method_82_code 2 (some .int)) ∈ GW := gw_10 (i := 171) (by decide +kernel) rfl
theorem kw_2477 : (Cond.methodLink "BackVillageLaw" 171 ⟨"BackVillageModel", "person", "(II)I"⟩) ∈ GW := gw_10 (i := 181) (by decide +kernel) rfl
theorem kw_2478 : (Cond.instanceMethod ⟨"BackVillageModel", "person", "(II)I"⟩) ∈ GW := gw_10 (i := 182) (by decide +kernel) rfl
theorem kw_2479 : (Cond.selects "BackVillageModel" ⟨"BackVillageModel", "person", "(II)I"⟩ ⟨"BackVillageModel", "person", "(II)I"⟩) ∈ GW := gw_10 (i := 183) (by decide +kernel) rfl
theorem kw_2480 : (Cond.code ⟨"BackVillageModel", "person", "(II)I"⟩ prog_13_method_86_code 3 (some .int)) ∈ GW := gw_10 (i := 184) (by decide +kernel) rfl
theorem kw_2493 : (Cond.methodLink "BackVillageLaw" 175 ⟨"BackVillageModel", "left", "(I)Z"⟩) ∈ GW := gw_10 (i := 197) (by decide +kernel) rfl
theorem kw_2494 : (Cond.instanceMethod ⟨"BackVillageModel", "left", "(I)Z"⟩) ∈ GW := gw_10 (i := 198) (by decide +kernel) rfl
theorem kw_2495 : (Cond.selects "BackVillageModel" ⟨"BackVillageModel", "left", "(I)Z"⟩ ⟨"BackVillageModel", "left", "(I)Z"⟩) ∈ GW := gw_10 (i := 199) (by decide +kernel) rfl
theorem kw_2496 : (Cond.code ⟨"BackVillageModel", "left", "(I)Z"⟩ prog_13_method_87_code 2 (some .boolean)) ∈ GW := gw_10 (i := 200) (by decide +kernel) rfl
theorem kw_2501 : (Cond.methodLink "BackVillageLaw" 179 ⟨"BackVillageModel", "apart", "(III)Z"⟩) ∈ GW := gw_10 (i := 205) (by decide +kernel) rfl
theorem kw_2502 : (Cond.instanceMethod ⟨"BackVillageModel", "apart", "(III)Z"⟩) ∈ GW := gw_10 (i := 206) (by decide +kernel) rfl
theorem kw_2503 : (Cond.selects "BackVillageModel" ⟨"BackVillageModel", "apart", "(III)Z"⟩ ⟨"BackVillageModel", "apart", "(III)Z"⟩) ∈ GW := gw_10 (i := 207) (by decide +kernel) rfl
theorem kw_2504 : (Cond.code ⟨"BackVillageModel", "apart", "(III)Z"⟩ prog_13_method_88_code 4 (some .boolean)) ∈ GW := gw_10 (i := 208) (by decide +kernel) rfl
theorem kw_2505 : (Cond.methodLink "BackVillageLaw" 182 ⟨"BackVillageModel", "sure", "(II)Z"⟩) ∈ GW := gw_10 (i := 209) (by decide +kernel) rfl
theorem kw_2506 : (Cond.instanceMethod ⟨"BackVillageModel", "sure", "(II)Z"⟩) ∈ GW := gw_10 (i := 210) (by decide +kernel) rfl
theorem kw_2507 : (Cond.selects "BackVillageModel" ⟨"BackVillageModel", "sure", "(II)Z"⟩ ⟨"BackVillageModel", "sure", "(II)Z"⟩) ∈ GW := gw_10 (i := 211) (by decide +kernel) rfl
theorem kw_2508 : (Cond.code ⟨"BackVillageModel", "sure", "(II)Z"⟩ prog_13_method_89_code 3 (some .boolean)) ∈ GW := gw_10 (i := 212) (by decide +kernel) rfl
theorem kw_2509 : (Cond.methodLink "BackVillageLaw" 185 ⟨"BackVillageModel", "manner", "(III)I"⟩) ∈ GW := gw_10 (i := 213) (by decide +kernel) rfl
theorem kw_2510 : (Cond.instanceMethod ⟨"BackVillageModel", "manner", "(III)I"⟩) ∈ GW := gw_10 (i := 214) (by decide +kernel) rfl
theorem kw_2511 : (Cond.selects "BackVillageModel" ⟨"BackVillageModel", "manner", "(III)I"⟩ ⟨"BackVillageModel", "manner", "(III)I"⟩) ∈ GW := gw_10 (i := 215) (by decide +kernel) rfl
theorem kw_2512 : (Cond.code ⟨"BackVillageModel", "manner", "(III)I"⟩ prog_13_method_90_code 4 (some .int)) ∈ GW := gw_10 (i := 216) (by decide +kernel) rfl
theorem kw_2513 : (Cond.methodLink "BackVillageLaw" 214 ⟨"BackVillageModel", "possible", "(II)I"⟩) ∈ GW := gw_10 (i := 217) (by decide +kernel) rfl
theorem kw_2514 : (Cond.instanceMethod ⟨"BackVillageModel", "possible", "(II)I"⟩) ∈ GW := gw_10 (i := 218) (by decide +kernel) rfl
theorem kw_2515 : (Cond.selects "BackVillageModel" ⟨"BackVillageModel", "possible", "(II)I"⟩ ⟨"BackVillageModel", "possible", "(II)I"⟩) ∈ GW := gw_10 (i := 219) (by decide +kernel) rfl
theorem kw_2516 : (Cond.code ⟨"BackVillageModel", "possible", "(II)I"⟩ prog_13_method_91_code 3 (some .int)) ∈ GW := gw_10 (i := 220) (by decide +kernel) rfl
theorem kw_2517 : (Cond.methodLink "BackVillageLaw" 217 ⟨"BackVillageModel", "knows", "(II)I"⟩) ∈ GW := gw_10 (i := 221) (by decide +kernel) rfl
theorem kw_2518 : (Cond.instanceMethod ⟨"BackVillageModel", "knows", "(II)I"⟩) ∈ GW := gw_10 (i := 222) (by decide +kernel) rfl
theorem kw_2519 : (Cond.selects "BackVillageModel" ⟨"BackVillageModel", "knows", "(II)I"⟩ ⟨"BackVillageModel", "knows", "(II)I"⟩) ∈ GW := gw_10 (i := 223) (by decide +kernel) rfl
theorem kw_2520 : (Cond.code ⟨"BackVillageModel", "knows", "(II)I"⟩ prog_13_method_93_code 3 (some .int)) ∈ GW := gw_10 (i := 224) (by decide +kernel) rfl
theorem kw_2525 : (Cond.methodLink "BackVillageLaw" 220 ⟨"BackVillageModel", "thinks", "(III)Z"⟩) ∈ GW := gw_10 (i := 229) (by decide +kernel) rfl
theorem kw_2526 : (Cond.instanceMethod ⟨"BackVillageModel", "thinks", "(III)Z"⟩) ∈ GW := gw_10 (i := 230) (by decide +kernel) rfl
theorem kw_2527 : (Cond.selects "BackVillageModel" ⟨"BackVillageModel", "thinks", "(III)Z"⟩ ⟨"BackVillageModel", "thinks", "(III)Z"⟩) ∈ GW := gw_10 (i := 231) (by decide +kernel) rfl
theorem kw_2528 : (Cond.code ⟨"BackVillageModel", "thinks", "(III)Z"⟩ prog_13_method_94_code 6 (some .boolean)) ∈ GW := gw_10 (i := 232) (by decide +kernel) rfl
theorem kw_2529 : (Cond.methodLink "BackVillageLaw" 223 ⟨"BackVillageModel", "common", "(I)I"⟩) ∈ GW := gw_10 (i := 233) (by decide +kernel) rfl
theorem kw_2530 : (Cond.instanceMethod ⟨"BackVillageModel", "common", "(I)I"⟩) ∈ GW := gw_10 (i := 234) (by decide +kernel) rfl
theorem kw_2531 : (Cond.selects "BackVillageModel" ⟨"BackVillageModel", "common", "(I)I"⟩ ⟨"BackVillageModel", "common", "(I)I"⟩) ∈ GW := gw_10 (i := 235) (by decide +kernel) rfl
theorem kw_2532 : (Cond.code ⟨"BackVillageModel", "common", "(I)I"⟩ prog_13_method_96_code 5 (some .int)) ∈ GW := gw_10 (i := 236) (by decide +kernel) rfl
theorem kw_2537 : (Cond.methodLink "BackVillageLaw" 226 ⟨"BackVillageModel", "muddy", "(I)I"⟩) ∈ GW := gw_11 (i := 1) (by decide +kernel) rfl
theorem kw_2538 : (Cond.instanceMethod ⟨"BackVillageModel", "muddy", "(I)I"⟩) ∈ GW := gw_11 (i := 2) (by decide +kernel) rfl
theorem kw_2539 : (Cond.selects "BackVillageModel" ⟨"BackVillageModel", "muddy", "(I)I"⟩ ⟨"BackVillageModel", "muddy", "(I)I"⟩) ∈ GW := gw_11 (i := 3) (by decide +kernel) rfl
theorem kw_2540 : (Cond.code ⟨"BackVillageModel", "muddy", "(I)I"⟩ prog_13_method_101_code 5 (some .int)) ∈ GW := gw_11 (i := 4) (by decide +kernel) rfl
theorem kw_2549 : (Cond.methodLink "BackVillageLaw" 229 ⟨"BackVillageModel", "backs", "(I)I"⟩) ∈ GW := gw_11 (i := 13) (by decide +kernel) rfl
theorem kw_2550 : (Cond.instanceMethod ⟨"BackVillageModel", "backs", "(I)I"⟩) ∈ GW := gw_11 (i := 14) (by decide +kernel) rfl
theorem kw_2551 : (Cond.selects "BackVillageModel" ⟨"BackVillageModel", "backs", "(I)I"⟩ ⟨"BackVillageModel", "backs", "(I)I"⟩) ∈ GW := gw_11 (i := 15) (by decide +kernel) rfl
theorem kw_2552 : (Cond.code ⟨"BackVillageModel", "backs", "(I)I"⟩ prog_13_method_103_code 4 (some .int)) ∈ GW := gw_11 (i := 16) (by decide +kernel) rfl
theorem kw_2558 : (Cond.methodLink "BackVillageLaw" 232 ⟨"BackVillageModel", "gives", "(I)I"⟩) ∈ GW := gw_11 (i := 22) (by decide +kernel) rfl
theorem kw_2559 : (Cond.instanceMethod ⟨"BackVillageModel", "gives", "(I)I"⟩) ∈ GW := gw_11 (i := 23) (by decide +kernel) rfl
theorem kw_2560 : (Cond.selects "BackVillageModel" ⟨"BackVillageModel", "gives", "(I)I"⟩ ⟨"BackVillageModel", "gives", "(I)I"⟩) ∈ GW := gw_11 (i := 24) (by decide +kernel) rfl
theorem kw_2561 : (Cond.code ⟨"BackVillageModel", "gives", "(I)I"⟩ prog_13_method_106_code 4 (some .int)) ∈ GW := gw_11 (i := 25) (by decide +kernel) rfl
theorem kw_2570 : (Cond.methodLink "BackVillageLaw" 235 ⟨"BackVillageModel", "never", "(I)I"⟩) ∈ GW := gw_11 (i := 34) (by decide +kernel) rfl
theorem kw_2571 : (Cond.instanceMethod ⟨"BackVillageModel", "never", "(I)I"⟩) ∈ GW := gw_11 (i := 35) (by decide +kernel) rfl
theorem kw_2572 : (Cond.selects "BackVillageModel" ⟨"BackVillageModel", "never", "(I)I"⟩ ⟨"BackVillageModel", "never", "(I)I"⟩) ∈ GW := gw_11 (i := 36) (by decide +kernel) rfl
theorem kw_2573 : (Cond.code ⟨"BackVillageModel", "never", "(I)I"⟩ prog_13_method_107_code 6 (some .int)) ∈ GW := gw_11 (i := 37) (by decide +kernel) rfl
theorem kw_2574 : (Cond.methodLink "BackVillageLaw" 238 ⟨"BackVillageModel", "question", "(I)I"⟩) ∈ GW := gw_11 (i := 38) (by decide +kernel) rfl
theorem kw_2575 : (Cond.instanceMethod ⟨"BackVillageModel", "question", "(I)I"⟩) ∈ GW := gw_11 (i := 39) (by decide +kernel) rfl
theorem kw_2576 : (Cond.selects "BackVillageModel" ⟨"BackVillageModel", "question", "(I)I"⟩ ⟨"BackVillageModel", "question", "(I)I"⟩) ∈ GW := gw_11 (i := 40) (by decide +kernel) rfl
theorem kw_2577 : (Cond.code ⟨"BackVillageModel", "question", "(I)I"⟩ prog_13_method_109_code 2 (some .int)) ∈ GW := gw_11 (i := 41) (by decide +kernel) rfl
theorem kw_2582 : (Cond.methodLink "BackVillageLaw" 241 ⟨"BackVillageModel", "queries", "(I)I"⟩) ∈ GW := gw_11 (i := 46) (by decide +kernel) rfl
theorem kw_2583 : (Cond.instanceMethod ⟨"BackVillageModel", "queries", "(I)I"⟩) ∈ GW := gw_11 (i := 47) (by decide +kernel) rfl
theorem kw_2584 : (Cond.selects "BackVillageModel" ⟨"BackVillageModel", "queries", "(I)I"⟩ ⟨"BackVillageModel", "queries", "(I)I"⟩) ∈ GW := gw_11 (i := 48) (by decide +kernel) rfl
theorem kw_2585 : (Cond.code ⟨"BackVillageModel", "queries", "(I)I"⟩ prog_13_method_110_code 7 (some .int)) ∈ GW := gw_11 (i := 49) (by decide +kernel) rfl
theorem kw_2586 : (Cond.methodLink "BackVillageLaw" 244 ⟨"BackVillageModel", "spill", "(I)I"⟩) ∈ GW := gw_11 (i := 50) (by decide +kernel) rfl
theorem kw_2587 : (Cond.instanceMethod ⟨"BackVillageModel", "spill", "(I)I"⟩) ∈ GW := gw_11 (i := 51) (by decide +kernel) rfl
theorem kw_2588 : (Cond.selects "BackVillageModel" ⟨"BackVillageModel", "spill", "(I)I"⟩ ⟨"BackVillageModel", "spill", "(I)I"⟩) ∈ GW := gw_11 (i := 52) (by decide +kernel) rfl
theorem kw_2589 : (Cond.code ⟨"BackVillageModel", "spill", "(I)I"⟩ prog_13_method_112_code 2 (some .int)) ∈ GW := gw_11 (i := 53) (by decide +kernel) rfl
theorem kw_2594 : (Cond.methodLink "BackVillageLaw" 248 ⟨"BackVillageModel", "quiet", "()I"⟩) ∈ GW := gw_11 (i := 58) (by decide +kernel) rfl
theorem kw_2595 : (Cond.instanceMethod ⟨"BackVillageModel", "quiet", "()I"⟩) ∈ GW := gw_11 (i := 59) (by decide +kernel) rfl
theorem kw_2596 : (Cond.selects "BackVillageModel" ⟨"BackVillageModel", "quiet", "()I"⟩ ⟨"BackVillageModel", "quiet", "()I"⟩) ∈ GW := gw_11 (i := 60) (by decide +kernel) rfl
theorem kw_2597 : (Cond.code ⟨"BackVillageModel", "quiet", "()I"⟩ prog_13_method_113_code 3 (some .int)) ∈ GW := gw_11 (i := 61) (by decide +kernel) rfl
theorem kw_2598 : (Cond.methodLink "BackVillageLaw" 252 ⟨"BackVillageModel", "game", "(IZ)I"⟩) ∈ GW := gw_11 (i := 62) (by decide +kernel) rfl
theorem kw_2599 : (Cond.instanceMethod ⟨"BackVillageModel", "game", "(IZ)I"⟩) ∈ GW := gw_11 (i := 63) (by decide +kernel) rfl
theorem kw_2600 : (Cond.selects "BackVillageModel" ⟨"BackVillageModel", "game", "(IZ)I"⟩ ⟨"BackVillageModel", "game", "(IZ)I"⟩) ∈ GW := gw_11 (i := 64) (by decide +kernel) rfl
theorem kw_2601 : (Cond.code ⟨"BackVillageModel", "game", "(IZ)I"⟩ prog_13_method_116_code 5 (some .int)) ∈ GW := gw_11 (i := 65) (by decide +kernel) rfl
theorem kw_2610 : (Cond.methodLink "BackVillageLaw" 255 ⟨"BackVillageModel", "steps", "(II)I"⟩) ∈ GW := gw_11 (i := 74) (by decide +kernel) rfl
theorem kw_2611 : (Cond.instanceMethod ⟨"BackVillageModel", "steps", "(II)I"⟩) ∈ GW := gw_11 (i := 75) (by decide +kernel) rfl
theorem kw_2612 : (Cond.selects "BackVillageModel" ⟨"BackVillageModel", "steps", "(II)I"⟩ ⟨"BackVillageModel", "steps", "(II)I"⟩) ∈ GW := gw_11 (i := 76) (by decide +kernel) rfl
theorem kw_2613 : (Cond.code ⟨"BackVillageModel", "steps", "(II)I"⟩ prog_13_method_117_code 7 (some .int)) ∈ GW := gw_11 (i := 77) (by decide +kernel) rfl
theorem kw_2614 : (Cond.methodLink "BackVillageLaw" 258 ⟨"BackVillageModel", "trial", "(I)I"⟩) ∈ GW := gw_11 (i := 78) (by decide +kernel) rfl
theorem kw_2615 : (Cond.instanceMethod ⟨"BackVillageModel", "trial", "(I)I"⟩) ∈ GW := gw_11 (i := 79) (by decide +kernel) rfl
theorem kw_2616 : (Cond.selects "BackVillageModel" ⟨"BackVillageModel", "trial", "(I)I"⟩ ⟨"BackVillageModel", "trial", "(I)I"⟩) ∈ GW := gw_11 (i := 80) (by decide +kernel) rfl
theorem kw_2617 : (Cond.code ⟨"BackVillageModel", "trial", "(I)I"⟩ prog_13_method_118_code 3 (some .int)) ∈ GW := gw_11 (i := 81) (by decide +kernel) rfl
theorem kw_2626 : (Cond.methodLink "BackVillageLaw" 261 ⟨"BackVillageModel", "span", "(IZ)I"⟩) ∈ GW := gw_11 (i := 90) (by decide +kernel) rfl
theorem kw_2627 : (Cond.instanceMethod ⟨"BackVillageModel", "span", "(IZ)I"⟩) ∈ GW := gw_11 (i := 91) (by decide +kernel) rfl
theorem kw_2628 : (Cond.selects "BackVillageModel" ⟨"BackVillageModel", "span", "(IZ)I"⟩ ⟨"BackVillageModel", "span", "(IZ)I"⟩) ∈ GW := gw_11 (i := 92) (by decide +kernel) rfl
theorem kw_2629 : (Cond.code ⟨"BackVillageModel", "span", "(IZ)I"⟩ prog_13_method_119_code 6 (some .int)) ∈ GW := gw_11 (i := 93) (by decide +kernel) rfl
theorem kw_2631 : (Cond.methodLink "BackVillageLaw" 264 ⟨"BackVillageModel", "nth", "(II)I"⟩) ∈ GW := gw_11 (i := 95) (by decide +kernel) rfl
theorem kw_2632 : (Cond.instanceMethod ⟨"BackVillageModel", "nth", "(II)I"⟩) ∈ GW := gw_11 (i := 96) (by decide +kernel) rfl
theorem kw_2633 : (Cond.selects "BackVillageModel" ⟨"BackVillageModel", "nth", "(II)I"⟩ ⟨"BackVillageModel", "nth", "(II)I"⟩) ∈ GW := gw_11 (i := 97) (by decide +kernel) rfl
theorem kw_2634 : (Cond.code ⟨"BackVillageModel", "nth", "(II)I"⟩ prog_13_method_120_code 5 (some .int)) ∈ GW := gw_11 (i := 98) (by decide +kernel) rfl
theorem kw_2635 : (Cond.methodLink "BackVillageLaw" 267 ⟨"BackVillageModel", "guess", "(I)I"⟩) ∈ GW := gw_11 (i := 99) (by decide +kernel) rfl
theorem kw_2636 : (Cond.instanceMethod ⟨"BackVillageModel", "guess", "(I)I"⟩) ∈ GW := gw_11 (i := 100) (by decide +kernel) rfl
theorem kw_2637 : (Cond.selects "BackVillageModel" ⟨"BackVillageModel", "guess", "(I)I"⟩ ⟨"BackVillageModel", "guess", "(I)I"⟩) ∈ GW := gw_11 (i := 101) (by decide +kernel) rfl
theorem kw_2638 : (Cond.code ⟨"BackVillageModel", "guess", "(I)I"⟩ prog_13_method_123_code 2 (some .int)) ∈ GW := gw_11 (i := 102) (by decide +kernel) rfl
theorem kw_2647 : (Cond.methodLink "BackVillageLaw" 270 ⟨"BackVillageModel", "right", "(I)I"⟩) ∈ GW := gw_11 (i := 111) (by decide +kernel) rfl
theorem kw_2648 : (Cond.instanceMethod ⟨"BackVillageModel", "right", "(I)I"⟩) ∈ GW := gw_11 (i := 112) (by decide +kernel) rfl
theorem kw_2649 : (Cond.selects "BackVillageModel" ⟨"BackVillageModel", "right", "(I)I"⟩ ⟨"BackVillageModel", "right", "(I)I"⟩) ∈ GW := gw_11 (i := 113) (by decide +kernel) rfl
theorem kw_2650 : (Cond.code ⟨"BackVillageModel", "right", "(I)I"⟩ prog_13_method_124_code 4 (some .int)) ∈ GW := gw_11 (i := 114) (by decide +kernel) rfl
theorem kw_2651 : (Cond.methodLink "BackVillageLaw" 273 ⟨"BackVillageModel", "rows", "(I)I"⟩) ∈ GW := gw_11 (i := 115) (by decide +kernel) rfl
theorem kw_2652 : (Cond.instanceMethod ⟨"BackVillageModel", "rows", "(I)I"⟩) ∈ GW := gw_11 (i := 116) (by decide +kernel) rfl
theorem kw_2653 : (Cond.selects "BackVillageModel" ⟨"BackVillageModel", "rows", "(I)I"⟩ ⟨"BackVillageModel", "rows", "(I)I"⟩) ∈ GW := gw_11 (i := 117) (by decide +kernel) rfl
theorem kw_2654 : (Cond.code ⟨"BackVillageModel", "rows", "(I)I"⟩ prog_13_method_127_code 7 (some .int)) ∈ GW := gw_11 (i := 118) (by decide +kernel) rfl
theorem kw_2663 : (Cond.methodLink "BackVillageLaw" 276 ⟨"BackVillageModel", "liars", "(IZ)I"⟩) ∈ GW := gw_11 (i := 127) (by decide +kernel) rfl
theorem kw_2664 : (Cond.instanceMethod ⟨"BackVillageModel", "liars", "(IZ)I"⟩) ∈ GW := gw_11 (i := 128) (by decide +kernel) rfl
theorem kw_2665 : (Cond.selects "BackVillageModel" ⟨"BackVillageModel", "liars", "(IZ)I"⟩ ⟨"BackVillageModel", "liars", "(IZ)I"⟩) ∈ GW := gw_11 (i := 129) (by decide +kernel) rfl
theorem kw_2666 : (Cond.code ⟨"BackVillageModel", "liars", "(IZ)I"⟩ prog_13_method_129_code 7 (some .int)) ∈ GW := gw_11 (i := 130) (by decide +kernel) rfl
theorem kw_2671 : (Cond.methodLink "BackVillageLaw" 279 ⟨"BackVillageModel", "married", "(I)I"⟩) ∈ GW := gw_11 (i := 135) (by decide +kernel) rfl
theorem kw_2672 : (Cond.instanceMethod ⟨"BackVillageModel", "married", "(I)I"⟩) ∈ GW := gw_11 (i := 136) (by decide +kernel) rfl
theorem kw_2673 : (Cond.selects "BackVillageModel" ⟨"BackVillageModel", "married", "(I)I"⟩ ⟨"BackVillageModel", "married", "(I)I"⟩) ∈ GW := gw_11 (i := 137) (by decide +kernel) rfl
theorem kw_2674 : (Cond.code ⟨"BackVillageModel", "married", "(I)I"⟩ prog_13_method_132_code 5 (some .int)) ∈ GW := gw_11 (i := 138) (by decide +kernel) rfl
theorem kw_2683 : (Cond.methodLink "BackVillageLaw" 282 ⟨"BackVillageModel", "led", "(I)I"⟩) ∈ GW := gw_11 (i := 147) (by decide +kernel) rfl
theorem kw_2684 : (Cond.instanceMethod ⟨"BackVillageModel", "led", "(I)I"⟩) ∈ GW := gw_11 (i := 148) (by decide +kernel) rfl
theorem kw_2685 : (Cond.selects "BackVillageModel" ⟨"BackVillageModel", "led", "(I)I"⟩ ⟨"BackVillageModel", "led", "(I)I"⟩) ∈ GW := gw_11 (i := 149) (by decide +kernel) rfl
theorem kw_2686 : (Cond.code ⟨"BackVillageModel", "led", "(I)I"⟩ prog_13_method_133_code 3 (some .int)) ∈ GW := gw_11 (i := 150) (by decide +kernel) rfl
theorem kw_2687 : (Cond.methodLink "BackVillageLaw" 286 ⟨"BackVillageModel", "widest", "()I"⟩) ∈ GW := gw_11 (i := 151) (by decide +kernel) rfl
theorem kw_2688 : (Cond.instanceMethod ⟨"BackVillageModel", "widest", "()I"⟩) ∈ GW := gw_11 (i := 152) (by decide +kernel) rfl
theorem kw_2689 : (Cond.selects "BackVillageModel" ⟨"BackVillageModel", "widest", "()I"⟩ ⟨"BackVillageModel", "widest", "()I"⟩) ∈ GW := gw_11 (i := 153) (by decide +kernel) rfl
theorem kw_2690 : (Cond.code ⟨"BackVillageModel", "widest", "()I"⟩ prog_13_method_134_code 3 (some .int)) ∈ GW := gw_11 (i := 154) (by decide +kernel) rfl
theorem kw_2691 : (Cond.methodLink "BackVillageLaw" 290 ⟨"BackVillageModel", "under", "()I"⟩) ∈ GW := gw_11 (i := 155) (by decide +kernel) rfl
theorem kw_2692 : (Cond.instanceMethod ⟨"BackVillageModel", "under", "()I"⟩) ∈ GW := gw_11 (i := 156) (by decide +kernel) rfl
theorem kw_2693 : (Cond.selects "BackVillageModel" ⟨"BackVillageModel", "under", "()I"⟩ ⟨"BackVillageModel", "under", "()I"⟩) ∈ GW := gw_11 (i := 157) (by decide +kernel) rfl
theorem kw_2694 : (Cond.code ⟨"BackVillageModel", "under", "()I"⟩ prog_13_method_136_code 3 (some .int)) ∈ GW := gw_11 (i := 158) (by decide +kernel) rfl
theorem kw_2699 : (Cond.methodLink "BackVillageLaw" 293 ⟨"BackVillageModel", "log", "(II)I"⟩) ∈ GW := gw_11 (i := 163) (by decide +kernel) rfl
theorem kw_2700 : (Cond.instanceMethod ⟨"BackVillageModel", "log", "(II)I"⟩) ∈ GW := gw_11 (i := 164) (by decide +kernel) rfl
theorem kw_2701 : (Cond.selects "BackVillageModel" ⟨"BackVillageModel", "log", "(II)I"⟩ ⟨"BackVillageModel", "log", "(II)I"⟩) ∈ GW := gw_11 (i := 165) (by decide +kernel) rfl
theorem kw_2702 : (Cond.code ⟨"BackVillageModel", "log", "(II)I"⟩ prog_13_method_137_code 3 (some .int)) ∈ GW := gw_11 (i := 166) (by decide +kernel) rfl
theorem kw_2703 : (Cond.methodLink "BackVillageLaw" 297 ⟨"BackVillageModel", "seed", "(I)I"⟩) ∈ GW := gw_11 (i := 167) (by decide +kernel) rfl
theorem kw_2704 : (Cond.instanceMethod ⟨"BackVillageModel", "seed", "(I)I"⟩) ∈ GW := gw_11 (i := 168) (by decide +kernel) rfl
theorem kw_2705 : (Cond.selects "BackVillageModel" ⟨"BackVillageModel", "seed", "(I)I"⟩ ⟨"BackVillageModel", "seed", "(I)I"⟩) ∈ GW := gw_11 (i := 169) (by decide +kernel) rfl
theorem kw_2706 : (Cond.code ⟨"BackVillageModel", "seed", "(I)I"⟩ prog_13_method_138_code 3 (some .int)) ∈ GW := gw_11 (i := 170) (by decide +kernel) rfl
theorem kw_2707 : (Cond.methodLink "BackVillageLaw" 314 ⟨"BackVillageModel", "count", "(I)I"⟩) ∈ GW := gw_11 (i := 171) (by decide +kernel) rfl
theorem kw_2708 : (Cond.instanceMethod ⟨"BackVillageModel", "count", "(I)I"⟩) ∈ GW := gw_11 (i := 172) (by decide +kernel) rfl
theorem kw_2709 : (Cond.selects "BackVillageModel" ⟨"BackVillageModel", "count", "(I)I"⟩ ⟨"BackVillageModel", "count", "(I)I"⟩) ∈ GW := gw_11 (i := 173) (by decide +kernel) rfl
theorem kw_2710 : (Cond.code ⟨"BackVillageModel", "count", "(I)I"⟩ prog_13_method_139_code 4 (some .int)) ∈ GW := gw_11 (i := 174) (by decide +kernel) rfl
theorem dL_law__0 : decode cL_law_ 0 = .ok (.new 8, 3) := by decide +kernel
theorem dL_law__3 : decode cL_law_ 3 = .ok (.dup, 1) := by decide +kernel
theorem dL_law__4 : decode cL_law_ 4 = .ok (.invokespecial 139, 3) := by decide +kernel
theorem dL_law__7 : decode cL_law_ 7 = .ok (.astore_n 1, 1) := by decide +kernel
theorem dL_law__8 : decode cL_law_ 8 = .ok (.new 140, 3) := by decide +kernel
theorem dL_law__11 : decode cL_law_ 11 = .ok (.dup, 1) := by decide +kernel
theorem dL_law__12 : decode cL_law_ 12 = .ok (.invokespecial 142, 3) := by decide +kernel
theorem dL_law__15 : decode cL_law_ 15 = .ok (.astore_n 2, 1) := by decide +kernel
theorem dL_law__16 : decode cL_law_ 16 = .ok (.iconst 1, 1) := by decide +kernel
theorem dL_law__17 : decode cL_law_ 17 = .ok (.newarray .long, 2) := by decide +kernel
theorem dL_law__19 : decode cL_law_ 19 = .ok (.astore_n 3, 1) := by decide +kernel
theorem dL_law__20 : decode cL_law_ 20 = .ok (.iconst 0, 1) := by decide +kernel
theorem dL_law__21 : decode cL_law_ 21 = .ok (.istore 4, 2) := by decide +kernel
theorem dL_law__23 : decode cL_law_ 23 = .ok (.iload 4, 2) := by decide +kernel
theorem dL_law__25 : decode cL_law_ 25 = .ok (.aload_n 0, 1) := by decide +kernel
theorem dL_law__26 : decode cL_law_ 26 = .ok (.arraylength, 1) := by decide +kernel
theorem dL_law__27 : decode cL_law_ 27 = .ok (.bipush 6, 2) := by decide +kernel
theorem dL_law__29 : decode cL_law_ 29 = .ok (.isub, 1) := by decide +kernel
theorem dL_law__30 : decode cL_law_ 30 = .ok (.if_icmp .gt 2889, 3) := by decide +kernel
theorem dL_law__33 : decode cL_law_ 33 = .ok (.aload_n 0, 1) := by decide +kernel
theorem dL_law__34 : decode cL_law_ 34 = .ok (.iload 4, 2) := by decide +kernel
theorem dL_law__36 : decode cL_law_ 36 = .ok (.iaload, 1) := by decide +kernel
theorem dL_law__37 : decode cL_law_ 37 = .ok (.bipush 63, 2) := by decide +kernel
theorem dL_law__39 : decode cL_law_ 39 = .ok (.iand, 1) := by decide +kernel
theorem dL_law__40 : decode cL_law_ 40 = .ok (.tableswitch 2873 0 48 #[212, 285, 310, 354, 398, 411, 479, 542, 629, 704, 784, 880, 948, 1011, 1024, 1080, 1148, 1228, 1284, 1352, 1420, 1507, 1563, 1619, 1675, 1731, 1787, 1843, 1899, 1955, 1968, 2052, 2120, 2176, 2260, 2328, 2384, 2440, 2496, 2580, 2636, 2692, 2705, 2718, 2786, 2811, 2824, 2835, 2848], 212) := by decide +kernel
theorem dL_law__252 : decode cL_law_ 252 = .ok (.aload_n 1, 1) := by decide +kernel
theorem dL_law__253 : decode cL_law_ 253 = .ok (.aload_n 0, 1) := by decide +kernel
theorem dL_law__254 : decode cL_law_ 254 = .ok (.iload 4, 2) := by decide +kernel
theorem dL_law__256 : decode cL_law_ 256 = .ok (.iconst 1, 1) := by decide +kernel
theorem dL_law__257 : decode cL_law_ 257 = .ok (.iadd, 1) := by decide +kernel
theorem dL_law__258 : decode cL_law_ 258 = .ok (.iaload, 1) := by decide +kernel
theorem dL_law__259 : decode cL_law_ 259 = .ok (.aload_n 0, 1) := by decide +kernel
theorem dL_law__260 : decode cL_law_ 260 = .ok (.iload 4, 2) := by decide +kernel
theorem dL_law__262 : decode cL_law_ 262 = .ok (.iconst 2, 1) := by decide +kernel
theorem dL_law__263 : decode cL_law_ 263 = .ok (.iadd, 1) := by decide +kernel
theorem dL_law__264 : decode cL_law_ 264 = .ok (.iaload, 1) := by decide +kernel
theorem dL_law__265 : decode cL_law_ 265 = .ok (.aload_n 0, 1) := by decide +kernel
theorem dL_law__266 : decode cL_law_ 266 = .ok (.iload 4, 2) := by decide +kernel
theorem dL_law__268 : decode cL_law_ 268 = .ok (.iconst 3, 1) := by decide +kernel
theorem dL_law__269 : decode cL_law_ 269 = .ok (.iadd, 1) := by decide +kernel
theorem dL_law__270 : decode cL_law_ 270 = .ok (.iaload, 1) := by decide +kernel
theorem dL_law__271 : decode cL_law_ 271 = .ok (.aload_n 0, 1) := by decide +kernel
theorem dL_law__272 : decode cL_law_ 272 = .ok (.iload 4, 2) := by decide +kernel
theorem dL_law__274 : decode cL_law_ 274 = .ok (.iconst 4, 1) := by decide +kernel
theorem dL_law__275 : decode cL_law_ 275 = .ok (.iadd, 1) := by decide +kernel
theorem dL_law__276 : decode cL_law_ 276 = .ok (.iaload, 1) := by decide +kernel
theorem dL_law__277 : decode cL_law_ 277 = .ok (.aload_n 0, 1) := by decide +kernel
theorem dL_law__278 : decode cL_law_ 278 = .ok (.iload 4, 2) := by decide +kernel
theorem dL_law__280 : decode cL_law_ 280 = .ok (.iconst 5, 1) := by decide +kernel
theorem dL_law__281 : decode cL_law_ 281 = .ok (.iadd, 1) := by decide +kernel
theorem dL_law__282 : decode cL_law_ 282 = .ok (.iaload, 1) := by decide +kernel
theorem dL_law__283 : decode cL_law_ 283 = .ok (.invokevirtual 143, 3) := by decide +kernel
theorem dL_law__286 : decode cL_law_ 286 = .ok (.aload_n 2, 1) := by decide +kernel
theorem dL_law__287 : decode cL_law_ 287 = .ok (.aload_n 0, 1) := by decide +kernel
theorem dL_law__288 : decode cL_law_ 288 = .ok (.iload 4, 2) := by decide +kernel
theorem dL_law__290 : decode cL_law_ 290 = .ok (.iconst 1, 1) := by decide +kernel
theorem dL_law__291 : decode cL_law_ 291 = .ok (.iadd, 1) := by decide +kernel
theorem dL_law__292 : decode cL_law_ 292 = .ok (.iaload, 1) := by decide +kernel
theorem dL_law__293 : decode cL_law_ 293 = .ok (.aload_n 0, 1) := by decide +kernel
theorem dL_law__294 : decode cL_law_ 294 = .ok (.iload 4, 2) := by decide +kernel
theorem dL_law__296 : decode cL_law_ 296 = .ok (.iconst 2, 1) := by decide +kernel
theorem dL_law__297 : decode cL_law_ 297 = .ok (.iadd, 1) := by decide +kernel
theorem dL_law__298 : decode cL_law_ 298 = .ok (.iaload, 1) := by decide +kernel
theorem dL_law__299 : decode cL_law_ 299 = .ok (.aload_n 0, 1) := by decide +kernel
theorem dL_law__300 : decode cL_law_ 300 = .ok (.iload 4, 2) := by decide +kernel
theorem dL_law__302 : decode cL_law_ 302 = .ok (.iconst 3, 1) := by decide +kernel
theorem dL_law__303 : decode cL_law_ 303 = .ok (.iadd, 1) := by decide +kernel
theorem dL_law__304 : decode cL_law_ 304 = .ok (.iaload, 1) := by decide +kernel
theorem dL_law__305 : decode cL_law_ 305 = .ok (.aload_n 0, 1) := by decide +kernel
theorem dL_law__306 : decode cL_law_ 306 = .ok (.iload 4, 2) := by decide +kernel
theorem dL_law__308 : decode cL_law_ 308 = .ok (.iconst 4, 1) := by decide +kernel
theorem dL_law__309 : decode cL_law_ 309 = .ok (.iadd, 1) := by decide +kernel
theorem dL_law__310 : decode cL_law_ 310 = .ok (.iaload, 1) := by decide +kernel
theorem dL_law__311 : decode cL_law_ 311 = .ok (.aload_n 0, 1) := by decide +kernel
theorem dL_law__312 : decode cL_law_ 312 = .ok (.iload 4, 2) := by decide +kernel
theorem dL_law__314 : decode cL_law_ 314 = .ok (.iconst 5, 1) := by decide +kernel
theorem dL_law__315 : decode cL_law_ 315 = .ok (.iadd, 1) := by decide +kernel
theorem dL_law__316 : decode cL_law_ 316 = .ok (.iaload, 1) := by decide +kernel
theorem dL_law__317 : decode cL_law_ 317 = .ok (.invokevirtual 147, 3) := by decide +kernel
theorem dL_law__320 : decode cL_law_ 320 = .ok (.if_icmp .eq 2593, 3) := by decide +kernel
theorem dL_law__323 : decode cL_law_ 323 = .ok (.iconst 0, 1) := by decide +kernel
theorem dL_law__324 : decode cL_law_ 324 = .ok (.ireturn, 1) := by decide +kernel
theorem dL_law__325 : decode cL_law_ 325 = .ok (.aload_n 1, 1) := by decide +kernel
theorem dL_law__326 : decode cL_law_ 326 = .ok (.aload_n 0, 1) := by decide +kernel
theorem dL_law__327 : decode cL_law_ 327 = .ok (.iload 4, 2) := by decide +kernel
theorem dL_law__329 : decode cL_law_ 329 = .ok (.iconst 1, 1) := by decide +kernel
theorem dL_law__330 : decode cL_law_ 330 = .ok (.iadd, 1) := by decide +kernel
theorem dL_law__331 : decode cL_law_ 331 = .ok (.iaload, 1) := by decide +kernel
theorem dL_law__332 : decode cL_law_ 332 = .ok (.invokevirtual 148, 3) := by decide +kernel
theorem dL_law__335 : decode cL_law_ 335 = .ok (.aload_n 2, 1) := by decide +kernel
theorem dL_law__336 : decode cL_law_ 336 = .ok (.aload_n 0, 1) := by decide +kernel
theorem dL_law__337 : decode cL_law_ 337 = .ok (.iload 4, 2) := by decide +kernel
theorem dL_law__339 : decode cL_law_ 339 = .ok (.iconst 1, 1) := by decide +kernel
theorem dL_law__340 : decode cL_law_ 340 = .ok (.iadd, 1) := by decide +kernel
theorem dL_law__341 : decode cL_law_ 341 = .ok (.iaload, 1) := by decide +kernel
theorem dL_law__342 : decode cL_law_ 342 = .ok (.invokevirtual 151, 3) := by decide +kernel
theorem dL_law__345 : decode cL_law_ 345 = .ok (.if_icmp .eq 2568, 3) := by decide +kernel
theorem dL_law__348 : decode cL_law_ 348 = .ok (.iconst 0, 1) := by decide +kernel
theorem dL_law__349 : decode cL_law_ 349 = .ok (.ireturn, 1) := by decide +kernel
theorem dL_law__350 : decode cL_law_ 350 = .ok (.aload_n 1, 1) := by decide +kernel
theorem dL_law__351 : decode cL_law_ 351 = .ok (.aload_n 3, 1) := by decide +kernel
theorem dL_law__352 : decode cL_law_ 352 = .ok (.invokestatic 152, 3) := by decide +kernel
theorem dL_law__355 : decode cL_law_ 355 = .ok (.istore 5, 2) := by decide +kernel
theorem dL_law__357 : decode cL_law_ 357 = .ok (.aload_n 2, 1) := by decide +kernel
theorem dL_law__358 : decode cL_law_ 358 = .ok (.invokevirtual 157, 3) := by decide +kernel
theorem dL_law__361 : decode cL_law_ 361 = .ok (.istore 6, 2) := by decide +kernel
theorem dL_law__363 : decode cL_law_ 363 = .ok (.aload_n 2, 1) := by decide +kernel
theorem dL_law__364 : decode cL_law_ 364 = .ok (.invokevirtual 158, 3) := by decide +kernel
theorem dL_law__367 : decode cL_law_ 367 = .ok (.iload 5, 2) := by decide +kernel
theorem dL_law__369 : decode cL_law_ 369 = .ok (.if_icmp .eq 5, 3) := by decide +kernel
theorem dL_law__372 : decode cL_law_ 372 = .ok (.iconst 0, 1) := by decide +kernel
theorem dL_law__373 : decode cL_law_ 373 = .ok (.ireturn, 1) := by decide +kernel
theorem dL_law__374 : decode cL_law_ 374 = .ok (.iload 5, 2) := by decide +kernel
theorem dL_law__376 : decode cL_law_ 376 = .ok (.ifCond .ne 15, 3) := by decide +kernel
theorem dL_law__379 : decode cL_law_ 379 = .ok (.aload_n 3, 1) := by decide +kernel
theorem dL_law__380 : decode cL_law_ 380 = .ok (.iconst 0, 1) := by decide +kernel
theorem dL_law__381 : decode cL_law_ 381 = .ok (.laload, 1) := by decide +kernel
theorem dL_law__382 : decode cL_law_ 382 = .ok (.iload 6, 2) := by decide +kernel
theorem dL_law__384 : decode cL_law_ 384 = .ok (.i2l, 1) := by decide +kernel
theorem dL_law__385 : decode cL_law_ 385 = .ok (.lcmp, 1) := by decide +kernel
theorem dL_law__386 : decode cL_law_ 386 = .ok (.ifCond .eq 5, 3) := by decide +kernel
theorem dL_law__389 : decode cL_law_ 389 = .ok (.iconst 0, 1) := by decide +kernel
theorem dL_law__390 : decode cL_law_ 390 = .ok (.ireturn, 1) := by decide +kernel
theorem dL_law__391 : decode cL_law_ 391 = .ok (.goto 2522, 3) := by decide +kernel
theorem dL_law__394 : decode cL_law_ 394 = .ok (.aload_n 1, 1) := by decide +kernel
theorem dL_law__395 : decode cL_law_ 395 = .ok (.aload_n 3, 1) := by decide +kernel
theorem dL_law__396 : decode cL_law_ 396 = .ok (.invokestatic 161, 3) := by decide +kernel
theorem dL_law__399 : decode cL_law_ 399 = .ok (.istore 5, 2) := by decide +kernel
theorem dL_law__401 : decode cL_law_ 401 = .ok (.aload_n 2, 1) := by decide +kernel
theorem dL_law__402 : decode cL_law_ 402 = .ok (.invokevirtual 163, 3) := by decide +kernel
theorem dL_law__405 : decode cL_law_ 405 = .ok (.istore 6, 2) := by decide +kernel
theorem dL_law__407 : decode cL_law_ 407 = .ok (.aload_n 2, 1) := by decide +kernel
theorem dL_law__408 : decode cL_law_ 408 = .ok (.invokevirtual 158, 3) := by decide +kernel
theorem dL_law__411 : decode cL_law_ 411 = .ok (.iload 5, 2) := by decide +kernel
theorem dL_law__413 : decode cL_law_ 413 = .ok (.if_icmp .eq 5, 3) := by decide +kernel
theorem dL_law__416 : decode cL_law_ 416 = .ok (.iconst 0, 1) := by decide +kernel
theorem dL_law__417 : decode cL_law_ 417 = .ok (.ireturn, 1) := by decide +kernel
theorem dL_law__418 : decode cL_law_ 418 = .ok (.iload 5, 2) := by decide +kernel
theorem dL_law__420 : decode cL_law_ 420 = .ok (.ifCond .ne 15, 3) := by decide +kernel
theorem dL_law__423 : decode cL_law_ 423 = .ok (.aload_n 3, 1) := by decide +kernel
theorem dL_law__424 : decode cL_law_ 424 = .ok (.iconst 0, 1) := by decide +kernel
theorem dL_law__425 : decode cL_law_ 425 = .ok (.laload, 1) := by decide +kernel
theorem dL_law__426 : decode cL_law_ 426 = .ok (.iload 6, 2) := by decide +kernel
theorem dL_law__428 : decode cL_law_ 428 = .ok (.i2l, 1) := by decide +kernel
theorem dL_law__429 : decode cL_law_ 429 = .ok (.lcmp, 1) := by decide +kernel
theorem dL_law__430 : decode cL_law_ 430 = .ok (.ifCond .eq 5, 3) := by decide +kernel
theorem dL_law__433 : decode cL_law_ 433 = .ok (.iconst 0, 1) := by decide +kernel
theorem dL_law__434 : decode cL_law_ 434 = .ok (.ireturn, 1) := by decide +kernel
theorem dL_law__435 : decode cL_law_ 435 = .ok (.goto 2478, 3) := by decide +kernel
theorem dL_law__438 : decode cL_law_ 438 = .ok (.aload_n 1, 1) := by decide +kernel
theorem dL_law__439 : decode cL_law_ 439 = .ok (.invokevirtual 164, 3) := by decide +kernel
theorem dL_law__442 : decode cL_law_ 442 = .ok (.aload_n 2, 1) := by decide +kernel
theorem dL_law__443 : decode cL_law_ 443 = .ok (.invokevirtual 167, 3) := by decide +kernel
theorem dL_law__446 : decode cL_law_ 446 = .ok (.if_icmp .eq 2467, 3) := by decide +kernel
theorem dL_law__449 : decode cL_law_ 449 = .ok (.iconst 0, 1) := by decide +kernel
theorem dL_law__450 : decode cL_law_ 450 = .ok (.ireturn, 1) := by decide +kernel
theorem dL_law__451 : decode cL_law_ 451 = .ok (.aload_n 1, 1) := by decide +kernel
theorem dL_law__452 : decode cL_law_ 452 = .ok (.aload_n 0, 1) := by decide +kernel
theorem dL_law__453 : decode cL_law_ 453 = .ok (.iload 4, 2) := by decide +kernel
theorem dL_law__455 : decode cL_law_ 455 = .ok (.iconst 1, 1) := by decide +kernel
theorem dL_law__456 : decode cL_law_ 456 = .ok (.iadd, 1) := by decide +kernel
theorem dL_law__457 : decode cL_law_ 457 = .ok (.iaload, 1) := by decide +kernel
theorem dL_law__458 : decode cL_law_ 458 = .ok (.aload_n 0, 1) := by decide +kernel
theorem dL_law__459 : decode cL_law_ 459 = .ok (.iload 4, 2) := by decide +kernel
theorem dL_law__461 : decode cL_law_ 461 = .ok (.iconst 2, 1) := by decide +kernel
theorem dL_law__462 : decode cL_law_ 462 = .ok (.iadd, 1) := by decide +kernel
theorem dL_law__463 : decode cL_law_ 463 = .ok (.iaload, 1) := by decide +kernel
theorem dL_law__464 : decode cL_law_ 464 = .ok (.aload_n 3, 1) := by decide +kernel
theorem dL_law__465 : decode cL_law_ 465 = .ok (.invokestatic 168, 3) := by decide +kernel
theorem dL_law__468 : decode cL_law_ 468 = .ok (.istore 5, 2) := by decide +kernel
theorem dL_law__470 : decode cL_law_ 470 = .ok (.aload_n 2, 1) := by decide +kernel
theorem dL_law__471 : decode cL_law_ 471 = .ok (.aload_n 0, 1) := by decide +kernel
theorem dL_law__472 : decode cL_law_ 472 = .ok (.iload 4, 2) := by decide +kernel
theorem dL_law__474 : decode cL_law_ 474 = .ok (.iconst 1, 1) := by decide +kernel
theorem dL_law__475 : decode cL_law_ 475 = .ok (.iadd, 1) := by decide +kernel
theorem dL_law__476 : decode cL_law_ 476 = .ok (.iaload, 1) := by decide +kernel
theorem dL_law__477 : decode cL_law_ 477 = .ok (.aload_n 0, 1) := by decide +kernel
theorem dL_law__478 : decode cL_law_ 478 = .ok (.iload 4, 2) := by decide +kernel
theorem dL_law__480 : decode cL_law_ 480 = .ok (.iconst 2, 1) := by decide +kernel
theorem dL_law__481 : decode cL_law_ 481 = .ok (.iadd, 1) := by decide +kernel
theorem dL_law__482 : decode cL_law_ 482 = .ok (.iaload, 1) := by decide +kernel
theorem dL_law__483 : decode cL_law_ 483 = .ok (.invokevirtual 171, 3) := by decide +kernel
theorem dL_law__486 : decode cL_law_ 486 = .ok (.istore 6, 2) := by decide +kernel
theorem dL_law__488 : decode cL_law_ 488 = .ok (.aload_n 2, 1) := by decide +kernel
theorem dL_law__489 : decode cL_law_ 489 = .ok (.invokevirtual 158, 3) := by decide +kernel
theorem dL_law__492 : decode cL_law_ 492 = .ok (.iload 5, 2) := by decide +kernel
theorem dL_law__494 : decode cL_law_ 494 = .ok (.if_icmp .eq 5, 3) := by decide +kernel
theorem dL_law__497 : decode cL_law_ 497 = .ok (.iconst 0, 1) := by decide +kernel
theorem dL_law__498 : decode cL_law_ 498 = .ok (.ireturn, 1) := by decide +kernel
theorem dL_law__499 : decode cL_law_ 499 = .ok (.iload 5, 2) := by decide +kernel
theorem dL_law__501 : decode cL_law_ 501 = .ok (.ifCond .ne 15, 3) := by decide +kernel
theorem dL_law__504 : decode cL_law_ 504 = .ok (.aload_n 3, 1) := by decide +kernel
theorem dL_law__505 : decode cL_law_ 505 = .ok (.iconst 0, 1) := by decide +kernel
theorem dL_law__506 : decode cL_law_ 506 = .ok (.laload, 1) := by decide +kernel
theorem dL_law__507 : decode cL_law_ 507 = .ok (.iload 6, 2) := by decide +kernel
theorem dL_law__509 : decode cL_law_ 509 = .ok (.i2l, 1) := by decide +kernel
theorem dL_law__510 : decode cL_law_ 510 = .ok (.lcmp, 1) := by decide +kernel
theorem dL_law__511 : decode cL_law_ 511 = .ok (.ifCond .eq 5, 3) := by decide +kernel
theorem dL_law__514 : decode cL_law_ 514 = .ok (.iconst 0, 1) := by decide +kernel
theorem dL_law__515 : decode cL_law_ 515 = .ok (.ireturn, 1) := by decide +kernel
theorem dL_law__516 : decode cL_law_ 516 = .ok (.goto 2397, 3) := by decide +kernel
theorem dL_law__519 : decode cL_law_ 519 = .ok (.aload_n 1, 1) := by decide +kernel
theorem dL_law__520 : decode cL_law_ 520 = .ok (.aload_n 0, 1) := by decide +kernel
theorem dL_law__521 : decode cL_law_ 521 = .ok (.iload 4, 2) := by decide +kernel
theorem dL_law__523 : decode cL_law_ 523 = .ok (.iconst 1, 1) := by decide +kernel
theorem dL_law__524 : decode cL_law_ 524 = .ok (.iadd, 1) := by decide +kernel
theorem dL_law__525 : decode cL_law_ 525 = .ok (.iaload, 1) := by decide +kernel
theorem dL_law__526 : decode cL_law_ 526 = .ok (.aload_n 3, 1) := by decide +kernel
theorem dL_law__527 : decode cL_law_ 527 = .ok (.invokestatic 172, 3) := by decide +kernel
theorem dL_law__530 : decode cL_law_ 530 = .ok (.istore 5, 2) := by decide +kernel
theorem dL_law__532 : decode cL_law_ 532 = .ok (.aload_n 2, 1) := by decide +kernel
theorem dL_law__533 : decode cL_law_ 533 = .ok (.aload_n 0, 1) := by decide +kernel
theorem dL_law__534 : decode cL_law_ 534 = .ok (.iload 4, 2) := by decide +kernel
theorem dL_law__536 : decode cL_law_ 536 = .ok (.iconst 1, 1) := by decide +kernel
theorem dL_law__537 : decode cL_law_ 537 = .ok (.iadd, 1) := by decide +kernel
theorem dL_law__538 : decode cL_law_ 538 = .ok (.iaload, 1) := by decide +kernel
theorem dL_law__539 : decode cL_law_ 539 = .ok (.invokevirtual 175, 3) := by decide +kernel
theorem dL_law__542 : decode cL_law_ 542 = .ok (.istore 6, 2) := by decide +kernel
theorem dL_law__544 : decode cL_law_ 544 = .ok (.aload_n 2, 1) := by decide +kernel
theorem dL_law__545 : decode cL_law_ 545 = .ok (.invokevirtual 158, 3) := by decide +kernel
theorem dL_law__548 : decode cL_law_ 548 = .ok (.iload 5, 2) := by decide +kernel
theorem dL_law__550 : decode cL_law_ 550 = .ok (.if_icmp .eq 5, 3) := by decide +kernel
theorem dL_law__553 : decode cL_law_ 553 = .ok (.iconst 0, 1) := by decide +kernel
theorem dL_law__554 : decode cL_law_ 554 = .ok (.ireturn, 1) := by decide +kernel
theorem dL_law__555 : decode cL_law_ 555 = .ok (.iload 5, 2) := by decide +kernel
theorem dL_law__557 : decode cL_law_ 557 = .ok (.ifCond .ne 22, 3) := by decide +kernel
theorem dL_law__560 : decode cL_law_ 560 = .ok (.aload_n 3, 1) := by decide +kernel
theorem dL_law__561 : decode cL_law_ 561 = .ok (.iconst 0, 1) := by decide +kernel
theorem dL_law__562 : decode cL_law_ 562 = .ok (.laload, 1) := by decide +kernel
theorem dL_law__563 : decode cL_law_ 563 = .ok (.iload 6, 2) := by decide +kernel
theorem dL_law__565 : decode cL_law_ 565 = .ok (.ifCond .eq 7, 3) := by decide +kernel
theorem dL_law__568 : decode cL_law_ 568 = .ok (.lconst 1, 1) := by decide +kernel
theorem dL_law__569 : decode cL_law_ 569 = .ok (.goto 4, 3) := by decide +kernel
theorem dL_law__572 : decode cL_law_ 572 = .ok (.lconst 0, 1) := by decide +kernel
theorem dL_law__573 : decode cL_law_ 573 = .ok (.lcmp, 1) := by decide +kernel
theorem dL_law__574 : decode cL_law_ 574 = .ok (.ifCond .eq 5, 3) := by decide +kernel
theorem dL_law__577 : decode cL_law_ 577 = .ok (.iconst 0, 1) := by decide +kernel
theorem dL_law__578 : decode cL_law_ 578 = .ok (.ireturn, 1) := by decide +kernel
theorem dL_law__579 : decode cL_law_ 579 = .ok (.goto 2334, 3) := by decide +kernel
theorem dL_law__582 : decode cL_law_ 582 = .ok (.aload_n 1, 1) := by decide +kernel
theorem dL_law__583 : decode cL_law_ 583 = .ok (.aload_n 0, 1) := by decide +kernel
theorem dL_law__584 : decode cL_law_ 584 = .ok (.iload 4, 2) := by decide +kernel
theorem dL_law__586 : decode cL_law_ 586 = .ok (.iconst 1, 1) := by decide +kernel
theorem dL_law__587 : decode cL_law_ 587 = .ok (.iadd, 1) := by decide +kernel
theorem dL_law__588 : decode cL_law_ 588 = .ok (.iaload, 1) := by decide +kernel
theorem dL_law__589 : decode cL_law_ 589 = .ok (.aload_n 0, 1) := by decide +kernel
theorem dL_law__590 : decode cL_law_ 590 = .ok (.iload 4, 2) := by decide +kernel
theorem dL_law__592 : decode cL_law_ 592 = .ok (.iconst 2, 1) := by decide +kernel
theorem dL_law__593 : decode cL_law_ 593 = .ok (.iadd, 1) := by decide +kernel
theorem dL_law__594 : decode cL_law_ 594 = .ok (.iaload, 1) := by decide +kernel
theorem dL_law__595 : decode cL_law_ 595 = .ok (.aload_n 0, 1) := by decide +kernel
theorem dL_law__596 : decode cL_law_ 596 = .ok (.iload 4, 2) := by decide +kernel
theorem dL_law__598 : decode cL_law_ 598 = .ok (.iconst 3, 1) := by decide +kernel
theorem dL_law__599 : decode cL_law_ 599 = .ok (.iadd, 1) := by decide +kernel
theorem dL_law__600 : decode cL_law_ 600 = .ok (.iaload, 1) := by decide +kernel
theorem dL_law__601 : decode cL_law_ 601 = .ok (.aload_n 3, 1) := by decide +kernel
theorem dL_law__602 : decode cL_law_ 602 = .ok (.invokestatic 176, 3) := by decide +kernel
theorem dL_law__605 : decode cL_law_ 605 = .ok (.istore 5, 2) := by decide +kernel
theorem dL_law__607 : decode cL_law_ 607 = .ok (.aload_n 2, 1) := by decide +kernel
theorem dL_law__608 : decode cL_law_ 608 = .ok (.aload_n 0, 1) := by decide +kernel
theorem dL_law__609 : decode cL_law_ 609 = .ok (.iload 4, 2) := by decide +kernel
theorem dL_law__611 : decode cL_law_ 611 = .ok (.iconst 1, 1) := by decide +kernel
theorem dL_law__612 : decode cL_law_ 612 = .ok (.iadd, 1) := by decide +kernel
theorem dL_law__613 : decode cL_law_ 613 = .ok (.iaload, 1) := by decide +kernel
theorem dL_law__614 : decode cL_law_ 614 = .ok (.aload_n 0, 1) := by decide +kernel
theorem dL_law__615 : decode cL_law_ 615 = .ok (.iload 4, 2) := by decide +kernel
theorem dL_law__617 : decode cL_law_ 617 = .ok (.iconst 2, 1) := by decide +kernel
theorem dL_law__618 : decode cL_law_ 618 = .ok (.iadd, 1) := by decide +kernel
theorem dL_law__619 : decode cL_law_ 619 = .ok (.iaload, 1) := by decide +kernel
theorem dL_law__620 : decode cL_law_ 620 = .ok (.aload_n 0, 1) := by decide +kernel
theorem dL_law__621 : decode cL_law_ 621 = .ok (.iload 4, 2) := by decide +kernel
theorem dL_law__623 : decode cL_law_ 623 = .ok (.iconst 3, 1) := by decide +kernel
theorem dL_law__624 : decode cL_law_ 624 = .ok (.iadd, 1) := by decide +kernel
theorem dL_law__625 : decode cL_law_ 625 = .ok (.iaload, 1) := by decide +kernel
theorem dL_law__626 : decode cL_law_ 626 = .ok (.invokevirtual 179, 3) := by decide +kernel
theorem dL_law__629 : decode cL_law_ 629 = .ok (.istore 6, 2) := by decide +kernel
theorem dL_law__631 : decode cL_law_ 631 = .ok (.aload_n 2, 1) := by decide +kernel
theorem dL_law__632 : decode cL_law_ 632 = .ok (.invokevirtual 158, 3) := by decide +kernel
theorem dL_law__635 : decode cL_law_ 635 = .ok (.iload 5, 2) := by decide +kernel
theorem dL_law__637 : decode cL_law_ 637 = .ok (.if_icmp .eq 5, 3) := by decide +kernel
theorem dL_law__640 : decode cL_law_ 640 = .ok (.iconst 0, 1) := by decide +kernel
theorem dL_law__641 : decode cL_law_ 641 = .ok (.ireturn, 1) := by decide +kernel
theorem dL_law__642 : decode cL_law_ 642 = .ok (.iload 5, 2) := by decide +kernel
theorem dL_law__644 : decode cL_law_ 644 = .ok (.ifCond .ne 22, 3) := by decide +kernel
theorem dL_law__647 : decode cL_law_ 647 = .ok (.aload_n 3, 1) := by decide +kernel
theorem dL_law__648 : decode cL_law_ 648 = .ok (.iconst 0, 1) := by decide +kernel
theorem dL_law__649 : decode cL_law_ 649 = .ok (.laload, 1) := by decide +kernel
theorem dL_law__650 : decode cL_law_ 650 = .ok (.iload 6, 2) := by decide +kernel
theorem dL_law__652 : decode cL_law_ 652 = .ok (.ifCond .eq 7, 3) := by decide +kernel
theorem dL_law__655 : decode cL_law_ 655 = .ok (.lconst 1, 1) := by decide +kernel
theorem dL_law__656 : decode cL_law_ 656 = .ok (.goto 4, 3) := by decide +kernel
theorem dL_law__659 : decode cL_law_ 659 = .ok (.lconst 0, 1) := by decide +kernel
theorem dL_law__660 : decode cL_law_ 660 = .ok (.lcmp, 1) := by decide +kernel
theorem dL_law__661 : decode cL_law_ 661 = .ok (.ifCond .eq 5, 3) := by decide +kernel
theorem dL_law__664 : decode cL_law_ 664 = .ok (.iconst 0, 1) := by decide +kernel
theorem dL_law__665 : decode cL_law_ 665 = .ok (.ireturn, 1) := by decide +kernel
theorem dL_law__666 : decode cL_law_ 666 = .ok (.goto 2247, 3) := by decide +kernel
theorem dL_law__669 : decode cL_law_ 669 = .ok (.aload_n 1, 1) := by decide +kernel
theorem dL_law__670 : decode cL_law_ 670 = .ok (.aload_n 0, 1) := by decide +kernel
theorem dL_law__671 : decode cL_law_ 671 = .ok (.iload 4, 2) := by decide +kernel
theorem dL_law__673 : decode cL_law_ 673 = .ok (.iconst 1, 1) := by decide +kernel
theorem dL_law__674 : decode cL_law_ 674 = .ok (.iadd, 1) := by decide +kernel
theorem dL_law__675 : decode cL_law_ 675 = .ok (.iaload, 1) := by decide +kernel
theorem dL_law__676 : decode cL_law_ 676 = .ok (.aload_n 0, 1) := by decide +kernel
theorem dL_law__677 : decode cL_law_ 677 = .ok (.iload 4, 2) := by decide +kernel
theorem dL_law__679 : decode cL_law_ 679 = .ok (.iconst 2, 1) := by decide +kernel
theorem dL_law__680 : decode cL_law_ 680 = .ok (.iadd, 1) := by decide +kernel
theorem dL_law__681 : decode cL_law_ 681 = .ok (.iaload, 1) := by decide +kernel
theorem dL_law__682 : decode cL_law_ 682 = .ok (.aload_n 3, 1) := by decide +kernel
theorem dL_law__683 : decode cL_law_ 683 = .ok (.invokestatic 180, 3) := by decide +kernel
theorem dL_law__686 : decode cL_law_ 686 = .ok (.istore 5, 2) := by decide +kernel
theorem dL_law__688 : decode cL_law_ 688 = .ok (.aload_n 2, 1) := by decide +kernel
theorem dL_law__689 : decode cL_law_ 689 = .ok (.aload_n 0, 1) := by decide +kernel
theorem dL_law__690 : decode cL_law_ 690 = .ok (.iload 4, 2) := by decide +kernel
theorem dL_law__692 : decode cL_law_ 692 = .ok (.iconst 1, 1) := by decide +kernel
theorem dL_law__693 : decode cL_law_ 693 = .ok (.iadd, 1) := by decide +kernel
theorem dL_law__694 : decode cL_law_ 694 = .ok (.iaload, 1) := by decide +kernel
theorem dL_law__695 : decode cL_law_ 695 = .ok (.aload_n 0, 1) := by decide +kernel
theorem dL_law__696 : decode cL_law_ 696 = .ok (.iload 4, 2) := by decide +kernel
theorem dL_law__698 : decode cL_law_ 698 = .ok (.iconst 2, 1) := by decide +kernel
theorem dL_law__699 : decode cL_law_ 699 = .ok (.iadd, 1) := by decide +kernel
theorem dL_law__700 : decode cL_law_ 700 = .ok (.iaload, 1) := by decide +kernel
theorem dL_law__701 : decode cL_law_ 701 = .ok (.invokevirtual 182, 3) := by decide +kernel
theorem dL_law__704 : decode cL_law_ 704 = .ok (.istore 6, 2) := by decide +kernel
theorem dL_law__706 : decode cL_law_ 706 = .ok (.aload_n 2, 1) := by decide +kernel
theorem dL_law__707 : decode cL_law_ 707 = .ok (.invokevirtual 158, 3) := by decide +kernel
theorem dL_law__710 : decode cL_law_ 710 = .ok (.iload 5, 2) := by decide +kernel
theorem dL_law__712 : decode cL_law_ 712 = .ok (.if_icmp .eq 5, 3) := by decide +kernel
theorem dL_law__715 : decode cL_law_ 715 = .ok (.iconst 0, 1) := by decide +kernel
theorem dL_law__716 : decode cL_law_ 716 = .ok (.ireturn, 1) := by decide +kernel
theorem dL_law__717 : decode cL_law_ 717 = .ok (.iload 5, 2) := by decide +kernel
theorem dL_law__719 : decode cL_law_ 719 = .ok (.ifCond .ne 22, 3) := by decide +kernel
theorem dL_law__722 : decode cL_law_ 722 = .ok (.aload_n 3, 1) := by decide +kernel
theorem dL_law__723 : decode cL_law_ 723 = .ok (.iconst 0, 1) := by decide +kernel
theorem dL_law__724 : decode cL_law_ 724 = .ok (.laload, 1) := by decide +kernel
theorem dL_law__725 : decode cL_law_ 725 = .ok (.iload 6, 2) := by decide +kernel
theorem dL_law__727 : decode cL_law_ 727 = .ok (.ifCond .eq 7, 3) := by decide +kernel
theorem dL_law__730 : decode cL_law_ 730 = .ok (.lconst 1, 1) := by decide +kernel
theorem dL_law__731 : decode cL_law_ 731 = .ok (.goto 4, 3) := by decide +kernel
theorem dL_law__734 : decode cL_law_ 734 = .ok (.lconst 0, 1) := by decide +kernel
theorem dL_law__735 : decode cL_law_ 735 = .ok (.lcmp, 1) := by decide +kernel
theorem dL_law__736 : decode cL_law_ 736 = .ok (.ifCond .eq 5, 3) := by decide +kernel
theorem dL_law__739 : decode cL_law_ 739 = .ok (.iconst 0, 1) := by decide +kernel
theorem dL_law__740 : decode cL_law_ 740 = .ok (.ireturn, 1) := by decide +kernel
theorem dL_law__741 : decode cL_law_ 741 = .ok (.goto 2172, 3) := by decide +kernel
theorem dL_law__744 : decode cL_law_ 744 = .ok (.aload_n 1, 1) := by decide +kernel
theorem dL_law__745 : decode cL_law_ 745 = .ok (.aload_n 0, 1) := by decide +kernel
theorem dL_law__746 : decode cL_law_ 746 = .ok (.iload 4, 2) := by decide +kernel
theorem dL_law__748 : decode cL_law_ 748 = .ok (.iconst 1, 1) := by decide +kernel
theorem dL_law__749 : decode cL_law_ 749 = .ok (.iadd, 1) := by decide +kernel
theorem dL_law__750 : decode cL_law_ 750 = .ok (.iaload, 1) := by decide +kernel
theorem dL_law__751 : decode cL_law_ 751 = .ok (.aload_n 0, 1) := by decide +kernel
theorem dL_law__752 : decode cL_law_ 752 = .ok (.iload 4, 2) := by decide +kernel
theorem dL_law__754 : decode cL_law_ 754 = .ok (.iconst 2, 1) := by decide +kernel
theorem dL_law__755 : decode cL_law_ 755 = .ok (.iadd, 1) := by decide +kernel
theorem dL_law__756 : decode cL_law_ 756 = .ok (.iaload, 1) := by decide +kernel
theorem dL_law__757 : decode cL_law_ 757 = .ok (.aload_n 0, 1) := by decide +kernel
theorem dL_law__758 : decode cL_law_ 758 = .ok (.iload 4, 2) := by decide +kernel
theorem dL_law__760 : decode cL_law_ 760 = .ok (.iconst 3, 1) := by decide +kernel
theorem dL_law__761 : decode cL_law_ 761 = .ok (.iadd, 1) := by decide +kernel
theorem dL_law__762 : decode cL_law_ 762 = .ok (.iaload, 1) := by decide +kernel
theorem dL_law__763 : decode cL_law_ 763 = .ok (.aload_n 3, 1) := by decide +kernel
theorem dL_law__764 : decode cL_law_ 764 = .ok (.invokestatic 183, 3) := by decide +kernel
theorem dL_law__767 : decode cL_law_ 767 = .ok (.istore 5, 2) := by decide +kernel
theorem dL_law__769 : decode cL_law_ 769 = .ok (.aload_n 2, 1) := by decide +kernel
theorem dL_law__770 : decode cL_law_ 770 = .ok (.aload_n 0, 1) := by decide +kernel
theorem dL_law__771 : decode cL_law_ 771 = .ok (.iload 4, 2) := by decide +kernel
theorem dL_law__773 : decode cL_law_ 773 = .ok (.iconst 1, 1) := by decide +kernel
theorem dL_law__774 : decode cL_law_ 774 = .ok (.iadd, 1) := by decide +kernel
theorem dL_law__775 : decode cL_law_ 775 = .ok (.iaload, 1) := by decide +kernel
theorem dL_law__776 : decode cL_law_ 776 = .ok (.aload_n 0, 1) := by decide +kernel
theorem dL_law__777 : decode cL_law_ 777 = .ok (.iload 4, 2) := by decide +kernel
theorem dL_law__779 : decode cL_law_ 779 = .ok (.iconst 2, 1) := by decide +kernel
theorem dL_law__780 : decode cL_law_ 780 = .ok (.iadd, 1) := by decide +kernel
theorem dL_law__781 : decode cL_law_ 781 = .ok (.iaload, 1) := by decide +kernel
theorem dL_law__782 : decode cL_law_ 782 = .ok (.aload_n 0, 1) := by decide +kernel
theorem dL_law__783 : decode cL_law_ 783 = .ok (.iload 4, 2) := by decide +kernel
theorem dL_law__785 : decode cL_law_ 785 = .ok (.iconst 3, 1) := by decide +kernel
theorem dL_law__786 : decode cL_law_ 786 = .ok (.iadd, 1) := by decide +kernel
theorem dL_law__787 : decode cL_law_ 787 = .ok (.iaload, 1) := by decide +kernel
theorem dL_law__788 : decode cL_law_ 788 = .ok (.invokevirtual 185, 3) := by decide +kernel
theorem dL_law__791 : decode cL_law_ 791 = .ok (.istore 6, 2) := by decide +kernel
theorem dL_law__793 : decode cL_law_ 793 = .ok (.aload_n 2, 1) := by decide +kernel
theorem dL_law__794 : decode cL_law_ 794 = .ok (.invokevirtual 158, 3) := by decide +kernel
theorem dL_law__797 : decode cL_law_ 797 = .ok (.iload 5, 2) := by decide +kernel
theorem dL_law__799 : decode cL_law_ 799 = .ok (.if_icmp .eq 5, 3) := by decide +kernel
theorem dL_law__802 : decode cL_law_ 802 = .ok (.iconst 0, 1) := by decide +kernel
theorem dL_law__803 : decode cL_law_ 803 = .ok (.ireturn, 1) := by decide +kernel
theorem dL_law__804 : decode cL_law_ 804 = .ok (.iload 5, 2) := by decide +kernel
theorem dL_law__806 : decode cL_law_ 806 = .ok (.ifCond .ne 15, 3) := by decide +kernel
theorem dL_law__809 : decode cL_law_ 809 = .ok (.aload_n 3, 1) := by decide +kernel
theorem dL_law__810 : decode cL_law_ 810 = .ok (.iconst 0, 1) := by decide +kernel
theorem dL_law__811 : decode cL_law_ 811 = .ok (.laload, 1) := by decide +kernel
theorem dL_law__812 : decode cL_law_ 812 = .ok (.iload 6, 2) := by decide +kernel
theorem dL_law__814 : decode cL_law_ 814 = .ok (.i2l, 1) := by decide +kernel
theorem dL_law__815 : decode cL_law_ 815 = .ok (.lcmp, 1) := by decide +kernel
theorem dL_law__816 : decode cL_law_ 816 = .ok (.ifCond .eq 5, 3) := by decide +kernel
theorem dL_law__819 : decode cL_law_ 819 = .ok (.iconst 0, 1) := by decide +kernel
theorem dL_law__820 : decode cL_law_ 820 = .ok (.ireturn, 1) := by decide +kernel
theorem dL_law__821 : decode cL_law_ 821 = .ok (.goto 2092, 3) := by decide +kernel
theorem dL_law__824 : decode cL_law_ 824 = .ok (.aload_n 1, 1) := by decide +kernel
theorem dL_law__825 : decode cL_law_ 825 = .ok (.aload_n 0, 1) := by decide +kernel
theorem dL_law__826 : decode cL_law_ 826 = .ok (.iload 4, 2) := by decide +kernel
theorem dL_law__828 : decode cL_law_ 828 = .ok (.iconst 1, 1) := by decide +kernel
theorem dL_law__829 : decode cL_law_ 829 = .ok (.iadd, 1) := by decide +kernel
theorem dL_law__830 : decode cL_law_ 830 = .ok (.iaload, 1) := by decide +kernel
theorem dL_law__831 : decode cL_law_ 831 = .ok (.aload_n 0, 1) := by decide +kernel
theorem dL_law__832 : decode cL_law_ 832 = .ok (.iload 4, 2) := by decide +kernel
theorem dL_law__834 : decode cL_law_ 834 = .ok (.iconst 2, 1) := by decide +kernel
theorem dL_law__835 : decode cL_law_ 835 = .ok (.iadd, 1) := by decide +kernel
theorem dL_law__836 : decode cL_law_ 836 = .ok (.iaload, 1) := by decide +kernel
theorem dL_law__837 : decode cL_law_ 837 = .ok (.aload_n 0, 1) := by decide +kernel
theorem dL_law__838 : decode cL_law_ 838 = .ok (.iload 4, 2) := by decide +kernel
theorem dL_law__840 : decode cL_law_ 840 = .ok (.iconst 3, 1) := by decide +kernel
theorem dL_law__841 : decode cL_law_ 841 = .ok (.iadd, 1) := by decide +kernel
theorem dL_law__842 : decode cL_law_ 842 = .ok (.iaload, 1) := by decide +kernel
theorem dL_law__843 : decode cL_law_ 843 = .ok (.ifCond .eq 7, 3) := by decide +kernel
theorem dL_law__846 : decode cL_law_ 846 = .ok (.iconst 1, 1) := by decide +kernel
theorem dL_law__847 : decode cL_law_ 847 = .ok (.goto 4, 3) := by decide +kernel
theorem dL_law__850 : decode cL_law_ 850 = .ok (.iconst 0, 1) := by decide +kernel
theorem dL_law__851 : decode cL_law_ 851 = .ok (.aload_n 3, 1) := by decide +kernel
theorem dL_law__852 : decode cL_law_ 852 = .ok (.invokestatic 186, 3) := by decide +kernel
theorem dL_law__855 : decode cL_law_ 855 = .ok (.istore 5, 2) := by decide +kernel
theorem dL_law__857 : decode cL_law_ 857 = .ok (.aload_n 2, 1) := by decide +kernel
theorem dL_law__858 : decode cL_law_ 858 = .ok (.aload_n 0, 1) := by decide +kernel
theorem dL_law__859 : decode cL_law_ 859 = .ok (.iload 4, 2) := by decide +kernel
theorem dL_law__861 : decode cL_law_ 861 = .ok (.iconst 1, 1) := by decide +kernel
theorem dL_law__862 : decode cL_law_ 862 = .ok (.iadd, 1) := by decide +kernel
theorem dL_law__863 : decode cL_law_ 863 = .ok (.iaload, 1) := by decide +kernel
theorem dL_law__864 : decode cL_law_ 864 = .ok (.aload_n 0, 1) := by decide +kernel
theorem dL_law__865 : decode cL_law_ 865 = .ok (.iload 4, 2) := by decide +kernel
theorem dL_law__867 : decode cL_law_ 867 = .ok (.iconst 2, 1) := by decide +kernel
theorem dL_law__868 : decode cL_law_ 868 = .ok (.iadd, 1) := by decide +kernel
theorem dL_law__869 : decode cL_law_ 869 = .ok (.iaload, 1) := by decide +kernel
theorem dL_law__870 : decode cL_law_ 870 = .ok (.aload_n 0, 1) := by decide +kernel
theorem dL_law__871 : decode cL_law_ 871 = .ok (.iload 4, 2) := by decide +kernel
theorem dL_law__873 : decode cL_law_ 873 = .ok (.iconst 3, 1) := by decide +kernel
theorem dL_law__874 : decode cL_law_ 874 = .ok (.iadd, 1) := by decide +kernel
theorem dL_law__875 : decode cL_law_ 875 = .ok (.iaload, 1) := by decide +kernel
theorem dL_law__876 : decode cL_law_ 876 = .ok (.ifCond .eq 7, 3) := by decide +kernel
theorem dL_law__879 : decode cL_law_ 879 = .ok (.iconst 1, 1) := by decide +kernel
theorem dL_law__880 : decode cL_law_ 880 = .ok (.goto 4, 3) := by decide +kernel
theorem dL_law__883 : decode cL_law_ 883 = .ok (.iconst 0, 1) := by decide +kernel
theorem dL_law__884 : decode cL_law_ 884 = .ok (.invokevirtual 189, 3) := by decide +kernel
theorem dL_law__887 : decode cL_law_ 887 = .ok (.istore 6, 2) := by decide +kernel
theorem dL_law__889 : decode cL_law_ 889 = .ok (.aload_n 2, 1) := by decide +kernel
theorem dL_law__890 : decode cL_law_ 890 = .ok (.invokevirtual 158, 3) := by decide +kernel
theorem dL_law__893 : decode cL_law_ 893 = .ok (.iload 5, 2) := by decide +kernel
theorem dL_law__895 : decode cL_law_ 895 = .ok (.if_icmp .eq 5, 3) := by decide +kernel
theorem dL_law__898 : decode cL_law_ 898 = .ok (.iconst 0, 1) := by decide +kernel
theorem dL_law__899 : decode cL_law_ 899 = .ok (.ireturn, 1) := by decide +kernel
theorem dL_law__900 : decode cL_law_ 900 = .ok (.iload 5, 2) := by decide +kernel
theorem dL_law__902 : decode cL_law_ 902 = .ok (.ifCond .ne 15, 3) := by decide +kernel
theorem dL_law__905 : decode cL_law_ 905 = .ok (.aload_n 3, 1) := by decide +kernel
theorem dL_law__906 : decode cL_law_ 906 = .ok (.iconst 0, 1) := by decide +kernel
theorem dL_law__907 : decode cL_law_ 907 = .ok (.laload, 1) := by decide +kernel
theorem dL_law__908 : decode cL_law_ 908 = .ok (.iload 6, 2) := by decide +kernel
theorem dL_law__910 : decode cL_law_ 910 = .ok (.i2l, 1) := by decide +kernel
theorem dL_law__911 : decode cL_law_ 911 = .ok (.lcmp, 1) := by decide +kernel
theorem dL_law__912 : decode cL_law_ 912 = .ok (.ifCond .eq 5, 3) := by decide +kernel
theorem dL_law__915 : decode cL_law_ 915 = .ok (.iconst 0, 1) := by decide +kernel
theorem dL_law__916 : decode cL_law_ 916 = .ok (.ireturn, 1) := by decide +kernel
theorem dL_law__917 : decode cL_law_ 917 = .ok (.goto 1996, 3) := by decide +kernel
theorem dL_law__920 : decode cL_law_ 920 = .ok (.aload_n 1, 1) := by decide +kernel
theorem dL_law__921 : decode cL_law_ 921 = .ok (.aload_n 0, 1) := by decide +kernel
theorem dL_law__922 : decode cL_law_ 922 = .ok (.iload 4, 2) := by decide +kernel
theorem dL_law__924 : decode cL_law_ 924 = .ok (.iconst 1, 1) := by decide +kernel
theorem dL_law__925 : decode cL_law_ 925 = .ok (.iadd, 1) := by decide +kernel
theorem dL_law__926 : decode cL_law_ 926 = .ok (.iaload, 1) := by decide +kernel
theorem dL_law__927 : decode cL_law_ 927 = .ok (.aload_n 0, 1) := by decide +kernel
theorem dL_law__928 : decode cL_law_ 928 = .ok (.iload 4, 2) := by decide +kernel
theorem dL_law__930 : decode cL_law_ 930 = .ok (.iconst 2, 1) := by decide +kernel
theorem dL_law__931 : decode cL_law_ 931 = .ok (.iadd, 1) := by decide +kernel
theorem dL_law__932 : decode cL_law_ 932 = .ok (.iaload, 1) := by decide +kernel
theorem dL_law__933 : decode cL_law_ 933 = .ok (.aload_n 3, 1) := by decide +kernel
theorem dL_law__934 : decode cL_law_ 934 = .ok (.invokestatic 190, 3) := by decide +kernel
theorem dL_law__937 : decode cL_law_ 937 = .ok (.istore 5, 2) := by decide +kernel
theorem dL_law__939 : decode cL_law_ 939 = .ok (.aload_n 2, 1) := by decide +kernel
theorem dL_law__940 : decode cL_law_ 940 = .ok (.aload_n 0, 1) := by decide +kernel
theorem dL_law__941 : decode cL_law_ 941 = .ok (.iload 4, 2) := by decide +kernel
theorem dL_law__943 : decode cL_law_ 943 = .ok (.iconst 1, 1) := by decide +kernel
theorem dL_law__944 : decode cL_law_ 944 = .ok (.iadd, 1) := by decide +kernel
theorem dL_law__945 : decode cL_law_ 945 = .ok (.iaload, 1) := by decide +kernel
theorem dL_law__946 : decode cL_law_ 946 = .ok (.aload_n 0, 1) := by decide +kernel
theorem dL_law__947 : decode cL_law_ 947 = .ok (.iload 4, 2) := by decide +kernel
theorem dL_law__949 : decode cL_law_ 949 = .ok (.iconst 2, 1) := by decide +kernel
theorem dL_law__950 : decode cL_law_ 950 = .ok (.iadd, 1) := by decide +kernel
theorem dL_law__951 : decode cL_law_ 951 = .ok (.iaload, 1) := by decide +kernel
theorem dL_law__952 : decode cL_law_ 952 = .ok (.invokevirtual 192, 3) := by decide +kernel
theorem dL_law__955 : decode cL_law_ 955 = .ok (.istore 6, 2) := by decide +kernel
theorem dL_law__957 : decode cL_law_ 957 = .ok (.aload_n 2, 1) := by decide +kernel
theorem dL_law__958 : decode cL_law_ 958 = .ok (.invokevirtual 158, 3) := by decide +kernel
theorem dL_law__961 : decode cL_law_ 961 = .ok (.iload 5, 2) := by decide +kernel
theorem dL_law__963 : decode cL_law_ 963 = .ok (.if_icmp .eq 5, 3) := by decide +kernel
theorem dL_law__966 : decode cL_law_ 966 = .ok (.iconst 0, 1) := by decide +kernel
theorem dL_law__967 : decode cL_law_ 967 = .ok (.ireturn, 1) := by decide +kernel
theorem dL_law__968 : decode cL_law_ 968 = .ok (.iload 5, 2) := by decide +kernel
theorem dL_law__970 : decode cL_law_ 970 = .ok (.ifCond .ne 15, 3) := by decide +kernel
theorem dL_law__973 : decode cL_law_ 973 = .ok (.aload_n 3, 1) := by decide +kernel
theorem dL_law__974 : decode cL_law_ 974 = .ok (.iconst 0, 1) := by decide +kernel
theorem dL_law__975 : decode cL_law_ 975 = .ok (.laload, 1) := by decide +kernel
theorem dL_law__976 : decode cL_law_ 976 = .ok (.iload 6, 2) := by decide +kernel
theorem dL_law__978 : decode cL_law_ 978 = .ok (.i2l, 1) := by decide +kernel
theorem dL_law__979 : decode cL_law_ 979 = .ok (.lcmp, 1) := by decide +kernel
theorem dL_law__980 : decode cL_law_ 980 = .ok (.ifCond .eq 5, 3) := by decide +kernel
theorem dL_law__983 : decode cL_law_ 983 = .ok (.iconst 0, 1) := by decide +kernel
theorem dL_law__984 : decode cL_law_ 984 = .ok (.ireturn, 1) := by decide +kernel
theorem dL_law__985 : decode cL_law_ 985 = .ok (.goto 1928, 3) := by decide +kernel
theorem dL_law__988 : decode cL_law_ 988 = .ok (.aload_n 1, 1) := by decide +kernel
theorem dL_law__989 : decode cL_law_ 989 = .ok (.aload_n 0, 1) := by decide +kernel
theorem dL_law__990 : decode cL_law_ 990 = .ok (.iload 4, 2) := by decide +kernel
theorem dL_law__992 : decode cL_law_ 992 = .ok (.iconst 1, 1) := by decide +kernel
theorem dL_law__993 : decode cL_law_ 993 = .ok (.iadd, 1) := by decide +kernel
theorem dL_law__994 : decode cL_law_ 994 = .ok (.iaload, 1) := by decide +kernel
theorem dL_law__995 : decode cL_law_ 995 = .ok (.aload_n 3, 1) := by decide +kernel
theorem dL_law__996 : decode cL_law_ 996 = .ok (.invokestatic 193, 3) := by decide +kernel
theorem dL_law__999 : decode cL_law_ 999 = .ok (.istore 5, 2) := by decide +kernel
theorem dL_law__1001 : decode cL_law_ 1001 = .ok (.aload_n 2, 1) := by decide +kernel
theorem dL_law__1002 : decode cL_law_ 1002 = .ok (.aload_n 0, 1) := by decide +kernel
theorem dL_law__1003 : decode cL_law_ 1003 = .ok (.iload 4, 2) := by decide +kernel
theorem dL_law__1005 : decode cL_law_ 1005 = .ok (.iconst 1, 1) := by decide +kernel
theorem dL_law__1006 : decode cL_law_ 1006 = .ok (.iadd, 1) := by decide +kernel
theorem dL_law__1007 : decode cL_law_ 1007 = .ok (.iaload, 1) := by decide +kernel
theorem dL_law__1008 : decode cL_law_ 1008 = .ok (.invokevirtual 195, 3) := by decide +kernel
theorem dL_law__1011 : decode cL_law_ 1011 = .ok (.istore 6, 2) := by decide +kernel
theorem dL_law__1013 : decode cL_law_ 1013 = .ok (.aload_n 2, 1) := by decide +kernel
theorem dL_law__1014 : decode cL_law_ 1014 = .ok (.invokevirtual 158, 3) := by decide +kernel
theorem dL_law__1017 : decode cL_law_ 1017 = .ok (.iload 5, 2) := by decide +kernel
theorem dL_law__1019 : decode cL_law_ 1019 = .ok (.if_icmp .eq 5, 3) := by decide +kernel
theorem dL_law__1022 : decode cL_law_ 1022 = .ok (.iconst 0, 1) := by decide +kernel
theorem dL_law__1023 : decode cL_law_ 1023 = .ok (.ireturn, 1) := by decide +kernel
theorem dL_law__1024 : decode cL_law_ 1024 = .ok (.iload 5, 2) := by decide +kernel
theorem dL_law__1026 : decode cL_law_ 1026 = .ok (.ifCond .ne 22, 3) := by decide +kernel
theorem dL_law__1029 : decode cL_law_ 1029 = .ok (.aload_n 3, 1) := by decide +kernel
theorem dL_law__1030 : decode cL_law_ 1030 = .ok (.iconst 0, 1) := by decide +kernel
theorem dL_law__1031 : decode cL_law_ 1031 = .ok (.laload, 1) := by decide +kernel
theorem dL_law__1032 : decode cL_law_ 1032 = .ok (.iload 6, 2) := by decide +kernel
theorem dL_law__1034 : decode cL_law_ 1034 = .ok (.ifCond .eq 7, 3) := by decide +kernel
theorem dL_law__1037 : decode cL_law_ 1037 = .ok (.lconst 1, 1) := by decide +kernel
theorem dL_law__1038 : decode cL_law_ 1038 = .ok (.goto 4, 3) := by decide +kernel
theorem dL_law__1041 : decode cL_law_ 1041 = .ok (.lconst 0, 1) := by decide +kernel
theorem dL_law__1042 : decode cL_law_ 1042 = .ok (.lcmp, 1) := by decide +kernel
theorem dL_law__1043 : decode cL_law_ 1043 = .ok (.ifCond .eq 5, 3) := by decide +kernel
theorem dL_law__1046 : decode cL_law_ 1046 = .ok (.iconst 0, 1) := by decide +kernel
theorem dL_law__1047 : decode cL_law_ 1047 = .ok (.ireturn, 1) := by decide +kernel
theorem dL_law__1048 : decode cL_law_ 1048 = .ok (.goto 1865, 3) := by decide +kernel
theorem dL_law__1051 : decode cL_law_ 1051 = .ok (.aload_n 1, 1) := by decide +kernel
theorem dL_law__1052 : decode cL_law_ 1052 = .ok (.invokevirtual 196, 3) := by decide +kernel
theorem dL_law__1055 : decode cL_law_ 1055 = .ok (.aload_n 2, 1) := by decide +kernel
theorem dL_law__1056 : decode cL_law_ 1056 = .ok (.invokevirtual 199, 3) := by decide +kernel
theorem dL_law__1059 : decode cL_law_ 1059 = .ok (.if_icmp .eq 1854, 3) := by decide +kernel
theorem dL_law__1062 : decode cL_law_ 1062 = .ok (.iconst 0, 1) := by decide +kernel
theorem dL_law__1063 : decode cL_law_ 1063 = .ok (.ireturn, 1) := by decide +kernel
theorem dL_law__1064 : decode cL_law_ 1064 = .ok (.aload_n 1, 1) := by decide +kernel
theorem dL_law__1065 : decode cL_law_ 1065 = .ok (.aload_n 0, 1) := by decide +kernel
theorem dL_law__1066 : decode cL_law_ 1066 = .ok (.iload 4, 2) := by decide +kernel
theorem dL_law__1068 : decode cL_law_ 1068 = .ok (.iconst 1, 1) := by decide +kernel
theorem dL_law__1069 : decode cL_law_ 1069 = .ok (.iadd, 1) := by decide +kernel
theorem dL_law__1070 : decode cL_law_ 1070 = .ok (.iaload, 1) := by decide +kernel
theorem dL_law__1071 : decode cL_law_ 1071 = .ok (.aload_n 3, 1) := by decide +kernel
theorem dL_law__1072 : decode cL_law_ 1072 = .ok (.invokestatic 200, 3) := by decide +kernel
theorem dL_law__1075 : decode cL_law_ 1075 = .ok (.istore 5, 2) := by decide +kernel
theorem dL_law__1077 : decode cL_law_ 1077 = .ok (.aload_n 2, 1) := by decide +kernel
theorem dL_law__1078 : decode cL_law_ 1078 = .ok (.aload_n 0, 1) := by decide +kernel
theorem dL_law__1079 : decode cL_law_ 1079 = .ok (.iload 4, 2) := by decide +kernel
theorem dL_law__1081 : decode cL_law_ 1081 = .ok (.iconst 1, 1) := by decide +kernel
theorem dL_law__1082 : decode cL_law_ 1082 = .ok (.iadd, 1) := by decide +kernel
theorem dL_law__1083 : decode cL_law_ 1083 = .ok (.iaload, 1) := by decide +kernel
theorem dL_law__1084 : decode cL_law_ 1084 = .ok (.invokevirtual 202, 3) := by decide +kernel
theorem dL_law__1087 : decode cL_law_ 1087 = .ok (.istore 6, 2) := by decide +kernel
theorem dL_law__1089 : decode cL_law_ 1089 = .ok (.aload_n 2, 1) := by decide +kernel
theorem dL_law__1090 : decode cL_law_ 1090 = .ok (.invokevirtual 158, 3) := by decide +kernel
theorem dL_law__1093 : decode cL_law_ 1093 = .ok (.iload 5, 2) := by decide +kernel
theorem dL_law__1095 : decode cL_law_ 1095 = .ok (.if_icmp .eq 5, 3) := by decide +kernel
theorem dL_law__1098 : decode cL_law_ 1098 = .ok (.iconst 0, 1) := by decide +kernel
theorem dL_law__1099 : decode cL_law_ 1099 = .ok (.ireturn, 1) := by decide +kernel
theorem dL_law__1100 : decode cL_law_ 1100 = .ok (.iload 5, 2) := by decide +kernel
theorem dL_law__1102 : decode cL_law_ 1102 = .ok (.ifCond .ne 15, 3) := by decide +kernel
theorem dL_law__1105 : decode cL_law_ 1105 = .ok (.aload_n 3, 1) := by decide +kernel
theorem dL_law__1106 : decode cL_law_ 1106 = .ok (.iconst 0, 1) := by decide +kernel
theorem dL_law__1107 : decode cL_law_ 1107 = .ok (.laload, 1) := by decide +kernel
theorem dL_law__1108 : decode cL_law_ 1108 = .ok (.iload 6, 2) := by decide +kernel
theorem dL_law__1110 : decode cL_law_ 1110 = .ok (.i2l, 1) := by decide +kernel
theorem dL_law__1111 : decode cL_law_ 1111 = .ok (.lcmp, 1) := by decide +kernel
theorem dL_law__1112 : decode cL_law_ 1112 = .ok (.ifCond .eq 5, 3) := by decide +kernel
theorem dL_law__1115 : decode cL_law_ 1115 = .ok (.iconst 0, 1) := by decide +kernel
theorem dL_law__1116 : decode cL_law_ 1116 = .ok (.ireturn, 1) := by decide +kernel
theorem dL_law__1117 : decode cL_law_ 1117 = .ok (.goto 1796, 3) := by decide +kernel
theorem dL_law__1120 : decode cL_law_ 1120 = .ok (.aload_n 1, 1) := by decide +kernel
theorem dL_law__1121 : decode cL_law_ 1121 = .ok (.aload_n 0, 1) := by decide +kernel
theorem dL_law__1122 : decode cL_law_ 1122 = .ok (.iload 4, 2) := by decide +kernel
theorem dL_law__1124 : decode cL_law_ 1124 = .ok (.iconst 1, 1) := by decide +kernel
theorem dL_law__1125 : decode cL_law_ 1125 = .ok (.iadd, 1) := by decide +kernel
theorem dL_law__1126 : decode cL_law_ 1126 = .ok (.iaload, 1) := by decide +kernel
theorem dL_law__1127 : decode cL_law_ 1127 = .ok (.aload_n 0, 1) := by decide +kernel
theorem dL_law__1128 : decode cL_law_ 1128 = .ok (.iload 4, 2) := by decide +kernel
theorem dL_law__1130 : decode cL_law_ 1130 = .ok (.iconst 2, 1) := by decide +kernel
theorem dL_law__1131 : decode cL_law_ 1131 = .ok (.iadd, 1) := by decide +kernel
theorem dL_law__1132 : decode cL_law_ 1132 = .ok (.iaload, 1) := by decide +kernel
theorem dL_law__1133 : decode cL_law_ 1133 = .ok (.aload_n 3, 1) := by decide +kernel
theorem dL_law__1134 : decode cL_law_ 1134 = .ok (.invokestatic 203, 3) := by decide +kernel
theorem dL_law__1137 : decode cL_law_ 1137 = .ok (.istore 5, 2) := by decide +kernel
theorem dL_law__1139 : decode cL_law_ 1139 = .ok (.aload_n 2, 1) := by decide +kernel
theorem dL_law__1140 : decode cL_law_ 1140 = .ok (.aload_n 0, 1) := by decide +kernel
theorem dL_law__1141 : decode cL_law_ 1141 = .ok (.iload 4, 2) := by decide +kernel
theorem dL_law__1143 : decode cL_law_ 1143 = .ok (.iconst 1, 1) := by decide +kernel
theorem dL_law__1144 : decode cL_law_ 1144 = .ok (.iadd, 1) := by decide +kernel
theorem dL_law__1145 : decode cL_law_ 1145 = .ok (.iaload, 1) := by decide +kernel
theorem dL_law__1146 : decode cL_law_ 1146 = .ok (.aload_n 0, 1) := by decide +kernel
theorem dL_law__1147 : decode cL_law_ 1147 = .ok (.iload 4, 2) := by decide +kernel
theorem dL_law__1149 : decode cL_law_ 1149 = .ok (.iconst 2, 1) := by decide +kernel
theorem dL_law__1150 : decode cL_law_ 1150 = .ok (.iadd, 1) := by decide +kernel
theorem dL_law__1151 : decode cL_law_ 1151 = .ok (.iaload, 1) := by decide +kernel
theorem dL_law__1152 : decode cL_law_ 1152 = .ok (.invokevirtual 205, 3) := by decide +kernel
theorem dL_law__1155 : decode cL_law_ 1155 = .ok (.istore 6, 2) := by decide +kernel
theorem dL_law__1157 : decode cL_law_ 1157 = .ok (.aload_n 2, 1) := by decide +kernel
theorem dL_law__1158 : decode cL_law_ 1158 = .ok (.invokevirtual 158, 3) := by decide +kernel
theorem dL_law__1161 : decode cL_law_ 1161 = .ok (.iload 5, 2) := by decide +kernel
theorem dL_law__1163 : decode cL_law_ 1163 = .ok (.if_icmp .eq 5, 3) := by decide +kernel
theorem dL_law__1166 : decode cL_law_ 1166 = .ok (.iconst 0, 1) := by decide +kernel
theorem dL_law__1167 : decode cL_law_ 1167 = .ok (.ireturn, 1) := by decide +kernel
theorem dL_law__1168 : decode cL_law_ 1168 = .ok (.iload 5, 2) := by decide +kernel
theorem dL_law__1170 : decode cL_law_ 1170 = .ok (.ifCond .ne 15, 3) := by decide +kernel
theorem dL_law__1173 : decode cL_law_ 1173 = .ok (.aload_n 3, 1) := by decide +kernel
theorem dL_law__1174 : decode cL_law_ 1174 = .ok (.iconst 0, 1) := by decide +kernel
theorem dL_law__1175 : decode cL_law_ 1175 = .ok (.laload, 1) := by decide +kernel
theorem dL_law__1176 : decode cL_law_ 1176 = .ok (.iload 6, 2) := by decide +kernel
theorem dL_law__1178 : decode cL_law_ 1178 = .ok (.i2l, 1) := by decide +kernel
theorem dL_law__1179 : decode cL_law_ 1179 = .ok (.lcmp, 1) := by decide +kernel
theorem dL_law__1180 : decode cL_law_ 1180 = .ok (.ifCond .eq 5, 3) := by decide +kernel
theorem dL_law__1183 : decode cL_law_ 1183 = .ok (.iconst 0, 1) := by decide +kernel
theorem dL_law__1184 : decode cL_law_ 1184 = .ok (.ireturn, 1) := by decide +kernel
theorem dL_law__1185 : decode cL_law_ 1185 = .ok (.goto 1728, 3) := by decide +kernel
theorem dL_law__1188 : decode cL_law_ 1188 = .ok (.aload_n 1, 1) := by decide +kernel
theorem dL_law__1189 : decode cL_law_ 1189 = .ok (.aload_n 0, 1) := by decide +kernel
theorem dL_law__1190 : decode cL_law_ 1190 = .ok (.iload 4, 2) := by decide +kernel
theorem dL_law__1192 : decode cL_law_ 1192 = .ok (.iconst 1, 1) := by decide +kernel
theorem dL_law__1193 : decode cL_law_ 1193 = .ok (.iadd, 1) := by decide +kernel
theorem dL_law__1194 : decode cL_law_ 1194 = .ok (.iaload, 1) := by decide +kernel
theorem dL_law__1195 : decode cL_law_ 1195 = .ok (.aload_n 0, 1) := by decide +kernel
theorem dL_law__1196 : decode cL_law_ 1196 = .ok (.iload 4, 2) := by decide +kernel
theorem dL_law__1198 : decode cL_law_ 1198 = .ok (.iconst 2, 1) := by decide +kernel
theorem dL_law__1199 : decode cL_law_ 1199 = .ok (.iadd, 1) := by decide +kernel
theorem dL_law__1200 : decode cL_law_ 1200 = .ok (.iaload, 1) := by decide +kernel
theorem dL_law__1201 : decode cL_law_ 1201 = .ok (.aload_n 0, 1) := by decide +kernel
theorem dL_law__1202 : decode cL_law_ 1202 = .ok (.iload 4, 2) := by decide +kernel
theorem dL_law__1204 : decode cL_law_ 1204 = .ok (.iconst 3, 1) := by decide +kernel
theorem dL_law__1205 : decode cL_law_ 1205 = .ok (.iadd, 1) := by decide +kernel
theorem dL_law__1206 : decode cL_law_ 1206 = .ok (.iaload, 1) := by decide +kernel
theorem dL_law__1207 : decode cL_law_ 1207 = .ok (.aload_n 3, 1) := by decide +kernel
theorem dL_law__1208 : decode cL_law_ 1208 = .ok (.invokestatic 206, 3) := by decide +kernel
theorem dL_law__1211 : decode cL_law_ 1211 = .ok (.istore 5, 2) := by decide +kernel
theorem dL_law__1213 : decode cL_law_ 1213 = .ok (.aload_n 2, 1) := by decide +kernel
theorem dL_law__1214 : decode cL_law_ 1214 = .ok (.aload_n 0, 1) := by decide +kernel
theorem dL_law__1215 : decode cL_law_ 1215 = .ok (.iload 4, 2) := by decide +kernel
theorem dL_law__1217 : decode cL_law_ 1217 = .ok (.iconst 1, 1) := by decide +kernel
theorem dL_law__1218 : decode cL_law_ 1218 = .ok (.iadd, 1) := by decide +kernel
theorem dL_law__1219 : decode cL_law_ 1219 = .ok (.iaload, 1) := by decide +kernel
theorem dL_law__1220 : decode cL_law_ 1220 = .ok (.aload_n 0, 1) := by decide +kernel
theorem dL_law__1221 : decode cL_law_ 1221 = .ok (.iload 4, 2) := by decide +kernel
theorem dL_law__1223 : decode cL_law_ 1223 = .ok (.iconst 2, 1) := by decide +kernel
theorem dL_law__1224 : decode cL_law_ 1224 = .ok (.iadd, 1) := by decide +kernel
theorem dL_law__1225 : decode cL_law_ 1225 = .ok (.iaload, 1) := by decide +kernel
theorem dL_law__1226 : decode cL_law_ 1226 = .ok (.aload_n 0, 1) := by decide +kernel
theorem dL_law__1227 : decode cL_law_ 1227 = .ok (.iload 4, 2) := by decide +kernel
theorem dL_law__1229 : decode cL_law_ 1229 = .ok (.iconst 3, 1) := by decide +kernel
theorem dL_law__1230 : decode cL_law_ 1230 = .ok (.iadd, 1) := by decide +kernel
theorem dL_law__1231 : decode cL_law_ 1231 = .ok (.iaload, 1) := by decide +kernel
theorem dL_law__1232 : decode cL_law_ 1232 = .ok (.invokevirtual 208, 3) := by decide +kernel
theorem dL_law__1235 : decode cL_law_ 1235 = .ok (.istore 6, 2) := by decide +kernel
theorem dL_law__1237 : decode cL_law_ 1237 = .ok (.aload_n 2, 1) := by decide +kernel
theorem dL_law__1238 : decode cL_law_ 1238 = .ok (.invokevirtual 158, 3) := by decide +kernel
theorem dL_law__1241 : decode cL_law_ 1241 = .ok (.iload 5, 2) := by decide +kernel
theorem dL_law__1243 : decode cL_law_ 1243 = .ok (.if_icmp .eq 5, 3) := by decide +kernel
theorem dL_law__1246 : decode cL_law_ 1246 = .ok (.iconst 0, 1) := by decide +kernel
theorem dL_law__1247 : decode cL_law_ 1247 = .ok (.ireturn, 1) := by decide +kernel
theorem dL_law__1248 : decode cL_law_ 1248 = .ok (.iload 5, 2) := by decide +kernel
theorem dL_law__1250 : decode cL_law_ 1250 = .ok (.ifCond .ne 15, 3) := by decide +kernel
theorem dL_law__1253 : decode cL_law_ 1253 = .ok (.aload_n 3, 1) := by decide +kernel
theorem dL_law__1254 : decode cL_law_ 1254 = .ok (.iconst 0, 1) := by decide +kernel
theorem dL_law__1255 : decode cL_law_ 1255 = .ok (.laload, 1) := by decide +kernel
theorem dL_law__1256 : decode cL_law_ 1256 = .ok (.iload 6, 2) := by decide +kernel
theorem dL_law__1258 : decode cL_law_ 1258 = .ok (.i2l, 1) := by decide +kernel
theorem dL_law__1259 : decode cL_law_ 1259 = .ok (.lcmp, 1) := by decide +kernel
theorem dL_law__1260 : decode cL_law_ 1260 = .ok (.ifCond .eq 5, 3) := by decide +kernel
theorem dL_law__1263 : decode cL_law_ 1263 = .ok (.iconst 0, 1) := by decide +kernel
theorem dL_law__1264 : decode cL_law_ 1264 = .ok (.ireturn, 1) := by decide +kernel
theorem dL_law__1265 : decode cL_law_ 1265 = .ok (.goto 1648, 3) := by decide +kernel
theorem dL_law__1268 : decode cL_law_ 1268 = .ok (.aload_n 1, 1) := by decide +kernel
theorem dL_law__1269 : decode cL_law_ 1269 = .ok (.aload_n 0, 1) := by decide +kernel
theorem dL_law__1270 : decode cL_law_ 1270 = .ok (.iload 4, 2) := by decide +kernel
theorem dL_law__1272 : decode cL_law_ 1272 = .ok (.iconst 1, 1) := by decide +kernel
theorem dL_law__1273 : decode cL_law_ 1273 = .ok (.iadd, 1) := by decide +kernel
theorem dL_law__1274 : decode cL_law_ 1274 = .ok (.iaload, 1) := by decide +kernel
theorem dL_law__1275 : decode cL_law_ 1275 = .ok (.aload_n 3, 1) := by decide +kernel
theorem dL_law__1276 : decode cL_law_ 1276 = .ok (.invokestatic 209, 3) := by decide +kernel
theorem dL_law__1279 : decode cL_law_ 1279 = .ok (.istore 5, 2) := by decide +kernel
theorem dL_law__1281 : decode cL_law_ 1281 = .ok (.aload_n 2, 1) := by decide +kernel
theorem dL_law__1282 : decode cL_law_ 1282 = .ok (.aload_n 0, 1) := by decide +kernel
theorem dL_law__1283 : decode cL_law_ 1283 = .ok (.iload 4, 2) := by decide +kernel
theorem dL_law__1285 : decode cL_law_ 1285 = .ok (.iconst 1, 1) := by decide +kernel
theorem dL_law__1286 : decode cL_law_ 1286 = .ok (.iadd, 1) := by decide +kernel
theorem dL_law__1287 : decode cL_law_ 1287 = .ok (.iaload, 1) := by decide +kernel
theorem dL_law__1288 : decode cL_law_ 1288 = .ok (.invokevirtual 211, 3) := by decide +kernel
theorem dL_law__1291 : decode cL_law_ 1291 = .ok (.istore 6, 2) := by decide +kernel
theorem dL_law__1293 : decode cL_law_ 1293 = .ok (.aload_n 2, 1) := by decide +kernel
theorem dL_law__1294 : decode cL_law_ 1294 = .ok (.invokevirtual 158, 3) := by decide +kernel
theorem dL_law__1297 : decode cL_law_ 1297 = .ok (.iload 5, 2) := by decide +kernel
theorem dL_law__1299 : decode cL_law_ 1299 = .ok (.if_icmp .eq 5, 3) := by decide +kernel
theorem dL_law__1302 : decode cL_law_ 1302 = .ok (.iconst 0, 1) := by decide +kernel
theorem dL_law__1303 : decode cL_law_ 1303 = .ok (.ireturn, 1) := by decide +kernel
theorem dL_law__1304 : decode cL_law_ 1304 = .ok (.iload 5, 2) := by decide +kernel
theorem dL_law__1306 : decode cL_law_ 1306 = .ok (.ifCond .ne 15, 3) := by decide +kernel
theorem dL_law__1309 : decode cL_law_ 1309 = .ok (.aload_n 3, 1) := by decide +kernel
theorem dL_law__1310 : decode cL_law_ 1310 = .ok (.iconst 0, 1) := by decide +kernel
theorem dL_law__1311 : decode cL_law_ 1311 = .ok (.laload, 1) := by decide +kernel
theorem dL_law__1312 : decode cL_law_ 1312 = .ok (.iload 6, 2) := by decide +kernel
theorem dL_law__1314 : decode cL_law_ 1314 = .ok (.i2l, 1) := by decide +kernel
theorem dL_law__1315 : decode cL_law_ 1315 = .ok (.lcmp, 1) := by decide +kernel
theorem dL_law__1316 : decode cL_law_ 1316 = .ok (.ifCond .eq 5, 3) := by decide +kernel
theorem dL_law__1319 : decode cL_law_ 1319 = .ok (.iconst 0, 1) := by decide +kernel
theorem dL_law__1320 : decode cL_law_ 1320 = .ok (.ireturn, 1) := by decide +kernel
theorem dL_law__1321 : decode cL_law_ 1321 = .ok (.goto 1592, 3) := by decide +kernel
theorem dL_law__1324 : decode cL_law_ 1324 = .ok (.aload_n 1, 1) := by decide +kernel
theorem dL_law__1325 : decode cL_law_ 1325 = .ok (.aload_n 0, 1) := by decide +kernel
theorem dL_law__1326 : decode cL_law_ 1326 = .ok (.iload 4, 2) := by decide +kernel
theorem dL_law__1328 : decode cL_law_ 1328 = .ok (.iconst 1, 1) := by decide +kernel
theorem dL_law__1329 : decode cL_law_ 1329 = .ok (.iadd, 1) := by decide +kernel
theorem dL_law__1330 : decode cL_law_ 1330 = .ok (.iaload, 1) := by decide +kernel
theorem dL_law__1331 : decode cL_law_ 1331 = .ok (.aload_n 0, 1) := by decide +kernel
theorem dL_law__1332 : decode cL_law_ 1332 = .ok (.iload 4, 2) := by decide +kernel
theorem dL_law__1334 : decode cL_law_ 1334 = .ok (.iconst 2, 1) := by decide +kernel
theorem dL_law__1335 : decode cL_law_ 1335 = .ok (.iadd, 1) := by decide +kernel
theorem dL_law__1336 : decode cL_law_ 1336 = .ok (.iaload, 1) := by decide +kernel
theorem dL_law__1337 : decode cL_law_ 1337 = .ok (.aload_n 3, 1) := by decide +kernel
theorem dL_law__1338 : decode cL_law_ 1338 = .ok (.invokestatic 212, 3) := by decide +kernel
theorem dL_law__1341 : decode cL_law_ 1341 = .ok (.istore 5, 2) := by decide +kernel
theorem dL_law__1343 : decode cL_law_ 1343 = .ok (.aload_n 2, 1) := by decide +kernel
theorem dL_law__1344 : decode cL_law_ 1344 = .ok (.aload_n 0, 1) := by decide +kernel
theorem dL_law__1345 : decode cL_law_ 1345 = .ok (.iload 4, 2) := by decide +kernel
theorem dL_law__1347 : decode cL_law_ 1347 = .ok (.iconst 1, 1) := by decide +kernel
theorem dL_law__1348 : decode cL_law_ 1348 = .ok (.iadd, 1) := by decide +kernel
theorem dL_law__1349 : decode cL_law_ 1349 = .ok (.iaload, 1) := by decide +kernel
theorem dL_law__1350 : decode cL_law_ 1350 = .ok (.aload_n 0, 1) := by decide +kernel
theorem dL_law__1351 : decode cL_law_ 1351 = .ok (.iload 4, 2) := by decide +kernel
theorem dL_law__1353 : decode cL_law_ 1353 = .ok (.iconst 2, 1) := by decide +kernel
theorem dL_law__1354 : decode cL_law_ 1354 = .ok (.iadd, 1) := by decide +kernel
theorem dL_law__1355 : decode cL_law_ 1355 = .ok (.iaload, 1) := by decide +kernel
theorem dL_law__1356 : decode cL_law_ 1356 = .ok (.invokevirtual 214, 3) := by decide +kernel
theorem dL_law__1359 : decode cL_law_ 1359 = .ok (.istore 6, 2) := by decide +kernel
theorem dL_law__1361 : decode cL_law_ 1361 = .ok (.aload_n 2, 1) := by decide +kernel
theorem dL_law__1362 : decode cL_law_ 1362 = .ok (.invokevirtual 158, 3) := by decide +kernel
theorem dL_law__1365 : decode cL_law_ 1365 = .ok (.iload 5, 2) := by decide +kernel
theorem dL_law__1367 : decode cL_law_ 1367 = .ok (.if_icmp .eq 5, 3) := by decide +kernel
theorem dL_law__1370 : decode cL_law_ 1370 = .ok (.iconst 0, 1) := by decide +kernel
theorem dL_law__1371 : decode cL_law_ 1371 = .ok (.ireturn, 1) := by decide +kernel
theorem dL_law__1372 : decode cL_law_ 1372 = .ok (.iload 5, 2) := by decide +kernel
theorem dL_law__1374 : decode cL_law_ 1374 = .ok (.ifCond .ne 15, 3) := by decide +kernel
theorem dL_law__1377 : decode cL_law_ 1377 = .ok (.aload_n 3, 1) := by decide +kernel
theorem dL_law__1378 : decode cL_law_ 1378 = .ok (.iconst 0, 1) := by decide +kernel
theorem dL_law__1379 : decode cL_law_ 1379 = .ok (.laload, 1) := by decide +kernel
theorem dL_law__1380 : decode cL_law_ 1380 = .ok (.iload 6, 2) := by decide +kernel
theorem dL_law__1382 : decode cL_law_ 1382 = .ok (.i2l, 1) := by decide +kernel
theorem dL_law__1383 : decode cL_law_ 1383 = .ok (.lcmp, 1) := by decide +kernel
theorem dL_law__1384 : decode cL_law_ 1384 = .ok (.ifCond .eq 5, 3) := by decide +kernel
theorem dL_law__1387 : decode cL_law_ 1387 = .ok (.iconst 0, 1) := by decide +kernel
theorem dL_law__1388 : decode cL_law_ 1388 = .ok (.ireturn, 1) := by decide +kernel
theorem dL_law__1389 : decode cL_law_ 1389 = .ok (.goto 1524, 3) := by decide +kernel
theorem dL_law__1392 : decode cL_law_ 1392 = .ok (.aload_n 1, 1) := by decide +kernel
theorem dL_law__1393 : decode cL_law_ 1393 = .ok (.aload_n 0, 1) := by decide +kernel
theorem dL_law__1394 : decode cL_law_ 1394 = .ok (.iload 4, 2) := by decide +kernel
theorem dL_law__1396 : decode cL_law_ 1396 = .ok (.iconst 1, 1) := by decide +kernel
theorem dL_law__1397 : decode cL_law_ 1397 = .ok (.iadd, 1) := by decide +kernel
theorem dL_law__1398 : decode cL_law_ 1398 = .ok (.iaload, 1) := by decide +kernel
theorem dL_law__1399 : decode cL_law_ 1399 = .ok (.aload_n 0, 1) := by decide +kernel
theorem dL_law__1400 : decode cL_law_ 1400 = .ok (.iload 4, 2) := by decide +kernel
theorem dL_law__1402 : decode cL_law_ 1402 = .ok (.iconst 2, 1) := by decide +kernel
theorem dL_law__1403 : decode cL_law_ 1403 = .ok (.iadd, 1) := by decide +kernel
theorem dL_law__1404 : decode cL_law_ 1404 = .ok (.iaload, 1) := by decide +kernel
theorem dL_law__1405 : decode cL_law_ 1405 = .ok (.aload_n 3, 1) := by decide +kernel
theorem dL_law__1406 : decode cL_law_ 1406 = .ok (.invokestatic 215, 3) := by decide +kernel
theorem dL_law__1409 : decode cL_law_ 1409 = .ok (.istore 5, 2) := by decide +kernel
theorem dL_law__1411 : decode cL_law_ 1411 = .ok (.aload_n 2, 1) := by decide +kernel
theorem dL_law__1412 : decode cL_law_ 1412 = .ok (.aload_n 0, 1) := by decide +kernel
theorem dL_law__1413 : decode cL_law_ 1413 = .ok (.iload 4, 2) := by decide +kernel
theorem dL_law__1415 : decode cL_law_ 1415 = .ok (.iconst 1, 1) := by decide +kernel
theorem dL_law__1416 : decode cL_law_ 1416 = .ok (.iadd, 1) := by decide +kernel
theorem dL_law__1417 : decode cL_law_ 1417 = .ok (.iaload, 1) := by decide +kernel
theorem dL_law__1418 : decode cL_law_ 1418 = .ok (.aload_n 0, 1) := by decide +kernel
theorem dL_law__1419 : decode cL_law_ 1419 = .ok (.iload 4, 2) := by decide +kernel
theorem dL_law__1421 : decode cL_law_ 1421 = .ok (.iconst 2, 1) := by decide +kernel
theorem dL_law__1422 : decode cL_law_ 1422 = .ok (.iadd, 1) := by decide +kernel
theorem dL_law__1423 : decode cL_law_ 1423 = .ok (.iaload, 1) := by decide +kernel
theorem dL_law__1424 : decode cL_law_ 1424 = .ok (.invokevirtual 217, 3) := by decide +kernel
theorem dL_law__1427 : decode cL_law_ 1427 = .ok (.istore 6, 2) := by decide +kernel
theorem dL_law__1429 : decode cL_law_ 1429 = .ok (.aload_n 2, 1) := by decide +kernel
theorem dL_law__1430 : decode cL_law_ 1430 = .ok (.invokevirtual 158, 3) := by decide +kernel
theorem dL_law__1433 : decode cL_law_ 1433 = .ok (.iload 5, 2) := by decide +kernel
theorem dL_law__1435 : decode cL_law_ 1435 = .ok (.if_icmp .eq 5, 3) := by decide +kernel
theorem dL_law__1438 : decode cL_law_ 1438 = .ok (.iconst 0, 1) := by decide +kernel
theorem dL_law__1439 : decode cL_law_ 1439 = .ok (.ireturn, 1) := by decide +kernel
theorem dL_law__1440 : decode cL_law_ 1440 = .ok (.iload 5, 2) := by decide +kernel
theorem dL_law__1442 : decode cL_law_ 1442 = .ok (.ifCond .ne 15, 3) := by decide +kernel
theorem dL_law__1445 : decode cL_law_ 1445 = .ok (.aload_n 3, 1) := by decide +kernel
theorem dL_law__1446 : decode cL_law_ 1446 = .ok (.iconst 0, 1) := by decide +kernel
theorem dL_law__1447 : decode cL_law_ 1447 = .ok (.laload, 1) := by decide +kernel
theorem dL_law__1448 : decode cL_law_ 1448 = .ok (.iload 6, 2) := by decide +kernel
theorem dL_law__1450 : decode cL_law_ 1450 = .ok (.i2l, 1) := by decide +kernel
theorem dL_law__1451 : decode cL_law_ 1451 = .ok (.lcmp, 1) := by decide +kernel
theorem dL_law__1452 : decode cL_law_ 1452 = .ok (.ifCond .eq 5, 3) := by decide +kernel
theorem dL_law__1455 : decode cL_law_ 1455 = .ok (.iconst 0, 1) := by decide +kernel
theorem dL_law__1456 : decode cL_law_ 1456 = .ok (.ireturn, 1) := by decide +kernel
theorem dL_law__1457 : decode cL_law_ 1457 = .ok (.goto 1456, 3) := by decide +kernel
theorem dL_law__1460 : decode cL_law_ 1460 = .ok (.aload_n 1, 1) := by decide +kernel
theorem dL_law__1461 : decode cL_law_ 1461 = .ok (.aload_n 0, 1) := by decide +kernel
theorem dL_law__1462 : decode cL_law_ 1462 = .ok (.iload 4, 2) := by decide +kernel
theorem dL_law__1464 : decode cL_law_ 1464 = .ok (.iconst 1, 1) := by decide +kernel
theorem dL_law__1465 : decode cL_law_ 1465 = .ok (.iadd, 1) := by decide +kernel
theorem dL_law__1466 : decode cL_law_ 1466 = .ok (.iaload, 1) := by decide +kernel
theorem dL_law__1467 : decode cL_law_ 1467 = .ok (.aload_n 0, 1) := by decide +kernel
theorem dL_law__1468 : decode cL_law_ 1468 = .ok (.iload 4, 2) := by decide +kernel
theorem dL_law__1470 : decode cL_law_ 1470 = .ok (.iconst 2, 1) := by decide +kernel
theorem dL_law__1471 : decode cL_law_ 1471 = .ok (.iadd, 1) := by decide +kernel
theorem dL_law__1472 : decode cL_law_ 1472 = .ok (.iaload, 1) := by decide +kernel
theorem dL_law__1473 : decode cL_law_ 1473 = .ok (.aload_n 0, 1) := by decide +kernel
theorem dL_law__1474 : decode cL_law_ 1474 = .ok (.iload 4, 2) := by decide +kernel
theorem dL_law__1476 : decode cL_law_ 1476 = .ok (.iconst 3, 1) := by decide +kernel
theorem dL_law__1477 : decode cL_law_ 1477 = .ok (.iadd, 1) := by decide +kernel
theorem dL_law__1478 : decode cL_law_ 1478 = .ok (.iaload, 1) := by decide +kernel
theorem dL_law__1479 : decode cL_law_ 1479 = .ok (.aload_n 3, 1) := by decide +kernel
theorem dL_law__1480 : decode cL_law_ 1480 = .ok (.invokestatic 218, 3) := by decide +kernel
theorem dL_law__1483 : decode cL_law_ 1483 = .ok (.istore 5, 2) := by decide +kernel
theorem dL_law__1485 : decode cL_law_ 1485 = .ok (.aload_n 2, 1) := by decide +kernel
theorem dL_law__1486 : decode cL_law_ 1486 = .ok (.aload_n 0, 1) := by decide +kernel
theorem dL_law__1487 : decode cL_law_ 1487 = .ok (.iload 4, 2) := by decide +kernel
theorem dL_law__1489 : decode cL_law_ 1489 = .ok (.iconst 1, 1) := by decide +kernel
theorem dL_law__1490 : decode cL_law_ 1490 = .ok (.iadd, 1) := by decide +kernel
theorem dL_law__1491 : decode cL_law_ 1491 = .ok (.iaload, 1) := by decide +kernel
theorem dL_law__1492 : decode cL_law_ 1492 = .ok (.aload_n 0, 1) := by decide +kernel
theorem dL_law__1493 : decode cL_law_ 1493 = .ok (.iload 4, 2) := by decide +kernel
theorem dL_law__1495 : decode cL_law_ 1495 = .ok (.iconst 2, 1) := by decide +kernel
theorem dL_law__1496 : decode cL_law_ 1496 = .ok (.iadd, 1) := by decide +kernel
theorem dL_law__1497 : decode cL_law_ 1497 = .ok (.iaload, 1) := by decide +kernel
theorem dL_law__1498 : decode cL_law_ 1498 = .ok (.aload_n 0, 1) := by decide +kernel
theorem dL_law__1499 : decode cL_law_ 1499 = .ok (.iload 4, 2) := by decide +kernel
theorem dL_law__1501 : decode cL_law_ 1501 = .ok (.iconst 3, 1) := by decide +kernel
theorem dL_law__1502 : decode cL_law_ 1502 = .ok (.iadd, 1) := by decide +kernel
theorem dL_law__1503 : decode cL_law_ 1503 = .ok (.iaload, 1) := by decide +kernel
theorem dL_law__1504 : decode cL_law_ 1504 = .ok (.invokevirtual 220, 3) := by decide +kernel
theorem dL_law__1507 : decode cL_law_ 1507 = .ok (.istore 6, 2) := by decide +kernel
theorem dL_law__1509 : decode cL_law_ 1509 = .ok (.aload_n 2, 1) := by decide +kernel
theorem dL_law__1510 : decode cL_law_ 1510 = .ok (.invokevirtual 158, 3) := by decide +kernel
theorem dL_law__1513 : decode cL_law_ 1513 = .ok (.iload 5, 2) := by decide +kernel
theorem dL_law__1515 : decode cL_law_ 1515 = .ok (.if_icmp .eq 5, 3) := by decide +kernel
theorem dL_law__1518 : decode cL_law_ 1518 = .ok (.iconst 0, 1) := by decide +kernel
theorem dL_law__1519 : decode cL_law_ 1519 = .ok (.ireturn, 1) := by decide +kernel
theorem dL_law__1520 : decode cL_law_ 1520 = .ok (.iload 5, 2) := by decide +kernel
theorem dL_law__1522 : decode cL_law_ 1522 = .ok (.ifCond .ne 22, 3) := by decide +kernel
theorem dL_law__1525 : decode cL_law_ 1525 = .ok (.aload_n 3, 1) := by decide +kernel
theorem dL_law__1526 : decode cL_law_ 1526 = .ok (.iconst 0, 1) := by decide +kernel
theorem dL_law__1527 : decode cL_law_ 1527 = .ok (.laload, 1) := by decide +kernel
theorem dL_law__1528 : decode cL_law_ 1528 = .ok (.iload 6, 2) := by decide +kernel
theorem dL_law__1530 : decode cL_law_ 1530 = .ok (.ifCond .eq 7, 3) := by decide +kernel
theorem dL_law__1533 : decode cL_law_ 1533 = .ok (.lconst 1, 1) := by decide +kernel
theorem dL_law__1534 : decode cL_law_ 1534 = .ok (.goto 4, 3) := by decide +kernel
theorem dL_law__1537 : decode cL_law_ 1537 = .ok (.lconst 0, 1) := by decide +kernel
theorem dL_law__1538 : decode cL_law_ 1538 = .ok (.lcmp, 1) := by decide +kernel
theorem dL_law__1539 : decode cL_law_ 1539 = .ok (.ifCond .eq 5, 3) := by decide +kernel
theorem dL_law__1542 : decode cL_law_ 1542 = .ok (.iconst 0, 1) := by decide +kernel
theorem dL_law__1543 : decode cL_law_ 1543 = .ok (.ireturn, 1) := by decide +kernel
theorem dL_law__1544 : decode cL_law_ 1544 = .ok (.goto 1369, 3) := by decide +kernel
theorem dL_law__1547 : decode cL_law_ 1547 = .ok (.aload_n 1, 1) := by decide +kernel
theorem dL_law__1548 : decode cL_law_ 1548 = .ok (.aload_n 0, 1) := by decide +kernel
theorem dL_law__1549 : decode cL_law_ 1549 = .ok (.iload 4, 2) := by decide +kernel
theorem dL_law__1551 : decode cL_law_ 1551 = .ok (.iconst 1, 1) := by decide +kernel
theorem dL_law__1552 : decode cL_law_ 1552 = .ok (.iadd, 1) := by decide +kernel
theorem dL_law__1553 : decode cL_law_ 1553 = .ok (.iaload, 1) := by decide +kernel
theorem dL_law__1554 : decode cL_law_ 1554 = .ok (.aload_n 3, 1) := by decide +kernel
theorem dL_law__1555 : decode cL_law_ 1555 = .ok (.invokestatic 221, 3) := by decide +kernel
theorem dL_law__1558 : decode cL_law_ 1558 = .ok (.istore 5, 2) := by decide +kernel
theorem dL_law__1560 : decode cL_law_ 1560 = .ok (.aload_n 2, 1) := by decide +kernel
theorem dL_law__1561 : decode cL_law_ 1561 = .ok (.aload_n 0, 1) := by decide +kernel
theorem dL_law__1562 : decode cL_law_ 1562 = .ok (.iload 4, 2) := by decide +kernel
theorem dL_law__1564 : decode cL_law_ 1564 = .ok (.iconst 1, 1) := by decide +kernel
theorem dL_law__1565 : decode cL_law_ 1565 = .ok (.iadd, 1) := by decide +kernel
theorem dL_law__1566 : decode cL_law_ 1566 = .ok (.iaload, 1) := by decide +kernel
theorem dL_law__1567 : decode cL_law_ 1567 = .ok (.invokevirtual 223, 3) := by decide +kernel
theorem dL_law__1570 : decode cL_law_ 1570 = .ok (.istore 6, 2) := by decide +kernel
theorem dL_law__1572 : decode cL_law_ 1572 = .ok (.aload_n 2, 1) := by decide +kernel
theorem dL_law__1573 : decode cL_law_ 1573 = .ok (.invokevirtual 158, 3) := by decide +kernel
theorem dL_law__1576 : decode cL_law_ 1576 = .ok (.iload 5, 2) := by decide +kernel
theorem dL_law__1578 : decode cL_law_ 1578 = .ok (.if_icmp .eq 5, 3) := by decide +kernel
theorem dL_law__1581 : decode cL_law_ 1581 = .ok (.iconst 0, 1) := by decide +kernel
theorem dL_law__1582 : decode cL_law_ 1582 = .ok (.ireturn, 1) := by decide +kernel
theorem dL_law__1583 : decode cL_law_ 1583 = .ok (.iload 5, 2) := by decide +kernel
theorem dL_law__1585 : decode cL_law_ 1585 = .ok (.ifCond .ne 15, 3) := by decide +kernel
theorem dL_law__1588 : decode cL_law_ 1588 = .ok (.aload_n 3, 1) := by decide +kernel
theorem dL_law__1589 : decode cL_law_ 1589 = .ok (.iconst 0, 1) := by decide +kernel
theorem dL_law__1590 : decode cL_law_ 1590 = .ok (.laload, 1) := by decide +kernel
theorem dL_law__1591 : decode cL_law_ 1591 = .ok (.iload 6, 2) := by decide +kernel
theorem dL_law__1593 : decode cL_law_ 1593 = .ok (.i2l, 1) := by decide +kernel
theorem dL_law__1594 : decode cL_law_ 1594 = .ok (.lcmp, 1) := by decide +kernel
theorem dL_law__1595 : decode cL_law_ 1595 = .ok (.ifCond .eq 5, 3) := by decide +kernel
theorem dL_law__1598 : decode cL_law_ 1598 = .ok (.iconst 0, 1) := by decide +kernel
theorem dL_law__1599 : decode cL_law_ 1599 = .ok (.ireturn, 1) := by decide +kernel
theorem dL_law__1600 : decode cL_law_ 1600 = .ok (.goto 1313, 3) := by decide +kernel
theorem dL_law__1603 : decode cL_law_ 1603 = .ok (.aload_n 1, 1) := by decide +kernel
theorem dL_law__1604 : decode cL_law_ 1604 = .ok (.aload_n 0, 1) := by decide +kernel
theorem dL_law__1605 : decode cL_law_ 1605 = .ok (.iload 4, 2) := by decide +kernel
theorem dL_law__1607 : decode cL_law_ 1607 = .ok (.iconst 1, 1) := by decide +kernel
theorem dL_law__1608 : decode cL_law_ 1608 = .ok (.iadd, 1) := by decide +kernel
theorem dL_law__1609 : decode cL_law_ 1609 = .ok (.iaload, 1) := by decide +kernel
theorem dL_law__1610 : decode cL_law_ 1610 = .ok (.aload_n 3, 1) := by decide +kernel
theorem dL_law__1611 : decode cL_law_ 1611 = .ok (.invokestatic 224, 3) := by decide +kernel
theorem dL_law__1614 : decode cL_law_ 1614 = .ok (.istore 5, 2) := by decide +kernel
theorem dL_law__1616 : decode cL_law_ 1616 = .ok (.aload_n 2, 1) := by decide +kernel
theorem dL_law__1617 : decode cL_law_ 1617 = .ok (.aload_n 0, 1) := by decide +kernel
theorem dL_law__1618 : decode cL_law_ 1618 = .ok (.iload 4, 2) := by decide +kernel
theorem dL_law__1620 : decode cL_law_ 1620 = .ok (.iconst 1, 1) := by decide +kernel
theorem dL_law__1621 : decode cL_law_ 1621 = .ok (.iadd, 1) := by decide +kernel
theorem dL_law__1622 : decode cL_law_ 1622 = .ok (.iaload, 1) := by decide +kernel
theorem dL_law__1623 : decode cL_law_ 1623 = .ok (.invokevirtual 226, 3) := by decide +kernel
theorem dL_law__1626 : decode cL_law_ 1626 = .ok (.istore 6, 2) := by decide +kernel
theorem dL_law__1628 : decode cL_law_ 1628 = .ok (.aload_n 2, 1) := by decide +kernel
theorem dL_law__1629 : decode cL_law_ 1629 = .ok (.invokevirtual 158, 3) := by decide +kernel
theorem dL_law__1632 : decode cL_law_ 1632 = .ok (.iload 5, 2) := by decide +kernel
theorem dL_law__1634 : decode cL_law_ 1634 = .ok (.if_icmp .eq 5, 3) := by decide +kernel
theorem dL_law__1637 : decode cL_law_ 1637 = .ok (.iconst 0, 1) := by decide +kernel
theorem dL_law__1638 : decode cL_law_ 1638 = .ok (.ireturn, 1) := by decide +kernel
theorem dL_law__1639 : decode cL_law_ 1639 = .ok (.iload 5, 2) := by decide +kernel
theorem dL_law__1641 : decode cL_law_ 1641 = .ok (.ifCond .ne 15, 3) := by decide +kernel
theorem dL_law__1644 : decode cL_law_ 1644 = .ok (.aload_n 3, 1) := by decide +kernel
theorem dL_law__1645 : decode cL_law_ 1645 = .ok (.iconst 0, 1) := by decide +kernel
theorem dL_law__1646 : decode cL_law_ 1646 = .ok (.laload, 1) := by decide +kernel
theorem dL_law__1647 : decode cL_law_ 1647 = .ok (.iload 6, 2) := by decide +kernel
theorem dL_law__1649 : decode cL_law_ 1649 = .ok (.i2l, 1) := by decide +kernel
theorem dL_law__1650 : decode cL_law_ 1650 = .ok (.lcmp, 1) := by decide +kernel
theorem dL_law__1651 : decode cL_law_ 1651 = .ok (.ifCond .eq 5, 3) := by decide +kernel
theorem dL_law__1654 : decode cL_law_ 1654 = .ok (.iconst 0, 1) := by decide +kernel
theorem dL_law__1655 : decode cL_law_ 1655 = .ok (.ireturn, 1) := by decide +kernel
theorem dL_law__1656 : decode cL_law_ 1656 = .ok (.goto 1257, 3) := by decide +kernel
theorem dL_law__1659 : decode cL_law_ 1659 = .ok (.aload_n 1, 1) := by decide +kernel
theorem dL_law__1660 : decode cL_law_ 1660 = .ok (.aload_n 0, 1) := by decide +kernel
theorem dL_law__1661 : decode cL_law_ 1661 = .ok (.iload 4, 2) := by decide +kernel
theorem dL_law__1663 : decode cL_law_ 1663 = .ok (.iconst 1, 1) := by decide +kernel
theorem dL_law__1664 : decode cL_law_ 1664 = .ok (.iadd, 1) := by decide +kernel
theorem dL_law__1665 : decode cL_law_ 1665 = .ok (.iaload, 1) := by decide +kernel
theorem dL_law__1666 : decode cL_law_ 1666 = .ok (.aload_n 3, 1) := by decide +kernel
theorem dL_law__1667 : decode cL_law_ 1667 = .ok (.invokestatic 227, 3) := by decide +kernel
theorem dL_law__1670 : decode cL_law_ 1670 = .ok (.istore 5, 2) := by decide +kernel
theorem dL_law__1672 : decode cL_law_ 1672 = .ok (.aload_n 2, 1) := by decide +kernel
theorem dL_law__1673 : decode cL_law_ 1673 = .ok (.aload_n 0, 1) := by decide +kernel
theorem dL_law__1674 : decode cL_law_ 1674 = .ok (.iload 4, 2) := by decide +kernel
theorem dL_law__1676 : decode cL_law_ 1676 = .ok (.iconst 1, 1) := by decide +kernel
theorem dL_law__1677 : decode cL_law_ 1677 = .ok (.iadd, 1) := by decide +kernel
theorem dL_law__1678 : decode cL_law_ 1678 = .ok (.iaload, 1) := by decide +kernel
theorem dL_law__1679 : decode cL_law_ 1679 = .ok (.invokevirtual 229, 3) := by decide +kernel
theorem dL_law__1682 : decode cL_law_ 1682 = .ok (.istore 6, 2) := by decide +kernel
theorem dL_law__1684 : decode cL_law_ 1684 = .ok (.aload_n 2, 1) := by decide +kernel
theorem dL_law__1685 : decode cL_law_ 1685 = .ok (.invokevirtual 158, 3) := by decide +kernel
theorem dL_law__1688 : decode cL_law_ 1688 = .ok (.iload 5, 2) := by decide +kernel
theorem dL_law__1690 : decode cL_law_ 1690 = .ok (.if_icmp .eq 5, 3) := by decide +kernel
theorem dL_law__1693 : decode cL_law_ 1693 = .ok (.iconst 0, 1) := by decide +kernel
theorem dL_law__1694 : decode cL_law_ 1694 = .ok (.ireturn, 1) := by decide +kernel
theorem dL_law__1695 : decode cL_law_ 1695 = .ok (.iload 5, 2) := by decide +kernel
theorem dL_law__1697 : decode cL_law_ 1697 = .ok (.ifCond .ne 15, 3) := by decide +kernel
theorem dL_law__1700 : decode cL_law_ 1700 = .ok (.aload_n 3, 1) := by decide +kernel
theorem dL_law__1701 : decode cL_law_ 1701 = .ok (.iconst 0, 1) := by decide +kernel
theorem dL_law__1702 : decode cL_law_ 1702 = .ok (.laload, 1) := by decide +kernel
theorem dL_law__1703 : decode cL_law_ 1703 = .ok (.iload 6, 2) := by decide +kernel
theorem dL_law__1705 : decode cL_law_ 1705 = .ok (.i2l, 1) := by decide +kernel
theorem dL_law__1706 : decode cL_law_ 1706 = .ok (.lcmp, 1) := by decide +kernel
theorem dL_law__1707 : decode cL_law_ 1707 = .ok (.ifCond .eq 5, 3) := by decide +kernel
theorem dL_law__1710 : decode cL_law_ 1710 = .ok (.iconst 0, 1) := by decide +kernel
theorem dL_law__1711 : decode cL_law_ 1711 = .ok (.ireturn, 1) := by decide +kernel
theorem dL_law__1712 : decode cL_law_ 1712 = .ok (.goto 1201, 3) := by decide +kernel
theorem dL_law__1715 : decode cL_law_ 1715 = .ok (.aload_n 1, 1) := by decide +kernel
theorem dL_law__1716 : decode cL_law_ 1716 = .ok (.aload_n 0, 1) := by decide +kernel
theorem dL_law__1717 : decode cL_law_ 1717 = .ok (.iload 4, 2) := by decide +kernel
theorem dL_law__1719 : decode cL_law_ 1719 = .ok (.iconst 1, 1) := by decide +kernel
theorem dL_law__1720 : decode cL_law_ 1720 = .ok (.iadd, 1) := by decide +kernel
theorem dL_law__1721 : decode cL_law_ 1721 = .ok (.iaload, 1) := by decide +kernel
theorem dL_law__1722 : decode cL_law_ 1722 = .ok (.aload_n 3, 1) := by decide +kernel
theorem dL_law__1723 : decode cL_law_ 1723 = .ok (.invokestatic 230, 3) := by decide +kernel
theorem dL_law__1726 : decode cL_law_ 1726 = .ok (.istore 5, 2) := by decide +kernel
theorem dL_law__1728 : decode cL_law_ 1728 = .ok (.aload_n 2, 1) := by decide +kernel
theorem dL_law__1729 : decode cL_law_ 1729 = .ok (.aload_n 0, 1) := by decide +kernel
theorem dL_law__1730 : decode cL_law_ 1730 = .ok (.iload 4, 2) := by decide +kernel
theorem dL_law__1732 : decode cL_law_ 1732 = .ok (.iconst 1, 1) := by decide +kernel
theorem dL_law__1733 : decode cL_law_ 1733 = .ok (.iadd, 1) := by decide +kernel
theorem dL_law__1734 : decode cL_law_ 1734 = .ok (.iaload, 1) := by decide +kernel
theorem dL_law__1735 : decode cL_law_ 1735 = .ok (.invokevirtual 232, 3) := by decide +kernel
theorem dL_law__1738 : decode cL_law_ 1738 = .ok (.istore 6, 2) := by decide +kernel
theorem dL_law__1740 : decode cL_law_ 1740 = .ok (.aload_n 2, 1) := by decide +kernel
theorem dL_law__1741 : decode cL_law_ 1741 = .ok (.invokevirtual 158, 3) := by decide +kernel
theorem dL_law__1744 : decode cL_law_ 1744 = .ok (.iload 5, 2) := by decide +kernel
theorem dL_law__1746 : decode cL_law_ 1746 = .ok (.if_icmp .eq 5, 3) := by decide +kernel
theorem dL_law__1749 : decode cL_law_ 1749 = .ok (.iconst 0, 1) := by decide +kernel
theorem dL_law__1750 : decode cL_law_ 1750 = .ok (.ireturn, 1) := by decide +kernel
theorem dL_law__1751 : decode cL_law_ 1751 = .ok (.iload 5, 2) := by decide +kernel
theorem dL_law__1753 : decode cL_law_ 1753 = .ok (.ifCond .ne 15, 3) := by decide +kernel
theorem dL_law__1756 : decode cL_law_ 1756 = .ok (.aload_n 3, 1) := by decide +kernel
theorem dL_law__1757 : decode cL_law_ 1757 = .ok (.iconst 0, 1) := by decide +kernel
theorem dL_law__1758 : decode cL_law_ 1758 = .ok (.laload, 1) := by decide +kernel
theorem dL_law__1759 : decode cL_law_ 1759 = .ok (.iload 6, 2) := by decide +kernel
theorem dL_law__1761 : decode cL_law_ 1761 = .ok (.i2l, 1) := by decide +kernel
theorem dL_law__1762 : decode cL_law_ 1762 = .ok (.lcmp, 1) := by decide +kernel
theorem dL_law__1763 : decode cL_law_ 1763 = .ok (.ifCond .eq 5, 3) := by decide +kernel
theorem dL_law__1766 : decode cL_law_ 1766 = .ok (.iconst 0, 1) := by decide +kernel
theorem dL_law__1767 : decode cL_law_ 1767 = .ok (.ireturn, 1) := by decide +kernel
theorem dL_law__1768 : decode cL_law_ 1768 = .ok (.goto 1145, 3) := by decide +kernel
theorem dL_law__1771 : decode cL_law_ 1771 = .ok (.aload_n 1, 1) := by decide +kernel
theorem dL_law__1772 : decode cL_law_ 1772 = .ok (.aload_n 0, 1) := by decide +kernel
theorem dL_law__1773 : decode cL_law_ 1773 = .ok (.iload 4, 2) := by decide +kernel
theorem dL_law__1775 : decode cL_law_ 1775 = .ok (.iconst 1, 1) := by decide +kernel
theorem dL_law__1776 : decode cL_law_ 1776 = .ok (.iadd, 1) := by decide +kernel
theorem dL_law__1777 : decode cL_law_ 1777 = .ok (.iaload, 1) := by decide +kernel
theorem dL_law__1778 : decode cL_law_ 1778 = .ok (.aload_n 3, 1) := by decide +kernel
theorem dL_law__1779 : decode cL_law_ 1779 = .ok (.invokestatic 233, 3) := by decide +kernel
theorem dL_law__1782 : decode cL_law_ 1782 = .ok (.istore 5, 2) := by decide +kernel
theorem dL_law__1784 : decode cL_law_ 1784 = .ok (.aload_n 2, 1) := by decide +kernel
theorem dL_law__1785 : decode cL_law_ 1785 = .ok (.aload_n 0, 1) := by decide +kernel
theorem dL_law__1786 : decode cL_law_ 1786 = .ok (.iload 4, 2) := by decide +kernel
theorem dL_law__1788 : decode cL_law_ 1788 = .ok (.iconst 1, 1) := by decide +kernel
theorem dL_law__1789 : decode cL_law_ 1789 = .ok (.iadd, 1) := by decide +kernel
theorem dL_law__1790 : decode cL_law_ 1790 = .ok (.iaload, 1) := by decide +kernel
theorem dL_law__1791 : decode cL_law_ 1791 = .ok (.invokevirtual 235, 3) := by decide +kernel
theorem dL_law__1794 : decode cL_law_ 1794 = .ok (.istore 6, 2) := by decide +kernel
theorem dL_law__1796 : decode cL_law_ 1796 = .ok (.aload_n 2, 1) := by decide +kernel
theorem dL_law__1797 : decode cL_law_ 1797 = .ok (.invokevirtual 158, 3) := by decide +kernel
theorem dL_law__1800 : decode cL_law_ 1800 = .ok (.iload 5, 2) := by decide +kernel
theorem dL_law__1802 : decode cL_law_ 1802 = .ok (.if_icmp .eq 5, 3) := by decide +kernel
theorem dL_law__1805 : decode cL_law_ 1805 = .ok (.iconst 0, 1) := by decide +kernel
theorem dL_law__1806 : decode cL_law_ 1806 = .ok (.ireturn, 1) := by decide +kernel
theorem dL_law__1807 : decode cL_law_ 1807 = .ok (.iload 5, 2) := by decide +kernel
theorem dL_law__1809 : decode cL_law_ 1809 = .ok (.ifCond .ne 15, 3) := by decide +kernel
theorem dL_law__1812 : decode cL_law_ 1812 = .ok (.aload_n 3, 1) := by decide +kernel
theorem dL_law__1813 : decode cL_law_ 1813 = .ok (.iconst 0, 1) := by decide +kernel
theorem dL_law__1814 : decode cL_law_ 1814 = .ok (.laload, 1) := by decide +kernel
theorem dL_law__1815 : decode cL_law_ 1815 = .ok (.iload 6, 2) := by decide +kernel
theorem dL_law__1817 : decode cL_law_ 1817 = .ok (.i2l, 1) := by decide +kernel
theorem dL_law__1818 : decode cL_law_ 1818 = .ok (.lcmp, 1) := by decide +kernel
theorem dL_law__1819 : decode cL_law_ 1819 = .ok (.ifCond .eq 5, 3) := by decide +kernel
theorem dL_law__1822 : decode cL_law_ 1822 = .ok (.iconst 0, 1) := by decide +kernel
theorem dL_law__1823 : decode cL_law_ 1823 = .ok (.ireturn, 1) := by decide +kernel
theorem dL_law__1824 : decode cL_law_ 1824 = .ok (.goto 1089, 3) := by decide +kernel
theorem dL_law__1827 : decode cL_law_ 1827 = .ok (.aload_n 1, 1) := by decide +kernel
theorem dL_law__1828 : decode cL_law_ 1828 = .ok (.aload_n 0, 1) := by decide +kernel
theorem dL_law__1829 : decode cL_law_ 1829 = .ok (.iload 4, 2) := by decide +kernel
theorem dL_law__1831 : decode cL_law_ 1831 = .ok (.iconst 1, 1) := by decide +kernel
theorem dL_law__1832 : decode cL_law_ 1832 = .ok (.iadd, 1) := by decide +kernel
theorem dL_law__1833 : decode cL_law_ 1833 = .ok (.iaload, 1) := by decide +kernel
theorem dL_law__1834 : decode cL_law_ 1834 = .ok (.aload_n 3, 1) := by decide +kernel
theorem dL_law__1835 : decode cL_law_ 1835 = .ok (.invokestatic 236, 3) := by decide +kernel
theorem dL_law__1838 : decode cL_law_ 1838 = .ok (.istore 5, 2) := by decide +kernel
theorem dL_law__1840 : decode cL_law_ 1840 = .ok (.aload_n 2, 1) := by decide +kernel
theorem dL_law__1841 : decode cL_law_ 1841 = .ok (.aload_n 0, 1) := by decide +kernel
theorem dL_law__1842 : decode cL_law_ 1842 = .ok (.iload 4, 2) := by decide +kernel
theorem dL_law__1844 : decode cL_law_ 1844 = .ok (.iconst 1, 1) := by decide +kernel
theorem dL_law__1845 : decode cL_law_ 1845 = .ok (.iadd, 1) := by decide +kernel
theorem dL_law__1846 : decode cL_law_ 1846 = .ok (.iaload, 1) := by decide +kernel
theorem dL_law__1847 : decode cL_law_ 1847 = .ok (.invokevirtual 238, 3) := by decide +kernel
theorem dL_law__1850 : decode cL_law_ 1850 = .ok (.istore 6, 2) := by decide +kernel
theorem dL_law__1852 : decode cL_law_ 1852 = .ok (.aload_n 2, 1) := by decide +kernel
theorem dL_law__1853 : decode cL_law_ 1853 = .ok (.invokevirtual 158, 3) := by decide +kernel
theorem dL_law__1856 : decode cL_law_ 1856 = .ok (.iload 5, 2) := by decide +kernel
theorem dL_law__1858 : decode cL_law_ 1858 = .ok (.if_icmp .eq 5, 3) := by decide +kernel
theorem dL_law__1861 : decode cL_law_ 1861 = .ok (.iconst 0, 1) := by decide +kernel
theorem dL_law__1862 : decode cL_law_ 1862 = .ok (.ireturn, 1) := by decide +kernel
theorem dL_law__1863 : decode cL_law_ 1863 = .ok (.iload 5, 2) := by decide +kernel
theorem dL_law__1865 : decode cL_law_ 1865 = .ok (.ifCond .ne 15, 3) := by decide +kernel
theorem dL_law__1868 : decode cL_law_ 1868 = .ok (.aload_n 3, 1) := by decide +kernel
theorem dL_law__1869 : decode cL_law_ 1869 = .ok (.iconst 0, 1) := by decide +kernel
theorem dL_law__1870 : decode cL_law_ 1870 = .ok (.laload, 1) := by decide +kernel
theorem dL_law__1871 : decode cL_law_ 1871 = .ok (.iload 6, 2) := by decide +kernel
theorem dL_law__1873 : decode cL_law_ 1873 = .ok (.i2l, 1) := by decide +kernel
theorem dL_law__1874 : decode cL_law_ 1874 = .ok (.lcmp, 1) := by decide +kernel
theorem dL_law__1875 : decode cL_law_ 1875 = .ok (.ifCond .eq 5, 3) := by decide +kernel
theorem dL_law__1878 : decode cL_law_ 1878 = .ok (.iconst 0, 1) := by decide +kernel
theorem dL_law__1879 : decode cL_law_ 1879 = .ok (.ireturn, 1) := by decide +kernel
theorem dL_law__1880 : decode cL_law_ 1880 = .ok (.goto 1033, 3) := by decide +kernel
theorem dL_law__1883 : decode cL_law_ 1883 = .ok (.aload_n 1, 1) := by decide +kernel
theorem dL_law__1884 : decode cL_law_ 1884 = .ok (.aload_n 0, 1) := by decide +kernel
theorem dL_law__1885 : decode cL_law_ 1885 = .ok (.iload 4, 2) := by decide +kernel
theorem dL_law__1887 : decode cL_law_ 1887 = .ok (.iconst 1, 1) := by decide +kernel
theorem dL_law__1888 : decode cL_law_ 1888 = .ok (.iadd, 1) := by decide +kernel
theorem dL_law__1889 : decode cL_law_ 1889 = .ok (.iaload, 1) := by decide +kernel
theorem dL_law__1890 : decode cL_law_ 1890 = .ok (.aload_n 3, 1) := by decide +kernel
theorem dL_law__1891 : decode cL_law_ 1891 = .ok (.invokestatic 239, 3) := by decide +kernel
theorem dL_law__1894 : decode cL_law_ 1894 = .ok (.istore 5, 2) := by decide +kernel
theorem dL_law__1896 : decode cL_law_ 1896 = .ok (.aload_n 2, 1) := by decide +kernel
theorem dL_law__1897 : decode cL_law_ 1897 = .ok (.aload_n 0, 1) := by decide +kernel
theorem dL_law__1898 : decode cL_law_ 1898 = .ok (.iload 4, 2) := by decide +kernel
theorem dL_law__1900 : decode cL_law_ 1900 = .ok (.iconst 1, 1) := by decide +kernel
theorem dL_law__1901 : decode cL_law_ 1901 = .ok (.iadd, 1) := by decide +kernel
theorem dL_law__1902 : decode cL_law_ 1902 = .ok (.iaload, 1) := by decide +kernel
theorem dL_law__1903 : decode cL_law_ 1903 = .ok (.invokevirtual 241, 3) := by decide +kernel
theorem dL_law__1906 : decode cL_law_ 1906 = .ok (.istore 6, 2) := by decide +kernel
theorem dL_law__1908 : decode cL_law_ 1908 = .ok (.aload_n 2, 1) := by decide +kernel
theorem dL_law__1909 : decode cL_law_ 1909 = .ok (.invokevirtual 158, 3) := by decide +kernel
theorem dL_law__1912 : decode cL_law_ 1912 = .ok (.iload 5, 2) := by decide +kernel
theorem dL_law__1914 : decode cL_law_ 1914 = .ok (.if_icmp .eq 5, 3) := by decide +kernel
theorem dL_law__1917 : decode cL_law_ 1917 = .ok (.iconst 0, 1) := by decide +kernel
theorem dL_law__1918 : decode cL_law_ 1918 = .ok (.ireturn, 1) := by decide +kernel
theorem dL_law__1919 : decode cL_law_ 1919 = .ok (.iload 5, 2) := by decide +kernel
theorem dL_law__1921 : decode cL_law_ 1921 = .ok (.ifCond .ne 15, 3) := by decide +kernel
theorem dL_law__1924 : decode cL_law_ 1924 = .ok (.aload_n 3, 1) := by decide +kernel
theorem dL_law__1925 : decode cL_law_ 1925 = .ok (.iconst 0, 1) := by decide +kernel
theorem dL_law__1926 : decode cL_law_ 1926 = .ok (.laload, 1) := by decide +kernel
theorem dL_law__1927 : decode cL_law_ 1927 = .ok (.iload 6, 2) := by decide +kernel
theorem dL_law__1929 : decode cL_law_ 1929 = .ok (.i2l, 1) := by decide +kernel
theorem dL_law__1930 : decode cL_law_ 1930 = .ok (.lcmp, 1) := by decide +kernel
theorem dL_law__1931 : decode cL_law_ 1931 = .ok (.ifCond .eq 5, 3) := by decide +kernel
theorem dL_law__1934 : decode cL_law_ 1934 = .ok (.iconst 0, 1) := by decide +kernel
theorem dL_law__1935 : decode cL_law_ 1935 = .ok (.ireturn, 1) := by decide +kernel
theorem dL_law__1936 : decode cL_law_ 1936 = .ok (.goto 977, 3) := by decide +kernel
theorem dL_law__1939 : decode cL_law_ 1939 = .ok (.aload_n 1, 1) := by decide +kernel
theorem dL_law__1940 : decode cL_law_ 1940 = .ok (.aload_n 0, 1) := by decide +kernel
theorem dL_law__1941 : decode cL_law_ 1941 = .ok (.iload 4, 2) := by decide +kernel
theorem dL_law__1943 : decode cL_law_ 1943 = .ok (.iconst 1, 1) := by decide +kernel
theorem dL_law__1944 : decode cL_law_ 1944 = .ok (.iadd, 1) := by decide +kernel
theorem dL_law__1945 : decode cL_law_ 1945 = .ok (.iaload, 1) := by decide +kernel
theorem dL_law__1946 : decode cL_law_ 1946 = .ok (.aload_n 3, 1) := by decide +kernel
theorem dL_law__1947 : decode cL_law_ 1947 = .ok (.invokestatic 242, 3) := by decide +kernel
theorem dL_law__1950 : decode cL_law_ 1950 = .ok (.istore 5, 2) := by decide +kernel
theorem dL_law__1952 : decode cL_law_ 1952 = .ok (.aload_n 2, 1) := by decide +kernel
theorem dL_law__1953 : decode cL_law_ 1953 = .ok (.aload_n 0, 1) := by decide +kernel
theorem dL_law__1954 : decode cL_law_ 1954 = .ok (.iload 4, 2) := by decide +kernel
theorem dL_law__1956 : decode cL_law_ 1956 = .ok (.iconst 1, 1) := by decide +kernel
theorem dL_law__1957 : decode cL_law_ 1957 = .ok (.iadd, 1) := by decide +kernel
theorem dL_law__1958 : decode cL_law_ 1958 = .ok (.iaload, 1) := by decide +kernel
theorem dL_law__1959 : decode cL_law_ 1959 = .ok (.invokevirtual 244, 3) := by decide +kernel
theorem dL_law__1962 : decode cL_law_ 1962 = .ok (.istore 6, 2) := by decide +kernel
theorem dL_law__1964 : decode cL_law_ 1964 = .ok (.aload_n 2, 1) := by decide +kernel
theorem dL_law__1965 : decode cL_law_ 1965 = .ok (.invokevirtual 158, 3) := by decide +kernel
theorem dL_law__1968 : decode cL_law_ 1968 = .ok (.iload 5, 2) := by decide +kernel
theorem dL_law__1970 : decode cL_law_ 1970 = .ok (.if_icmp .eq 5, 3) := by decide +kernel
theorem dL_law__1973 : decode cL_law_ 1973 = .ok (.iconst 0, 1) := by decide +kernel
theorem dL_law__1974 : decode cL_law_ 1974 = .ok (.ireturn, 1) := by decide +kernel
theorem dL_law__1975 : decode cL_law_ 1975 = .ok (.iload 5, 2) := by decide +kernel
theorem dL_law__1977 : decode cL_law_ 1977 = .ok (.ifCond .ne 15, 3) := by decide +kernel
theorem dL_law__1980 : decode cL_law_ 1980 = .ok (.aload_n 3, 1) := by decide +kernel
theorem dL_law__1981 : decode cL_law_ 1981 = .ok (.iconst 0, 1) := by decide +kernel
theorem dL_law__1982 : decode cL_law_ 1982 = .ok (.laload, 1) := by decide +kernel
theorem dL_law__1983 : decode cL_law_ 1983 = .ok (.iload 6, 2) := by decide +kernel
theorem dL_law__1985 : decode cL_law_ 1985 = .ok (.i2l, 1) := by decide +kernel
theorem dL_law__1986 : decode cL_law_ 1986 = .ok (.lcmp, 1) := by decide +kernel
theorem dL_law__1987 : decode cL_law_ 1987 = .ok (.ifCond .eq 5, 3) := by decide +kernel
theorem dL_law__1990 : decode cL_law_ 1990 = .ok (.iconst 0, 1) := by decide +kernel
theorem dL_law__1991 : decode cL_law_ 1991 = .ok (.ireturn, 1) := by decide +kernel
theorem dL_law__1992 : decode cL_law_ 1992 = .ok (.goto 921, 3) := by decide +kernel
theorem dL_law__1995 : decode cL_law_ 1995 = .ok (.aload_n 1, 1) := by decide +kernel
theorem dL_law__1996 : decode cL_law_ 1996 = .ok (.invokevirtual 245, 3) := by decide +kernel
theorem dL_law__1999 : decode cL_law_ 1999 = .ok (.aload_n 2, 1) := by decide +kernel
theorem dL_law__2000 : decode cL_law_ 2000 = .ok (.invokevirtual 248, 3) := by decide +kernel
theorem dL_law__2003 : decode cL_law_ 2003 = .ok (.if_icmp .eq 910, 3) := by decide +kernel
theorem dL_law__2006 : decode cL_law_ 2006 = .ok (.iconst 0, 1) := by decide +kernel
theorem dL_law__2007 : decode cL_law_ 2007 = .ok (.ireturn, 1) := by decide +kernel
theorem dL_law__2008 : decode cL_law_ 2008 = .ok (.aload_n 1, 1) := by decide +kernel
theorem dL_law__2009 : decode cL_law_ 2009 = .ok (.aload_n 0, 1) := by decide +kernel
theorem dL_law__2010 : decode cL_law_ 2010 = .ok (.iload 4, 2) := by decide +kernel
theorem dL_law__2012 : decode cL_law_ 2012 = .ok (.iconst 1, 1) := by decide +kernel
theorem dL_law__2013 : decode cL_law_ 2013 = .ok (.iadd, 1) := by decide +kernel
theorem dL_law__2014 : decode cL_law_ 2014 = .ok (.iaload, 1) := by decide +kernel
theorem dL_law__2015 : decode cL_law_ 2015 = .ok (.aload_n 0, 1) := by decide +kernel
theorem dL_law__2016 : decode cL_law_ 2016 = .ok (.iload 4, 2) := by decide +kernel
theorem dL_law__2018 : decode cL_law_ 2018 = .ok (.iconst 2, 1) := by decide +kernel
theorem dL_law__2019 : decode cL_law_ 2019 = .ok (.iadd, 1) := by decide +kernel
theorem dL_law__2020 : decode cL_law_ 2020 = .ok (.iaload, 1) := by decide +kernel
theorem dL_law__2021 : decode cL_law_ 2021 = .ok (.ifCond .eq 7, 3) := by decide +kernel
theorem dL_law__2024 : decode cL_law_ 2024 = .ok (.iconst 1, 1) := by decide +kernel
theorem dL_law__2025 : decode cL_law_ 2025 = .ok (.goto 4, 3) := by decide +kernel
theorem dL_law__2028 : decode cL_law_ 2028 = .ok (.iconst 0, 1) := by decide +kernel
theorem dL_law__2029 : decode cL_law_ 2029 = .ok (.aload_n 3, 1) := by decide +kernel
theorem dL_law__2030 : decode cL_law_ 2030 = .ok (.invokestatic 249, 3) := by decide +kernel
theorem dL_law__2033 : decode cL_law_ 2033 = .ok (.istore 5, 2) := by decide +kernel
theorem dL_law__2035 : decode cL_law_ 2035 = .ok (.aload_n 2, 1) := by decide +kernel
theorem dL_law__2036 : decode cL_law_ 2036 = .ok (.aload_n 0, 1) := by decide +kernel
theorem dL_law__2037 : decode cL_law_ 2037 = .ok (.iload 4, 2) := by decide +kernel
theorem dL_law__2039 : decode cL_law_ 2039 = .ok (.iconst 1, 1) := by decide +kernel
theorem dL_law__2040 : decode cL_law_ 2040 = .ok (.iadd, 1) := by decide +kernel
theorem dL_law__2041 : decode cL_law_ 2041 = .ok (.iaload, 1) := by decide +kernel
theorem dL_law__2042 : decode cL_law_ 2042 = .ok (.aload_n 0, 1) := by decide +kernel
theorem dL_law__2043 : decode cL_law_ 2043 = .ok (.iload 4, 2) := by decide +kernel
theorem dL_law__2045 : decode cL_law_ 2045 = .ok (.iconst 2, 1) := by decide +kernel
theorem dL_law__2046 : decode cL_law_ 2046 = .ok (.iadd, 1) := by decide +kernel
theorem dL_law__2047 : decode cL_law_ 2047 = .ok (.iaload, 1) := by decide +kernel
theorem dL_law__2048 : decode cL_law_ 2048 = .ok (.ifCond .eq 7, 3) := by decide +kernel
theorem dL_law__2051 : decode cL_law_ 2051 = .ok (.iconst 1, 1) := by decide +kernel
theorem dL_law__2052 : decode cL_law_ 2052 = .ok (.goto 4, 3) := by decide +kernel
theorem dL_law__2055 : decode cL_law_ 2055 = .ok (.iconst 0, 1) := by decide +kernel
theorem dL_law__2056 : decode cL_law_ 2056 = .ok (.invokevirtual 252, 3) := by decide +kernel
theorem dL_law__2059 : decode cL_law_ 2059 = .ok (.istore 6, 2) := by decide +kernel
theorem dL_law__2061 : decode cL_law_ 2061 = .ok (.aload_n 2, 1) := by decide +kernel
theorem dL_law__2062 : decode cL_law_ 2062 = .ok (.invokevirtual 158, 3) := by decide +kernel
theorem dL_law__2065 : decode cL_law_ 2065 = .ok (.iload 5, 2) := by decide +kernel
theorem dL_law__2067 : decode cL_law_ 2067 = .ok (.if_icmp .eq 5, 3) := by decide +kernel
theorem dL_law__2070 : decode cL_law_ 2070 = .ok (.iconst 0, 1) := by decide +kernel
theorem dL_law__2071 : decode cL_law_ 2071 = .ok (.ireturn, 1) := by decide +kernel
theorem dL_law__2072 : decode cL_law_ 2072 = .ok (.iload 5, 2) := by decide +kernel
theorem dL_law__2074 : decode cL_law_ 2074 = .ok (.ifCond .ne 15, 3) := by decide +kernel
theorem dL_law__2077 : decode cL_law_ 2077 = .ok (.aload_n 3, 1) := by decide +kernel
theorem dL_law__2078 : decode cL_law_ 2078 = .ok (.iconst 0, 1) := by decide +kernel
theorem dL_law__2079 : decode cL_law_ 2079 = .ok (.laload, 1) := by decide +kernel
theorem dL_law__2080 : decode cL_law_ 2080 = .ok (.iload 6, 2) := by decide +kernel
theorem dL_law__2082 : decode cL_law_ 2082 = .ok (.i2l, 1) := by decide +kernel
theorem dL_law__2083 : decode cL_law_ 2083 = .ok (.lcmp, 1) := by decide +kernel
theorem dL_law__2084 : decode cL_law_ 2084 = .ok (.ifCond .eq 5, 3) := by decide +kernel
theorem dL_law__2087 : decode cL_law_ 2087 = .ok (.iconst 0, 1) := by decide +kernel
theorem dL_law__2088 : decode cL_law_ 2088 = .ok (.ireturn, 1) := by decide +kernel
theorem dL_law__2089 : decode cL_law_ 2089 = .ok (.goto 824, 3) := by decide +kernel
theorem dL_law__2092 : decode cL_law_ 2092 = .ok (.aload_n 1, 1) := by decide +kernel
theorem dL_law__2093 : decode cL_law_ 2093 = .ok (.aload_n 0, 1) := by decide +kernel
theorem dL_law__2094 : decode cL_law_ 2094 = .ok (.iload 4, 2) := by decide +kernel
theorem dL_law__2096 : decode cL_law_ 2096 = .ok (.iconst 1, 1) := by decide +kernel
theorem dL_law__2097 : decode cL_law_ 2097 = .ok (.iadd, 1) := by decide +kernel
theorem dL_law__2098 : decode cL_law_ 2098 = .ok (.iaload, 1) := by decide +kernel
theorem dL_law__2099 : decode cL_law_ 2099 = .ok (.aload_n 0, 1) := by decide +kernel
theorem dL_law__2100 : decode cL_law_ 2100 = .ok (.iload 4, 2) := by decide +kernel
theorem dL_law__2102 : decode cL_law_ 2102 = .ok (.iconst 2, 1) := by decide +kernel
theorem dL_law__2103 : decode cL_law_ 2103 = .ok (.iadd, 1) := by decide +kernel
theorem dL_law__2104 : decode cL_law_ 2104 = .ok (.iaload, 1) := by decide +kernel
theorem dL_law__2105 : decode cL_law_ 2105 = .ok (.aload_n 3, 1) := by decide +kernel
theorem dL_law__2106 : decode cL_law_ 2106 = .ok (.invokestatic 253, 3) := by decide +kernel
theorem dL_law__2109 : decode cL_law_ 2109 = .ok (.istore 5, 2) := by decide +kernel
theorem dL_law__2111 : decode cL_law_ 2111 = .ok (.aload_n 2, 1) := by decide +kernel
theorem dL_law__2112 : decode cL_law_ 2112 = .ok (.aload_n 0, 1) := by decide +kernel
theorem dL_law__2113 : decode cL_law_ 2113 = .ok (.iload 4, 2) := by decide +kernel
theorem dL_law__2115 : decode cL_law_ 2115 = .ok (.iconst 1, 1) := by decide +kernel
theorem dL_law__2116 : decode cL_law_ 2116 = .ok (.iadd, 1) := by decide +kernel
theorem dL_law__2117 : decode cL_law_ 2117 = .ok (.iaload, 1) := by decide +kernel
theorem dL_law__2118 : decode cL_law_ 2118 = .ok (.aload_n 0, 1) := by decide +kernel
theorem dL_law__2119 : decode cL_law_ 2119 = .ok (.iload 4, 2) := by decide +kernel
theorem dL_law__2121 : decode cL_law_ 2121 = .ok (.iconst 2, 1) := by decide +kernel
theorem dL_law__2122 : decode cL_law_ 2122 = .ok (.iadd, 1) := by decide +kernel
theorem dL_law__2123 : decode cL_law_ 2123 = .ok (.iaload, 1) := by decide +kernel
theorem dL_law__2124 : decode cL_law_ 2124 = .ok (.invokevirtual 255, 3) := by decide +kernel
theorem dL_law__2127 : decode cL_law_ 2127 = .ok (.istore 6, 2) := by decide +kernel
theorem dL_law__2129 : decode cL_law_ 2129 = .ok (.aload_n 2, 1) := by decide +kernel
theorem dL_law__2130 : decode cL_law_ 2130 = .ok (.invokevirtual 158, 3) := by decide +kernel
theorem dL_law__2133 : decode cL_law_ 2133 = .ok (.iload 5, 2) := by decide +kernel
theorem dL_law__2135 : decode cL_law_ 2135 = .ok (.if_icmp .eq 5, 3) := by decide +kernel
theorem dL_law__2138 : decode cL_law_ 2138 = .ok (.iconst 0, 1) := by decide +kernel
theorem dL_law__2139 : decode cL_law_ 2139 = .ok (.ireturn, 1) := by decide +kernel
theorem dL_law__2140 : decode cL_law_ 2140 = .ok (.iload 5, 2) := by decide +kernel
theorem dL_law__2142 : decode cL_law_ 2142 = .ok (.ifCond .ne 15, 3) := by decide +kernel
theorem dL_law__2145 : decode cL_law_ 2145 = .ok (.aload_n 3, 1) := by decide +kernel
theorem dL_law__2146 : decode cL_law_ 2146 = .ok (.iconst 0, 1) := by decide +kernel
theorem dL_law__2147 : decode cL_law_ 2147 = .ok (.laload, 1) := by decide +kernel
theorem dL_law__2148 : decode cL_law_ 2148 = .ok (.iload 6, 2) := by decide +kernel
theorem dL_law__2150 : decode cL_law_ 2150 = .ok (.i2l, 1) := by decide +kernel
theorem dL_law__2151 : decode cL_law_ 2151 = .ok (.lcmp, 1) := by decide +kernel
theorem dL_law__2152 : decode cL_law_ 2152 = .ok (.ifCond .eq 5, 3) := by decide +kernel
theorem dL_law__2155 : decode cL_law_ 2155 = .ok (.iconst 0, 1) := by decide +kernel
theorem dL_law__2156 : decode cL_law_ 2156 = .ok (.ireturn, 1) := by decide +kernel
theorem dL_law__2157 : decode cL_law_ 2157 = .ok (.goto 756, 3) := by decide +kernel
theorem dL_law__2160 : decode cL_law_ 2160 = .ok (.aload_n 1, 1) := by decide +kernel
theorem dL_law__2161 : decode cL_law_ 2161 = .ok (.aload_n 0, 1) := by decide +kernel
theorem dL_law__2162 : decode cL_law_ 2162 = .ok (.iload 4, 2) := by decide +kernel
theorem dL_law__2164 : decode cL_law_ 2164 = .ok (.iconst 1, 1) := by decide +kernel
theorem dL_law__2165 : decode cL_law_ 2165 = .ok (.iadd, 1) := by decide +kernel
theorem dL_law__2166 : decode cL_law_ 2166 = .ok (.iaload, 1) := by decide +kernel
theorem dL_law__2167 : decode cL_law_ 2167 = .ok (.aload_n 3, 1) := by decide +kernel
theorem dL_law__2168 : decode cL_law_ 2168 = .ok (.invokestatic 256, 3) := by decide +kernel
theorem dL_law__2171 : decode cL_law_ 2171 = .ok (.istore 5, 2) := by decide +kernel
theorem dL_law__2173 : decode cL_law_ 2173 = .ok (.aload_n 2, 1) := by decide +kernel
theorem dL_law__2174 : decode cL_law_ 2174 = .ok (.aload_n 0, 1) := by decide +kernel
theorem dL_law__2175 : decode cL_law_ 2175 = .ok (.iload 4, 2) := by decide +kernel
theorem dL_law__2177 : decode cL_law_ 2177 = .ok (.iconst 1, 1) := by decide +kernel
theorem dL_law__2178 : decode cL_law_ 2178 = .ok (.iadd, 1) := by decide +kernel
theorem dL_law__2179 : decode cL_law_ 2179 = .ok (.iaload, 1) := by decide +kernel
theorem dL_law__2180 : decode cL_law_ 2180 = .ok (.invokevirtual 258, 3) := by decide +kernel
theorem dL_law__2183 : decode cL_law_ 2183 = .ok (.istore 6, 2) := by decide +kernel
theorem dL_law__2185 : decode cL_law_ 2185 = .ok (.aload_n 2, 1) := by decide +kernel
theorem dL_law__2186 : decode cL_law_ 2186 = .ok (.invokevirtual 158, 3) := by decide +kernel
theorem dL_law__2189 : decode cL_law_ 2189 = .ok (.iload 5, 2) := by decide +kernel
theorem dL_law__2191 : decode cL_law_ 2191 = .ok (.if_icmp .eq 5, 3) := by decide +kernel
theorem dL_law__2194 : decode cL_law_ 2194 = .ok (.iconst 0, 1) := by decide +kernel
theorem dL_law__2195 : decode cL_law_ 2195 = .ok (.ireturn, 1) := by decide +kernel
theorem dL_law__2196 : decode cL_law_ 2196 = .ok (.iload 5, 2) := by decide +kernel
theorem dL_law__2198 : decode cL_law_ 2198 = .ok (.ifCond .ne 15, 3) := by decide +kernel
theorem dL_law__2201 : decode cL_law_ 2201 = .ok (.aload_n 3, 1) := by decide +kernel
theorem dL_law__2202 : decode cL_law_ 2202 = .ok (.iconst 0, 1) := by decide +kernel
theorem dL_law__2203 : decode cL_law_ 2203 = .ok (.laload, 1) := by decide +kernel
theorem dL_law__2204 : decode cL_law_ 2204 = .ok (.iload 6, 2) := by decide +kernel
theorem dL_law__2206 : decode cL_law_ 2206 = .ok (.i2l, 1) := by decide +kernel
theorem dL_law__2207 : decode cL_law_ 2207 = .ok (.lcmp, 1) := by decide +kernel
theorem dL_law__2208 : decode cL_law_ 2208 = .ok (.ifCond .eq 5, 3) := by decide +kernel
theorem dL_law__2211 : decode cL_law_ 2211 = .ok (.iconst 0, 1) := by decide +kernel
theorem dL_law__2212 : decode cL_law_ 2212 = .ok (.ireturn, 1) := by decide +kernel
theorem dL_law__2213 : decode cL_law_ 2213 = .ok (.goto 700, 3) := by decide +kernel
theorem dL_law__2216 : decode cL_law_ 2216 = .ok (.aload_n 1, 1) := by decide +kernel
theorem dL_law__2217 : decode cL_law_ 2217 = .ok (.aload_n 0, 1) := by decide +kernel
theorem dL_law__2218 : decode cL_law_ 2218 = .ok (.iload 4, 2) := by decide +kernel
theorem dL_law__2220 : decode cL_law_ 2220 = .ok (.iconst 1, 1) := by decide +kernel
theorem dL_law__2221 : decode cL_law_ 2221 = .ok (.iadd, 1) := by decide +kernel
theorem dL_law__2222 : decode cL_law_ 2222 = .ok (.iaload, 1) := by decide +kernel
theorem dL_law__2223 : decode cL_law_ 2223 = .ok (.aload_n 0, 1) := by decide +kernel
theorem dL_law__2224 : decode cL_law_ 2224 = .ok (.iload 4, 2) := by decide +kernel
theorem dL_law__2226 : decode cL_law_ 2226 = .ok (.iconst 2, 1) := by decide +kernel
theorem dL_law__2227 : decode cL_law_ 2227 = .ok (.iadd, 1) := by decide +kernel
theorem dL_law__2228 : decode cL_law_ 2228 = .ok (.iaload, 1) := by decide +kernel
theorem dL_law__2229 : decode cL_law_ 2229 = .ok (.ifCond .eq 7, 3) := by decide +kernel
theorem dL_law__2232 : decode cL_law_ 2232 = .ok (.iconst 1, 1) := by decide +kernel
theorem dL_law__2233 : decode cL_law_ 2233 = .ok (.goto 4, 3) := by decide +kernel
theorem dL_law__2236 : decode cL_law_ 2236 = .ok (.iconst 0, 1) := by decide +kernel
theorem dL_law__2237 : decode cL_law_ 2237 = .ok (.aload_n 3, 1) := by decide +kernel
theorem dL_law__2238 : decode cL_law_ 2238 = .ok (.invokestatic 259, 3) := by decide +kernel
theorem dL_law__2241 : decode cL_law_ 2241 = .ok (.istore 5, 2) := by decide +kernel
theorem dL_law__2243 : decode cL_law_ 2243 = .ok (.aload_n 2, 1) := by decide +kernel
theorem dL_law__2244 : decode cL_law_ 2244 = .ok (.aload_n 0, 1) := by decide +kernel
theorem dL_law__2245 : decode cL_law_ 2245 = .ok (.iload 4, 2) := by decide +kernel
theorem dL_law__2247 : decode cL_law_ 2247 = .ok (.iconst 1, 1) := by decide +kernel
theorem dL_law__2248 : decode cL_law_ 2248 = .ok (.iadd, 1) := by decide +kernel
theorem dL_law__2249 : decode cL_law_ 2249 = .ok (.iaload, 1) := by decide +kernel
theorem dL_law__2250 : decode cL_law_ 2250 = .ok (.aload_n 0, 1) := by decide +kernel
theorem dL_law__2251 : decode cL_law_ 2251 = .ok (.iload 4, 2) := by decide +kernel
theorem dL_law__2253 : decode cL_law_ 2253 = .ok (.iconst 2, 1) := by decide +kernel
theorem dL_law__2254 : decode cL_law_ 2254 = .ok (.iadd, 1) := by decide +kernel
theorem dL_law__2255 : decode cL_law_ 2255 = .ok (.iaload, 1) := by decide +kernel
theorem dL_law__2256 : decode cL_law_ 2256 = .ok (.ifCond .eq 7, 3) := by decide +kernel
theorem dL_law__2259 : decode cL_law_ 2259 = .ok (.iconst 1, 1) := by decide +kernel
theorem dL_law__2260 : decode cL_law_ 2260 = .ok (.goto 4, 3) := by decide +kernel
theorem dL_law__2263 : decode cL_law_ 2263 = .ok (.iconst 0, 1) := by decide +kernel
theorem dL_law__2264 : decode cL_law_ 2264 = .ok (.invokevirtual 261, 3) := by decide +kernel
theorem dL_law__2267 : decode cL_law_ 2267 = .ok (.istore 6, 2) := by decide +kernel
theorem dL_law__2269 : decode cL_law_ 2269 = .ok (.aload_n 2, 1) := by decide +kernel
theorem dL_law__2270 : decode cL_law_ 2270 = .ok (.invokevirtual 158, 3) := by decide +kernel
theorem dL_law__2273 : decode cL_law_ 2273 = .ok (.iload 5, 2) := by decide +kernel
theorem dL_law__2275 : decode cL_law_ 2275 = .ok (.if_icmp .eq 5, 3) := by decide +kernel
theorem dL_law__2278 : decode cL_law_ 2278 = .ok (.iconst 0, 1) := by decide +kernel
theorem dL_law__2279 : decode cL_law_ 2279 = .ok (.ireturn, 1) := by decide +kernel
theorem dL_law__2280 : decode cL_law_ 2280 = .ok (.iload 5, 2) := by decide +kernel
theorem dL_law__2282 : decode cL_law_ 2282 = .ok (.ifCond .ne 15, 3) := by decide +kernel
theorem dL_law__2285 : decode cL_law_ 2285 = .ok (.aload_n 3, 1) := by decide +kernel
theorem dL_law__2286 : decode cL_law_ 2286 = .ok (.iconst 0, 1) := by decide +kernel
theorem dL_law__2287 : decode cL_law_ 2287 = .ok (.laload, 1) := by decide +kernel
theorem dL_law__2288 : decode cL_law_ 2288 = .ok (.iload 6, 2) := by decide +kernel
theorem dL_law__2290 : decode cL_law_ 2290 = .ok (.i2l, 1) := by decide +kernel
theorem dL_law__2291 : decode cL_law_ 2291 = .ok (.lcmp, 1) := by decide +kernel
theorem dL_law__2292 : decode cL_law_ 2292 = .ok (.ifCond .eq 5, 3) := by decide +kernel
theorem dL_law__2295 : decode cL_law_ 2295 = .ok (.iconst 0, 1) := by decide +kernel
theorem dL_law__2296 : decode cL_law_ 2296 = .ok (.ireturn, 1) := by decide +kernel
theorem dL_law__2297 : decode cL_law_ 2297 = .ok (.goto 616, 3) := by decide +kernel
theorem dL_law__2300 : decode cL_law_ 2300 = .ok (.aload_n 1, 1) := by decide +kernel
theorem dL_law__2301 : decode cL_law_ 2301 = .ok (.aload_n 0, 1) := by decide +kernel
theorem dL_law__2302 : decode cL_law_ 2302 = .ok (.iload 4, 2) := by decide +kernel
theorem dL_law__2304 : decode cL_law_ 2304 = .ok (.iconst 1, 1) := by decide +kernel
theorem dL_law__2305 : decode cL_law_ 2305 = .ok (.iadd, 1) := by decide +kernel
theorem dL_law__2306 : decode cL_law_ 2306 = .ok (.iaload, 1) := by decide +kernel
theorem dL_law__2307 : decode cL_law_ 2307 = .ok (.aload_n 0, 1) := by decide +kernel
theorem dL_law__2308 : decode cL_law_ 2308 = .ok (.iload 4, 2) := by decide +kernel
theorem dL_law__2310 : decode cL_law_ 2310 = .ok (.iconst 2, 1) := by decide +kernel
theorem dL_law__2311 : decode cL_law_ 2311 = .ok (.iadd, 1) := by decide +kernel
theorem dL_law__2312 : decode cL_law_ 2312 = .ok (.iaload, 1) := by decide +kernel
theorem dL_law__2313 : decode cL_law_ 2313 = .ok (.aload_n 3, 1) := by decide +kernel
theorem dL_law__2314 : decode cL_law_ 2314 = .ok (.invokestatic 262, 3) := by decide +kernel
theorem dL_law__2317 : decode cL_law_ 2317 = .ok (.istore 5, 2) := by decide +kernel
theorem dL_law__2319 : decode cL_law_ 2319 = .ok (.aload_n 2, 1) := by decide +kernel
theorem dL_law__2320 : decode cL_law_ 2320 = .ok (.aload_n 0, 1) := by decide +kernel
theorem dL_law__2321 : decode cL_law_ 2321 = .ok (.iload 4, 2) := by decide +kernel
theorem dL_law__2323 : decode cL_law_ 2323 = .ok (.iconst 1, 1) := by decide +kernel
theorem dL_law__2324 : decode cL_law_ 2324 = .ok (.iadd, 1) := by decide +kernel
theorem dL_law__2325 : decode cL_law_ 2325 = .ok (.iaload, 1) := by decide +kernel
theorem dL_law__2326 : decode cL_law_ 2326 = .ok (.aload_n 0, 1) := by decide +kernel
theorem dL_law__2327 : decode cL_law_ 2327 = .ok (.iload 4, 2) := by decide +kernel
theorem dL_law__2329 : decode cL_law_ 2329 = .ok (.iconst 2, 1) := by decide +kernel
theorem dL_law__2330 : decode cL_law_ 2330 = .ok (.iadd, 1) := by decide +kernel
theorem dL_law__2331 : decode cL_law_ 2331 = .ok (.iaload, 1) := by decide +kernel
theorem dL_law__2332 : decode cL_law_ 2332 = .ok (.invokevirtual 264, 3) := by decide +kernel
theorem dL_law__2335 : decode cL_law_ 2335 = .ok (.istore 6, 2) := by decide +kernel
theorem dL_law__2337 : decode cL_law_ 2337 = .ok (.aload_n 2, 1) := by decide +kernel
theorem dL_law__2338 : decode cL_law_ 2338 = .ok (.invokevirtual 158, 3) := by decide +kernel
theorem dL_law__2341 : decode cL_law_ 2341 = .ok (.iload 5, 2) := by decide +kernel
theorem dL_law__2343 : decode cL_law_ 2343 = .ok (.if_icmp .eq 5, 3) := by decide +kernel
theorem dL_law__2346 : decode cL_law_ 2346 = .ok (.iconst 0, 1) := by decide +kernel
theorem dL_law__2347 : decode cL_law_ 2347 = .ok (.ireturn, 1) := by decide +kernel
theorem dL_law__2348 : decode cL_law_ 2348 = .ok (.iload 5, 2) := by decide +kernel
theorem dL_law__2350 : decode cL_law_ 2350 = .ok (.ifCond .ne 15, 3) := by decide +kernel
theorem dL_law__2353 : decode cL_law_ 2353 = .ok (.aload_n 3, 1) := by decide +kernel
theorem dL_law__2354 : decode cL_law_ 2354 = .ok (.iconst 0, 1) := by decide +kernel
theorem dL_law__2355 : decode cL_law_ 2355 = .ok (.laload, 1) := by decide +kernel
theorem dL_law__2356 : decode cL_law_ 2356 = .ok (.iload 6, 2) := by decide +kernel
theorem dL_law__2358 : decode cL_law_ 2358 = .ok (.i2l, 1) := by decide +kernel
theorem dL_law__2359 : decode cL_law_ 2359 = .ok (.lcmp, 1) := by decide +kernel
theorem dL_law__2360 : decode cL_law_ 2360 = .ok (.ifCond .eq 5, 3) := by decide +kernel
theorem dL_law__2363 : decode cL_law_ 2363 = .ok (.iconst 0, 1) := by decide +kernel
theorem dL_law__2364 : decode cL_law_ 2364 = .ok (.ireturn, 1) := by decide +kernel
theorem dL_law__2365 : decode cL_law_ 2365 = .ok (.goto 548, 3) := by decide +kernel
theorem dL_law__2368 : decode cL_law_ 2368 = .ok (.aload_n 1, 1) := by decide +kernel
theorem dL_law__2369 : decode cL_law_ 2369 = .ok (.aload_n 0, 1) := by decide +kernel
theorem dL_law__2370 : decode cL_law_ 2370 = .ok (.iload 4, 2) := by decide +kernel
theorem dL_law__2372 : decode cL_law_ 2372 = .ok (.iconst 1, 1) := by decide +kernel
theorem dL_law__2373 : decode cL_law_ 2373 = .ok (.iadd, 1) := by decide +kernel
theorem dL_law__2374 : decode cL_law_ 2374 = .ok (.iaload, 1) := by decide +kernel
theorem dL_law__2375 : decode cL_law_ 2375 = .ok (.aload_n 3, 1) := by decide +kernel
theorem dL_law__2376 : decode cL_law_ 2376 = .ok (.invokestatic 265, 3) := by decide +kernel
theorem dL_law__2379 : decode cL_law_ 2379 = .ok (.istore 5, 2) := by decide +kernel
theorem dL_law__2381 : decode cL_law_ 2381 = .ok (.aload_n 2, 1) := by decide +kernel
theorem dL_law__2382 : decode cL_law_ 2382 = .ok (.aload_n 0, 1) := by decide +kernel
theorem dL_law__2383 : decode cL_law_ 2383 = .ok (.iload 4, 2) := by decide +kernel
theorem dL_law__2385 : decode cL_law_ 2385 = .ok (.iconst 1, 1) := by decide +kernel
theorem dL_law__2386 : decode cL_law_ 2386 = .ok (.iadd, 1) := by decide +kernel
theorem dL_law__2387 : decode cL_law_ 2387 = .ok (.iaload, 1) := by decide +kernel
theorem dL_law__2388 : decode cL_law_ 2388 = .ok (.invokevirtual 267, 3) := by decide +kernel
theorem dL_law__2391 : decode cL_law_ 2391 = .ok (.istore 6, 2) := by decide +kernel
theorem dL_law__2393 : decode cL_law_ 2393 = .ok (.aload_n 2, 1) := by decide +kernel
theorem dL_law__2394 : decode cL_law_ 2394 = .ok (.invokevirtual 158, 3) := by decide +kernel
theorem dL_law__2397 : decode cL_law_ 2397 = .ok (.iload 5, 2) := by decide +kernel
theorem dL_law__2399 : decode cL_law_ 2399 = .ok (.if_icmp .eq 5, 3) := by decide +kernel
theorem dL_law__2402 : decode cL_law_ 2402 = .ok (.iconst 0, 1) := by decide +kernel
theorem dL_law__2403 : decode cL_law_ 2403 = .ok (.ireturn, 1) := by decide +kernel
theorem dL_law__2404 : decode cL_law_ 2404 = .ok (.iload 5, 2) := by decide +kernel
theorem dL_law__2406 : decode cL_law_ 2406 = .ok (.ifCond .ne 15, 3) := by decide +kernel
theorem dL_law__2409 : decode cL_law_ 2409 = .ok (.aload_n 3, 1) := by decide +kernel
theorem dL_law__2410 : decode cL_law_ 2410 = .ok (.iconst 0, 1) := by decide +kernel
theorem dL_law__2411 : decode cL_law_ 2411 = .ok (.laload, 1) := by decide +kernel
theorem dL_law__2412 : decode cL_law_ 2412 = .ok (.iload 6, 2) := by decide +kernel
theorem dL_law__2414 : decode cL_law_ 2414 = .ok (.i2l, 1) := by decide +kernel
theorem dL_law__2415 : decode cL_law_ 2415 = .ok (.lcmp, 1) := by decide +kernel
theorem dL_law__2416 : decode cL_law_ 2416 = .ok (.ifCond .eq 5, 3) := by decide +kernel
theorem dL_law__2419 : decode cL_law_ 2419 = .ok (.iconst 0, 1) := by decide +kernel
theorem dL_law__2420 : decode cL_law_ 2420 = .ok (.ireturn, 1) := by decide +kernel
theorem dL_law__2421 : decode cL_law_ 2421 = .ok (.goto 492, 3) := by decide +kernel
theorem dL_law__2424 : decode cL_law_ 2424 = .ok (.aload_n 1, 1) := by decide +kernel
theorem dL_law__2425 : decode cL_law_ 2425 = .ok (.aload_n 0, 1) := by decide +kernel
theorem dL_law__2426 : decode cL_law_ 2426 = .ok (.iload 4, 2) := by decide +kernel
theorem dL_law__2428 : decode cL_law_ 2428 = .ok (.iconst 1, 1) := by decide +kernel
theorem dL_law__2429 : decode cL_law_ 2429 = .ok (.iadd, 1) := by decide +kernel
theorem dL_law__2430 : decode cL_law_ 2430 = .ok (.iaload, 1) := by decide +kernel
theorem dL_law__2431 : decode cL_law_ 2431 = .ok (.aload_n 3, 1) := by decide +kernel
theorem dL_law__2432 : decode cL_law_ 2432 = .ok (.invokestatic 268, 3) := by decide +kernel
theorem dL_law__2435 : decode cL_law_ 2435 = .ok (.istore 5, 2) := by decide +kernel
theorem dL_law__2437 : decode cL_law_ 2437 = .ok (.aload_n 2, 1) := by decide +kernel
theorem dL_law__2438 : decode cL_law_ 2438 = .ok (.aload_n 0, 1) := by decide +kernel
theorem dL_law__2439 : decode cL_law_ 2439 = .ok (.iload 4, 2) := by decide +kernel
theorem dL_law__2441 : decode cL_law_ 2441 = .ok (.iconst 1, 1) := by decide +kernel
theorem dL_law__2442 : decode cL_law_ 2442 = .ok (.iadd, 1) := by decide +kernel
theorem dL_law__2443 : decode cL_law_ 2443 = .ok (.iaload, 1) := by decide +kernel
theorem dL_law__2444 : decode cL_law_ 2444 = .ok (.invokevirtual 270, 3) := by decide +kernel
theorem dL_law__2447 : decode cL_law_ 2447 = .ok (.istore 6, 2) := by decide +kernel
theorem dL_law__2449 : decode cL_law_ 2449 = .ok (.aload_n 2, 1) := by decide +kernel
theorem dL_law__2450 : decode cL_law_ 2450 = .ok (.invokevirtual 158, 3) := by decide +kernel
theorem dL_law__2453 : decode cL_law_ 2453 = .ok (.iload 5, 2) := by decide +kernel
theorem dL_law__2455 : decode cL_law_ 2455 = .ok (.if_icmp .eq 5, 3) := by decide +kernel
theorem dL_law__2458 : decode cL_law_ 2458 = .ok (.iconst 0, 1) := by decide +kernel
theorem dL_law__2459 : decode cL_law_ 2459 = .ok (.ireturn, 1) := by decide +kernel
theorem dL_law__2460 : decode cL_law_ 2460 = .ok (.iload 5, 2) := by decide +kernel
theorem dL_law__2462 : decode cL_law_ 2462 = .ok (.ifCond .ne 15, 3) := by decide +kernel
theorem dL_law__2465 : decode cL_law_ 2465 = .ok (.aload_n 3, 1) := by decide +kernel
theorem dL_law__2466 : decode cL_law_ 2466 = .ok (.iconst 0, 1) := by decide +kernel
theorem dL_law__2467 : decode cL_law_ 2467 = .ok (.laload, 1) := by decide +kernel
theorem dL_law__2468 : decode cL_law_ 2468 = .ok (.iload 6, 2) := by decide +kernel
theorem dL_law__2470 : decode cL_law_ 2470 = .ok (.i2l, 1) := by decide +kernel
theorem dL_law__2471 : decode cL_law_ 2471 = .ok (.lcmp, 1) := by decide +kernel
theorem dL_law__2472 : decode cL_law_ 2472 = .ok (.ifCond .eq 5, 3) := by decide +kernel
theorem dL_law__2475 : decode cL_law_ 2475 = .ok (.iconst 0, 1) := by decide +kernel
theorem dL_law__2476 : decode cL_law_ 2476 = .ok (.ireturn, 1) := by decide +kernel
theorem dL_law__2477 : decode cL_law_ 2477 = .ok (.goto 436, 3) := by decide +kernel
theorem dL_law__2480 : decode cL_law_ 2480 = .ok (.aload_n 1, 1) := by decide +kernel
theorem dL_law__2481 : decode cL_law_ 2481 = .ok (.aload_n 0, 1) := by decide +kernel
theorem dL_law__2482 : decode cL_law_ 2482 = .ok (.iload 4, 2) := by decide +kernel
theorem dL_law__2484 : decode cL_law_ 2484 = .ok (.iconst 1, 1) := by decide +kernel
theorem dL_law__2485 : decode cL_law_ 2485 = .ok (.iadd, 1) := by decide +kernel
theorem dL_law__2486 : decode cL_law_ 2486 = .ok (.iaload, 1) := by decide +kernel
theorem dL_law__2487 : decode cL_law_ 2487 = .ok (.aload_n 3, 1) := by decide +kernel
theorem dL_law__2488 : decode cL_law_ 2488 = .ok (.invokestatic 271, 3) := by decide +kernel
theorem dL_law__2491 : decode cL_law_ 2491 = .ok (.istore 5, 2) := by decide +kernel
theorem dL_law__2493 : decode cL_law_ 2493 = .ok (.aload_n 2, 1) := by decide +kernel
theorem dL_law__2494 : decode cL_law_ 2494 = .ok (.aload_n 0, 1) := by decide +kernel
theorem dL_law__2495 : decode cL_law_ 2495 = .ok (.iload 4, 2) := by decide +kernel
theorem dL_law__2497 : decode cL_law_ 2497 = .ok (.iconst 1, 1) := by decide +kernel
theorem dL_law__2498 : decode cL_law_ 2498 = .ok (.iadd, 1) := by decide +kernel
theorem dL_law__2499 : decode cL_law_ 2499 = .ok (.iaload, 1) := by decide +kernel
theorem dL_law__2500 : decode cL_law_ 2500 = .ok (.invokevirtual 273, 3) := by decide +kernel
theorem dL_law__2503 : decode cL_law_ 2503 = .ok (.istore 6, 2) := by decide +kernel
theorem dL_law__2505 : decode cL_law_ 2505 = .ok (.aload_n 2, 1) := by decide +kernel
theorem dL_law__2506 : decode cL_law_ 2506 = .ok (.invokevirtual 158, 3) := by decide +kernel
theorem dL_law__2509 : decode cL_law_ 2509 = .ok (.iload 5, 2) := by decide +kernel
theorem dL_law__2511 : decode cL_law_ 2511 = .ok (.if_icmp .eq 5, 3) := by decide +kernel
theorem dL_law__2514 : decode cL_law_ 2514 = .ok (.iconst 0, 1) := by decide +kernel
theorem dL_law__2515 : decode cL_law_ 2515 = .ok (.ireturn, 1) := by decide +kernel
theorem dL_law__2516 : decode cL_law_ 2516 = .ok (.iload 5, 2) := by decide +kernel
theorem dL_law__2518 : decode cL_law_ 2518 = .ok (.ifCond .ne 15, 3) := by decide +kernel
theorem dL_law__2521 : decode cL_law_ 2521 = .ok (.aload_n 3, 1) := by decide +kernel
theorem dL_law__2522 : decode cL_law_ 2522 = .ok (.iconst 0, 1) := by decide +kernel
theorem dL_law__2523 : decode cL_law_ 2523 = .ok (.laload, 1) := by decide +kernel
theorem dL_law__2524 : decode cL_law_ 2524 = .ok (.iload 6, 2) := by decide +kernel
theorem dL_law__2526 : decode cL_law_ 2526 = .ok (.i2l, 1) := by decide +kernel
theorem dL_law__2527 : decode cL_law_ 2527 = .ok (.lcmp, 1) := by decide +kernel
theorem dL_law__2528 : decode cL_law_ 2528 = .ok (.ifCond .eq 5, 3) := by decide +kernel
theorem dL_law__2531 : decode cL_law_ 2531 = .ok (.iconst 0, 1) := by decide +kernel
theorem dL_law__2532 : decode cL_law_ 2532 = .ok (.ireturn, 1) := by decide +kernel
theorem dL_law__2533 : decode cL_law_ 2533 = .ok (.goto 380, 3) := by decide +kernel
theorem dL_law__2536 : decode cL_law_ 2536 = .ok (.aload_n 1, 1) := by decide +kernel
theorem dL_law__2537 : decode cL_law_ 2537 = .ok (.aload_n 0, 1) := by decide +kernel
theorem dL_law__2538 : decode cL_law_ 2538 = .ok (.iload 4, 2) := by decide +kernel
theorem dL_law__2540 : decode cL_law_ 2540 = .ok (.iconst 1, 1) := by decide +kernel
theorem dL_law__2541 : decode cL_law_ 2541 = .ok (.iadd, 1) := by decide +kernel
theorem dL_law__2542 : decode cL_law_ 2542 = .ok (.iaload, 1) := by decide +kernel
theorem dL_law__2543 : decode cL_law_ 2543 = .ok (.aload_n 0, 1) := by decide +kernel
theorem dL_law__2544 : decode cL_law_ 2544 = .ok (.iload 4, 2) := by decide +kernel
theorem dL_law__2546 : decode cL_law_ 2546 = .ok (.iconst 2, 1) := by decide +kernel
theorem dL_law__2547 : decode cL_law_ 2547 = .ok (.iadd, 1) := by decide +kernel
theorem dL_law__2548 : decode cL_law_ 2548 = .ok (.iaload, 1) := by decide +kernel
theorem dL_law__2549 : decode cL_law_ 2549 = .ok (.ifCond .eq 7, 3) := by decide +kernel
theorem dL_law__2552 : decode cL_law_ 2552 = .ok (.iconst 1, 1) := by decide +kernel
theorem dL_law__2553 : decode cL_law_ 2553 = .ok (.goto 4, 3) := by decide +kernel
theorem dL_law__2556 : decode cL_law_ 2556 = .ok (.iconst 0, 1) := by decide +kernel
theorem dL_law__2557 : decode cL_law_ 2557 = .ok (.aload_n 3, 1) := by decide +kernel
theorem dL_law__2558 : decode cL_law_ 2558 = .ok (.invokestatic 274, 3) := by decide +kernel
theorem dL_law__2561 : decode cL_law_ 2561 = .ok (.istore 5, 2) := by decide +kernel
theorem dL_law__2563 : decode cL_law_ 2563 = .ok (.aload_n 2, 1) := by decide +kernel
theorem dL_law__2564 : decode cL_law_ 2564 = .ok (.aload_n 0, 1) := by decide +kernel
theorem dL_law__2565 : decode cL_law_ 2565 = .ok (.iload 4, 2) := by decide +kernel
theorem dL_law__2567 : decode cL_law_ 2567 = .ok (.iconst 1, 1) := by decide +kernel
theorem dL_law__2568 : decode cL_law_ 2568 = .ok (.iadd, 1) := by decide +kernel
theorem dL_law__2569 : decode cL_law_ 2569 = .ok (.iaload, 1) := by decide +kernel
theorem dL_law__2570 : decode cL_law_ 2570 = .ok (.aload_n 0, 1) := by decide +kernel
theorem dL_law__2571 : decode cL_law_ 2571 = .ok (.iload 4, 2) := by decide +kernel
theorem dL_law__2573 : decode cL_law_ 2573 = .ok (.iconst 2, 1) := by decide +kernel
theorem dL_law__2574 : decode cL_law_ 2574 = .ok (.iadd, 1) := by decide +kernel
theorem dL_law__2575 : decode cL_law_ 2575 = .ok (.iaload, 1) := by decide +kernel
theorem dL_law__2576 : decode cL_law_ 2576 = .ok (.ifCond .eq 7, 3) := by decide +kernel
theorem dL_law__2579 : decode cL_law_ 2579 = .ok (.iconst 1, 1) := by decide +kernel
theorem dL_law__2580 : decode cL_law_ 2580 = .ok (.goto 4, 3) := by decide +kernel
theorem dL_law__2583 : decode cL_law_ 2583 = .ok (.iconst 0, 1) := by decide +kernel
theorem dL_law__2584 : decode cL_law_ 2584 = .ok (.invokevirtual 276, 3) := by decide +kernel
theorem dL_law__2587 : decode cL_law_ 2587 = .ok (.istore 6, 2) := by decide +kernel
theorem dL_law__2589 : decode cL_law_ 2589 = .ok (.aload_n 2, 1) := by decide +kernel
theorem dL_law__2590 : decode cL_law_ 2590 = .ok (.invokevirtual 158, 3) := by decide +kernel
theorem dL_law__2593 : decode cL_law_ 2593 = .ok (.iload 5, 2) := by decide +kernel
theorem dL_law__2595 : decode cL_law_ 2595 = .ok (.if_icmp .eq 5, 3) := by decide +kernel
theorem dL_law__2598 : decode cL_law_ 2598 = .ok (.iconst 0, 1) := by decide +kernel
theorem dL_law__2599 : decode cL_law_ 2599 = .ok (.ireturn, 1) := by decide +kernel
theorem dL_law__2600 : decode cL_law_ 2600 = .ok (.iload 5, 2) := by decide +kernel
theorem dL_law__2602 : decode cL_law_ 2602 = .ok (.ifCond .ne 15, 3) := by decide +kernel
theorem dL_law__2605 : decode cL_law_ 2605 = .ok (.aload_n 3, 1) := by decide +kernel
theorem dL_law__2606 : decode cL_law_ 2606 = .ok (.iconst 0, 1) := by decide +kernel
theorem dL_law__2607 : decode cL_law_ 2607 = .ok (.laload, 1) := by decide +kernel
theorem dL_law__2608 : decode cL_law_ 2608 = .ok (.iload 6, 2) := by decide +kernel
theorem dL_law__2610 : decode cL_law_ 2610 = .ok (.i2l, 1) := by decide +kernel
theorem dL_law__2611 : decode cL_law_ 2611 = .ok (.lcmp, 1) := by decide +kernel
theorem dL_law__2612 : decode cL_law_ 2612 = .ok (.ifCond .eq 5, 3) := by decide +kernel
theorem dL_law__2615 : decode cL_law_ 2615 = .ok (.iconst 0, 1) := by decide +kernel
theorem dL_law__2616 : decode cL_law_ 2616 = .ok (.ireturn, 1) := by decide +kernel
theorem dL_law__2617 : decode cL_law_ 2617 = .ok (.goto 296, 3) := by decide +kernel
theorem dL_law__2620 : decode cL_law_ 2620 = .ok (.aload_n 1, 1) := by decide +kernel
theorem dL_law__2621 : decode cL_law_ 2621 = .ok (.aload_n 0, 1) := by decide +kernel
theorem dL_law__2622 : decode cL_law_ 2622 = .ok (.iload 4, 2) := by decide +kernel
theorem dL_law__2624 : decode cL_law_ 2624 = .ok (.iconst 1, 1) := by decide +kernel
theorem dL_law__2625 : decode cL_law_ 2625 = .ok (.iadd, 1) := by decide +kernel
theorem dL_law__2626 : decode cL_law_ 2626 = .ok (.iaload, 1) := by decide +kernel
theorem dL_law__2627 : decode cL_law_ 2627 = .ok (.aload_n 3, 1) := by decide +kernel
theorem dL_law__2628 : decode cL_law_ 2628 = .ok (.invokestatic 277, 3) := by decide +kernel
theorem dL_law__2631 : decode cL_law_ 2631 = .ok (.istore 5, 2) := by decide +kernel
theorem dL_law__2633 : decode cL_law_ 2633 = .ok (.aload_n 2, 1) := by decide +kernel
theorem dL_law__2634 : decode cL_law_ 2634 = .ok (.aload_n 0, 1) := by decide +kernel
theorem dL_law__2635 : decode cL_law_ 2635 = .ok (.iload 4, 2) := by decide +kernel
theorem dL_law__2637 : decode cL_law_ 2637 = .ok (.iconst 1, 1) := by decide +kernel
theorem dL_law__2638 : decode cL_law_ 2638 = .ok (.iadd, 1) := by decide +kernel
theorem dL_law__2639 : decode cL_law_ 2639 = .ok (.iaload, 1) := by decide +kernel
theorem dL_law__2640 : decode cL_law_ 2640 = .ok (.invokevirtual 279, 3) := by decide +kernel
theorem dL_law__2643 : decode cL_law_ 2643 = .ok (.istore 6, 2) := by decide +kernel
theorem dL_law__2645 : decode cL_law_ 2645 = .ok (.aload_n 2, 1) := by decide +kernel
theorem dL_law__2646 : decode cL_law_ 2646 = .ok (.invokevirtual 158, 3) := by decide +kernel
theorem dL_law__2649 : decode cL_law_ 2649 = .ok (.iload 5, 2) := by decide +kernel
theorem dL_law__2651 : decode cL_law_ 2651 = .ok (.if_icmp .eq 5, 3) := by decide +kernel
theorem dL_law__2654 : decode cL_law_ 2654 = .ok (.iconst 0, 1) := by decide +kernel
theorem dL_law__2655 : decode cL_law_ 2655 = .ok (.ireturn, 1) := by decide +kernel
theorem dL_law__2656 : decode cL_law_ 2656 = .ok (.iload 5, 2) := by decide +kernel
theorem dL_law__2658 : decode cL_law_ 2658 = .ok (.ifCond .ne 15, 3) := by decide +kernel
theorem dL_law__2661 : decode cL_law_ 2661 = .ok (.aload_n 3, 1) := by decide +kernel
theorem dL_law__2662 : decode cL_law_ 2662 = .ok (.iconst 0, 1) := by decide +kernel
theorem dL_law__2663 : decode cL_law_ 2663 = .ok (.laload, 1) := by decide +kernel
theorem dL_law__2664 : decode cL_law_ 2664 = .ok (.iload 6, 2) := by decide +kernel
theorem dL_law__2666 : decode cL_law_ 2666 = .ok (.i2l, 1) := by decide +kernel
theorem dL_law__2667 : decode cL_law_ 2667 = .ok (.lcmp, 1) := by decide +kernel
theorem dL_law__2668 : decode cL_law_ 2668 = .ok (.ifCond .eq 5, 3) := by decide +kernel
theorem dL_law__2671 : decode cL_law_ 2671 = .ok (.iconst 0, 1) := by decide +kernel
theorem dL_law__2672 : decode cL_law_ 2672 = .ok (.ireturn, 1) := by decide +kernel
theorem dL_law__2673 : decode cL_law_ 2673 = .ok (.goto 240, 3) := by decide +kernel
theorem dL_law__2676 : decode cL_law_ 2676 = .ok (.aload_n 1, 1) := by decide +kernel
theorem dL_law__2677 : decode cL_law_ 2677 = .ok (.aload_n 0, 1) := by decide +kernel
theorem dL_law__2678 : decode cL_law_ 2678 = .ok (.iload 4, 2) := by decide +kernel
theorem dL_law__2680 : decode cL_law_ 2680 = .ok (.iconst 1, 1) := by decide +kernel
theorem dL_law__2681 : decode cL_law_ 2681 = .ok (.iadd, 1) := by decide +kernel
theorem dL_law__2682 : decode cL_law_ 2682 = .ok (.iaload, 1) := by decide +kernel
theorem dL_law__2683 : decode cL_law_ 2683 = .ok (.aload_n 3, 1) := by decide +kernel
theorem dL_law__2684 : decode cL_law_ 2684 = .ok (.invokestatic 280, 3) := by decide +kernel
theorem dL_law__2687 : decode cL_law_ 2687 = .ok (.istore 5, 2) := by decide +kernel
theorem dL_law__2689 : decode cL_law_ 2689 = .ok (.aload_n 2, 1) := by decide +kernel
theorem dL_law__2690 : decode cL_law_ 2690 = .ok (.aload_n 0, 1) := by decide +kernel
theorem dL_law__2691 : decode cL_law_ 2691 = .ok (.iload 4, 2) := by decide +kernel
theorem dL_law__2693 : decode cL_law_ 2693 = .ok (.iconst 1, 1) := by decide +kernel
theorem dL_law__2694 : decode cL_law_ 2694 = .ok (.iadd, 1) := by decide +kernel
theorem dL_law__2695 : decode cL_law_ 2695 = .ok (.iaload, 1) := by decide +kernel
theorem dL_law__2696 : decode cL_law_ 2696 = .ok (.invokevirtual 282, 3) := by decide +kernel
theorem dL_law__2699 : decode cL_law_ 2699 = .ok (.istore 6, 2) := by decide +kernel
theorem dL_law__2701 : decode cL_law_ 2701 = .ok (.aload_n 2, 1) := by decide +kernel
theorem dL_law__2702 : decode cL_law_ 2702 = .ok (.invokevirtual 158, 3) := by decide +kernel
theorem dL_law__2705 : decode cL_law_ 2705 = .ok (.iload 5, 2) := by decide +kernel
theorem dL_law__2707 : decode cL_law_ 2707 = .ok (.if_icmp .eq 5, 3) := by decide +kernel
theorem dL_law__2710 : decode cL_law_ 2710 = .ok (.iconst 0, 1) := by decide +kernel
theorem dL_law__2711 : decode cL_law_ 2711 = .ok (.ireturn, 1) := by decide +kernel
theorem dL_law__2712 : decode cL_law_ 2712 = .ok (.iload 5, 2) := by decide +kernel
theorem dL_law__2714 : decode cL_law_ 2714 = .ok (.ifCond .ne 15, 3) := by decide +kernel
theorem dL_law__2717 : decode cL_law_ 2717 = .ok (.aload_n 3, 1) := by decide +kernel
theorem dL_law__2718 : decode cL_law_ 2718 = .ok (.iconst 0, 1) := by decide +kernel
theorem dL_law__2719 : decode cL_law_ 2719 = .ok (.laload, 1) := by decide +kernel
theorem dL_law__2720 : decode cL_law_ 2720 = .ok (.iload 6, 2) := by decide +kernel
theorem dL_law__2722 : decode cL_law_ 2722 = .ok (.i2l, 1) := by decide +kernel
theorem dL_law__2723 : decode cL_law_ 2723 = .ok (.lcmp, 1) := by decide +kernel
theorem dL_law__2724 : decode cL_law_ 2724 = .ok (.ifCond .eq 5, 3) := by decide +kernel
theorem dL_law__2727 : decode cL_law_ 2727 = .ok (.iconst 0, 1) := by decide +kernel
theorem dL_law__2728 : decode cL_law_ 2728 = .ok (.ireturn, 1) := by decide +kernel
theorem dL_law__2729 : decode cL_law_ 2729 = .ok (.goto 184, 3) := by decide +kernel
theorem dL_law__2732 : decode cL_law_ 2732 = .ok (.aload_n 1, 1) := by decide +kernel
theorem dL_law__2733 : decode cL_law_ 2733 = .ok (.invokevirtual 283, 3) := by decide +kernel
theorem dL_law__2736 : decode cL_law_ 2736 = .ok (.aload_n 2, 1) := by decide +kernel
theorem dL_law__2737 : decode cL_law_ 2737 = .ok (.invokevirtual 286, 3) := by decide +kernel
theorem dL_law__2740 : decode cL_law_ 2740 = .ok (.if_icmp .eq 173, 3) := by decide +kernel
theorem dL_law__2743 : decode cL_law_ 2743 = .ok (.iconst 0, 1) := by decide +kernel
theorem dL_law__2744 : decode cL_law_ 2744 = .ok (.ireturn, 1) := by decide +kernel
theorem dL_law__2745 : decode cL_law_ 2745 = .ok (.aload_n 1, 1) := by decide +kernel
theorem dL_law__2746 : decode cL_law_ 2746 = .ok (.invokevirtual 287, 3) := by decide +kernel
theorem dL_law__2749 : decode cL_law_ 2749 = .ok (.aload_n 2, 1) := by decide +kernel
theorem dL_law__2750 : decode cL_law_ 2750 = .ok (.invokevirtual 290, 3) := by decide +kernel
theorem dL_law__2753 : decode cL_law_ 2753 = .ok (.if_icmp .eq 160, 3) := by decide +kernel
theorem dL_law__2756 : decode cL_law_ 2756 = .ok (.iconst 0, 1) := by decide +kernel
theorem dL_law__2757 : decode cL_law_ 2757 = .ok (.ireturn, 1) := by decide +kernel
theorem dL_law__2758 : decode cL_law_ 2758 = .ok (.aload_n 1, 1) := by decide +kernel
theorem dL_law__2759 : decode cL_law_ 2759 = .ok (.aload_n 0, 1) := by decide +kernel
theorem dL_law__2760 : decode cL_law_ 2760 = .ok (.iload 4, 2) := by decide +kernel
theorem dL_law__2762 : decode cL_law_ 2762 = .ok (.iconst 1, 1) := by decide +kernel
theorem dL_law__2763 : decode cL_law_ 2763 = .ok (.iadd, 1) := by decide +kernel
theorem dL_law__2764 : decode cL_law_ 2764 = .ok (.iaload, 1) := by decide +kernel
theorem dL_law__2765 : decode cL_law_ 2765 = .ok (.aload_n 0, 1) := by decide +kernel
theorem dL_law__2766 : decode cL_law_ 2766 = .ok (.iload 4, 2) := by decide +kernel
theorem dL_law__2768 : decode cL_law_ 2768 = .ok (.iconst 2, 1) := by decide +kernel
theorem dL_law__2769 : decode cL_law_ 2769 = .ok (.iadd, 1) := by decide +kernel
theorem dL_law__2770 : decode cL_law_ 2770 = .ok (.iaload, 1) := by decide +kernel
theorem dL_law__2771 : decode cL_law_ 2771 = .ok (.aload_n 3, 1) := by decide +kernel
theorem dL_law__2772 : decode cL_law_ 2772 = .ok (.invokestatic 291, 3) := by decide +kernel
theorem dL_law__2775 : decode cL_law_ 2775 = .ok (.istore 5, 2) := by decide +kernel
theorem dL_law__2777 : decode cL_law_ 2777 = .ok (.aload_n 2, 1) := by decide +kernel
theorem dL_law__2778 : decode cL_law_ 2778 = .ok (.aload_n 0, 1) := by decide +kernel
theorem dL_law__2779 : decode cL_law_ 2779 = .ok (.iload 4, 2) := by decide +kernel
theorem dL_law__2781 : decode cL_law_ 2781 = .ok (.iconst 1, 1) := by decide +kernel
theorem dL_law__2782 : decode cL_law_ 2782 = .ok (.iadd, 1) := by decide +kernel
theorem dL_law__2783 : decode cL_law_ 2783 = .ok (.iaload, 1) := by decide +kernel
theorem dL_law__2784 : decode cL_law_ 2784 = .ok (.aload_n 0, 1) := by decide +kernel
theorem dL_law__2785 : decode cL_law_ 2785 = .ok (.iload 4, 2) := by decide +kernel
theorem dL_law__2787 : decode cL_law_ 2787 = .ok (.iconst 2, 1) := by decide +kernel
theorem dL_law__2788 : decode cL_law_ 2788 = .ok (.iadd, 1) := by decide +kernel
theorem dL_law__2789 : decode cL_law_ 2789 = .ok (.iaload, 1) := by decide +kernel
theorem dL_law__2790 : decode cL_law_ 2790 = .ok (.invokevirtual 293, 3) := by decide +kernel
theorem dL_law__2793 : decode cL_law_ 2793 = .ok (.istore 6, 2) := by decide +kernel
theorem dL_law__2795 : decode cL_law_ 2795 = .ok (.aload_n 2, 1) := by decide +kernel
theorem dL_law__2796 : decode cL_law_ 2796 = .ok (.invokevirtual 158, 3) := by decide +kernel
theorem dL_law__2799 : decode cL_law_ 2799 = .ok (.iload 5, 2) := by decide +kernel
theorem dL_law__2801 : decode cL_law_ 2801 = .ok (.if_icmp .eq 5, 3) := by decide +kernel
theorem dL_law__2804 : decode cL_law_ 2804 = .ok (.iconst 0, 1) := by decide +kernel
theorem dL_law__2805 : decode cL_law_ 2805 = .ok (.ireturn, 1) := by decide +kernel
theorem dL_law__2806 : decode cL_law_ 2806 = .ok (.iload 5, 2) := by decide +kernel
theorem dL_law__2808 : decode cL_law_ 2808 = .ok (.ifCond .ne 15, 3) := by decide +kernel
theorem dL_law__2811 : decode cL_law_ 2811 = .ok (.aload_n 3, 1) := by decide +kernel
theorem dL_law__2812 : decode cL_law_ 2812 = .ok (.iconst 0, 1) := by decide +kernel
theorem dL_law__2813 : decode cL_law_ 2813 = .ok (.laload, 1) := by decide +kernel
theorem dL_law__2814 : decode cL_law_ 2814 = .ok (.iload 6, 2) := by decide +kernel
theorem dL_law__2816 : decode cL_law_ 2816 = .ok (.i2l, 1) := by decide +kernel
theorem dL_law__2817 : decode cL_law_ 2817 = .ok (.lcmp, 1) := by decide +kernel
theorem dL_law__2818 : decode cL_law_ 2818 = .ok (.ifCond .eq 5, 3) := by decide +kernel
theorem dL_law__2821 : decode cL_law_ 2821 = .ok (.iconst 0, 1) := by decide +kernel
theorem dL_law__2822 : decode cL_law_ 2822 = .ok (.ireturn, 1) := by decide +kernel
theorem dL_law__2823 : decode cL_law_ 2823 = .ok (.goto 90, 3) := by decide +kernel
theorem dL_law__2826 : decode cL_law_ 2826 = .ok (.aload_n 1, 1) := by decide +kernel
theorem dL_law__2827 : decode cL_law_ 2827 = .ok (.aload_n 0, 1) := by decide +kernel
theorem dL_law__2828 : decode cL_law_ 2828 = .ok (.iload 4, 2) := by decide +kernel
theorem dL_law__2830 : decode cL_law_ 2830 = .ok (.iconst 1, 1) := by decide +kernel
theorem dL_law__2831 : decode cL_law_ 2831 = .ok (.iadd, 1) := by decide +kernel
theorem dL_law__2832 : decode cL_law_ 2832 = .ok (.iaload, 1) := by decide +kernel
theorem dL_law__2833 : decode cL_law_ 2833 = .ok (.invokevirtual 294, 3) := by decide +kernel
theorem dL_law__2836 : decode cL_law_ 2836 = .ok (.aload_n 2, 1) := by decide +kernel
theorem dL_law__2837 : decode cL_law_ 2837 = .ok (.aload_n 0, 1) := by decide +kernel
theorem dL_law__2838 : decode cL_law_ 2838 = .ok (.iload 4, 2) := by decide +kernel
theorem dL_law__2840 : decode cL_law_ 2840 = .ok (.iconst 1, 1) := by decide +kernel
theorem dL_law__2841 : decode cL_law_ 2841 = .ok (.iadd, 1) := by decide +kernel
theorem dL_law__2842 : decode cL_law_ 2842 = .ok (.iaload, 1) := by decide +kernel
theorem dL_law__2843 : decode cL_law_ 2843 = .ok (.invokevirtual 297, 3) := by decide +kernel
theorem dL_law__2846 : decode cL_law_ 2846 = .ok (.if_icmp .eq 67, 3) := by decide +kernel
theorem dL_law__2849 : decode cL_law_ 2849 = .ok (.iconst 0, 1) := by decide +kernel
theorem dL_law__2850 : decode cL_law_ 2850 = .ok (.ireturn, 1) := by decide +kernel
theorem dL_law__2851 : decode cL_law_ 2851 = .ok (.aload_n 1, 1) := by decide +kernel
theorem dL_law__2852 : decode cL_law_ 2852 = .ok (.invokevirtual 298, 3) := by decide +kernel
theorem dL_law__2855 : decode cL_law_ 2855 = .ok (.aload_n 2, 1) := by decide +kernel
theorem dL_law__2856 : decode cL_law_ 2856 = .ok (.invokevirtual 302, 3) := by decide +kernel
theorem dL_law__2859 : decode cL_law_ 2859 = .ok (.if_icmp .eq 54, 3) := by decide +kernel
theorem dL_law__2862 : decode cL_law_ 2862 = .ok (.iconst 0, 1) := by decide +kernel
theorem dL_law__2863 : decode cL_law_ 2863 = .ok (.ireturn, 1) := by decide +kernel
theorem dL_law__2864 : decode cL_law_ 2864 = .ok (.aload_n 1, 1) := by decide +kernel
theorem dL_law__2865 : decode cL_law_ 2865 = .ok (.invokevirtual 303, 3) := by decide +kernel
theorem dL_law__2868 : decode cL_law_ 2868 = .ok (.aload_n 2, 1) := by decide +kernel
theorem dL_law__2869 : decode cL_law_ 2869 = .ok (.invokevirtual 306, 3) := by decide +kernel
theorem dL_law__2872 : decode cL_law_ 2872 = .ok (.goto 41, 3) := by decide +kernel
theorem dL_law__2875 : decode cL_law_ 2875 = .ok (.aload_n 1, 1) := by decide +kernel
theorem dL_law__2876 : decode cL_law_ 2876 = .ok (.invokevirtual 307, 3) := by decide +kernel
theorem dL_law__2879 : decode cL_law_ 2879 = .ok (.aload_n 2, 1) := by decide +kernel
theorem dL_law__2880 : decode cL_law_ 2880 = .ok (.invokevirtual 310, 3) := by decide +kernel
theorem dL_law__2883 : decode cL_law_ 2883 = .ok (.if_icmp .eq 30, 3) := by decide +kernel
theorem dL_law__2886 : decode cL_law_ 2886 = .ok (.iconst 0, 1) := by decide +kernel
theorem dL_law__2887 : decode cL_law_ 2887 = .ok (.ireturn, 1) := by decide +kernel
theorem dL_law__2888 : decode cL_law_ 2888 = .ok (.aload_n 1, 1) := by decide +kernel
theorem dL_law__2889 : decode cL_law_ 2889 = .ok (.aload_n 0, 1) := by decide +kernel
theorem dL_law__2890 : decode cL_law_ 2890 = .ok (.iload 4, 2) := by decide +kernel
theorem dL_law__2892 : decode cL_law_ 2892 = .ok (.iconst 1, 1) := by decide +kernel
theorem dL_law__2893 : decode cL_law_ 2893 = .ok (.iadd, 1) := by decide +kernel
theorem dL_law__2894 : decode cL_law_ 2894 = .ok (.iaload, 1) := by decide +kernel
theorem dL_law__2895 : decode cL_law_ 2895 = .ok (.invokevirtual 311, 3) := by decide +kernel
theorem dL_law__2898 : decode cL_law_ 2898 = .ok (.aload_n 2, 1) := by decide +kernel
theorem dL_law__2899 : decode cL_law_ 2899 = .ok (.aload_n 0, 1) := by decide +kernel
theorem dL_law__2900 : decode cL_law_ 2900 = .ok (.iload 4, 2) := by decide +kernel
theorem dL_law__2902 : decode cL_law_ 2902 = .ok (.iconst 1, 1) := by decide +kernel
theorem dL_law__2903 : decode cL_law_ 2903 = .ok (.iadd, 1) := by decide +kernel
theorem dL_law__2904 : decode cL_law_ 2904 = .ok (.iaload, 1) := by decide +kernel
theorem dL_law__2905 : decode cL_law_ 2905 = .ok (.invokevirtual 314, 3) := by decide +kernel
theorem dL_law__2908 : decode cL_law_ 2908 = .ok (.if_icmp .eq 5, 3) := by decide +kernel
theorem dL_law__2911 : decode cL_law_ 2911 = .ok (.iconst 0, 1) := by decide +kernel
theorem dL_law__2912 : decode cL_law_ 2912 = .ok (.ireturn, 1) := by decide +kernel
theorem dL_law__2913 : decode cL_law_ 2913 = .ok (.iinc 4 6, 3) := by decide +kernel
theorem dL_law__2916 : decode cL_law_ 2916 = .ok (.goto (-2893), 3) := by decide +kernel
theorem dL_law__2919 : decode cL_law_ 2919 = .ok (.iconst 1, 1) := by decide +kernel
theorem dL_law__2920 : decode cL_law_ 2920 = .ok (.ireturn, 1) := by decide +kernel
