theorem kw_0 : (Cond.selects "BackVillage" ⟨"BackVillage", "remember", "()V"⟩ ⟨"BackVillage", "remember", "()V"⟩) ∈ GW := gwp_1 (q := (⟨"BackVillage", "remember", "()V"⟩, 13)) (i := 0) (by decide +kernel)
theorem kw_1 : (Cond.selects "BackVillage" ⟨"BackVillage", "pastAt", "(I)LBackVillage$State;"⟩ ⟨"BackVillage", "pastAt", "(I)LBackVillage$State;"⟩) ∈ GW := gwp_1 (q := (⟨"BackVillage", "pastAt", "(I)LBackVillage$State;"⟩, 13)) (i := 1) (by decide +kernel)
theorem kw_3 : (Cond.selects "BackVillage$Mind" ⟨"BackVillage$Mind", "spot", "(LBackVillage$State;LBackVillage$Cells;II)V"⟩ ⟨"BackVillage$Mind", "spot", "(LBackVillage$State;LBackVillage$Cells;II)V"⟩) ∈ GW := gwp_1 (q := (⟨"BackVillage$Mind", "spot", "(LBackVillage$State;LBackVillage$Cells;II)V"⟩, 9)) (i := 3) (by decide +kernel)
theorem kw_4 : (Cond.selects "BackVillage$Mind" ⟨"BackVillage$Mind", "spotted", "(LBackVillage$State;II)I"⟩ ⟨"BackVillage$Mind", "spotted", "(LBackVillage$State;II)I"⟩) ∈ GW := gwp_1 (q := (⟨"BackVillage$Mind", "spotted", "(LBackVillage$State;II)I"⟩, 9)) (i := 4) (by decide +kernel)
theorem kw_5 : (Cond.selects "BackVillage$Acts" ⟨"BackVillage$Acts", "heardByAll", "(LBackVillage$State;)I"⟩ ⟨"BackVillage$Acts", "heardByAll", "(LBackVillage$State;)I"⟩) ∈ GW := gwp_1 (q := (⟨"BackVillage$Acts", "heardByAll", "(LBackVillage$State;)I"⟩, 1)) (i := 5) (by decide +kernel)
theorem kw_6 : (Cond.selects "BackVillage$Mind" ⟨"BackVillage$Mind", "holdsWorld", "(LBackVillage$State;II)Z"⟩ ⟨"BackVillage$Mind", "holdsWorld", "(LBackVillage$State;II)Z"⟩) ∈ GW := gwp_1 (q := (⟨"BackVillage$Mind", "holdsWorld", "(LBackVillage$State;II)Z"⟩, 9)) (i := 6) (by decide +kernel)
theorem kw_7 : (Cond.selects "BackVillage" ⟨"BackVillage", "forgetPast", "()V"⟩ ⟨"BackVillage", "forgetPast", "()V"⟩) ∈ GW := gwp_1 (q := (⟨"BackVillage", "forgetPast", "()V"⟩, 13)) (i := 7) (by decide +kernel)
theorem kw_8 : (Cond.selects "BackVillage$LawReader" ⟨"BackVillage$LawReader", "readAny", "(I)Z"⟩ ⟨"BackVillage$LawReader", "readAny", "(I)Z"⟩) ∈ GW := gwp_1 (q := (⟨"BackVillage$LawReader", "readAny", "(I)Z"⟩, 13)) (i := 8) (by decide +kernel)
theorem kw_9 : (Cond.selects "BackVillage$LawReader" ⟨"BackVillage$LawReader", "readAll", "(I)Z"⟩ ⟨"BackVillage$LawReader", "readAll", "(I)Z"⟩) ∈ GW := gwp_1 (q := (⟨"BackVillage$LawReader", "readAll", "(I)Z"⟩, 13)) (i := 9) (by decide +kernel)
theorem kw_10 : (Cond.selects "BackVillage$LawReader" ⟨"BackVillage$LawReader", "readAtom", "(I)Z"⟩ ⟨"BackVillage$LawReader", "readAtom", "(I)Z"⟩) ∈ GW := gwp_1 (q := (⟨"BackVillage$LawReader", "readAtom", "(I)Z"⟩, 13)) (i := 10) (by decide +kernel)
theorem kw_11 : (Cond.selects "BackVillage$LawReader" ⟨"BackVillage$LawReader", "add", "(I)Z"⟩ ⟨"BackVillage$LawReader", "add", "(I)Z"⟩) ∈ GW := gwp_1 (q := (⟨"BackVillage$LawReader", "add", "(I)Z"⟩, 13)) (i := 11) (by decide +kernel)
theorem kw_12 : (Cond.selects "BackVillage$LawReader" ⟨"BackVillage$LawReader", "readSum", "()Z"⟩ ⟨"BackVillage$LawReader", "readSum", "()Z"⟩) ∈ GW := gwp_1 (q := (⟨"BackVillage$LawReader", "readSum", "()Z"⟩, 13)) (i := 12) (by decide +kernel)
theorem kw_13 : (Cond.selects "BackVillage$LawReader" ⟨"BackVillage$LawReader", "partNext", "()I"⟩ ⟨"BackVillage$LawReader", "partNext", "()I"⟩) ∈ GW := gwp_1 (q := (⟨"BackVillage$LawReader", "partNext", "()I"⟩, 13)) (i := 13) (by decide +kernel)
theorem kw_14 : (Cond.selects "BackVillage$VillageReader" ⟨"BackVillage$VillageReader", "readValues", "(I)Z"⟩ ⟨"BackVillage$VillageReader", "readValues", "(I)Z"⟩) ∈ GW := gwp_1 (q := (⟨"BackVillage$VillageReader", "readValues", "(I)Z"⟩, 15)) (i := 14) (by decide +kernel)
theorem kw_15 : (Cond.selects "BackVillage$VillageReader" ⟨"BackVillage$VillageReader", "readPerson", "(I)Z"⟩ ⟨"BackVillage$VillageReader", "readPerson", "(I)Z"⟩) ∈ GW := gwp_1 (q := (⟨"BackVillage$VillageReader", "readPerson", "(I)Z"⟩, 15)) (i := 15) (by decide +kernel)
theorem kw_16 : (Cond.selects "BackVillage$VillageReader" ⟨"BackVillage$VillageReader", "readSees", "()Z"⟩ ⟨"BackVillage$VillageReader", "readSees", "()Z"⟩) ∈ GW := gwp_2 (q := (⟨"BackVillage$VillageReader", "readSees", "()Z"⟩, 15)) (i := 0) (by decide +kernel)
theorem kw_17 : (Cond.selects "BackVillage$VillageReader" ⟨"BackVillage$VillageReader", "readTwo", "()Z"⟩ ⟨"BackVillage$VillageReader", "readTwo", "()Z"⟩) ∈ GW := gwp_2 (q := (⟨"BackVillage$VillageReader", "readTwo", "()Z"⟩, 15)) (i := 1) (by decide +kernel)
theorem kw_18 : (Cond.selects "BackVillage$VillageReader" ⟨"BackVillage$VillageReader", "readLimit", "(IZ)Z"⟩ ⟨"BackVillage$VillageReader", "readLimit", "(IZ)Z"⟩) ∈ GW := gwp_2 (q := (⟨"BackVillage$VillageReader", "readLimit", "(IZ)Z"⟩, 15)) (i := 2) (by decide +kernel)
theorem kw_19 : (Cond.selects "BackVillage$VillageReader" ⟨"BackVillage$VillageReader", "tellAll", "(I)Z"⟩ ⟨"BackVillage$VillageReader", "tellAll", "(I)Z"⟩) ∈ GW := gwp_2 (q := (⟨"BackVillage$VillageReader", "tellAll", "(I)Z"⟩, 15)) (i := 3) (by decide +kernel)
theorem kw_20 : (Cond.selects "BackVillage$VillageReader" ⟨"BackVillage$VillageReader", "readMatch", "(IZ)Z"⟩ ⟨"BackVillage$VillageReader", "readMatch", "(IZ)Z"⟩) ∈ GW := gwp_2 (q := (⟨"BackVillage$VillageReader", "readMatch", "(IZ)Z"⟩, 15)) (i := 4) (by decide +kernel)
theorem kw_21 : (Cond.selects "BackVillage" ⟨"BackVillage", "needPerson", "(I)V"⟩ ⟨"BackVillage", "needPerson", "(I)V"⟩) ∈ GW := gwp_2 (q := (⟨"BackVillage", "needPerson", "(I)V"⟩, 13)) (i := 5) (by decide +kernel)
theorem kw_22 : (Cond.selects "BackVillage" ⟨"BackVillage", "needWorld", "(I)V"⟩ ⟨"BackVillage", "needWorld", "(I)V"⟩) ∈ GW := gwp_2 (q := (⟨"BackVillage", "needWorld", "(I)V"⟩, 13)) (i := 6) (by decide +kernel)
theorem kw_23 : (Cond.selects "BackVillage" ⟨"BackVillage", "needLeft", "(I)V"⟩ ⟨"BackVillage", "needLeft", "(I)V"⟩) ∈ GW := gwp_2 (q := (⟨"BackVillage", "needLeft", "(I)V"⟩, 13)) (i := 7) (by decide +kernel)
theorem kw_24 : (Cond.selects "BackVillage" ⟨"BackVillage", "needTwo", "(II)V"⟩ ⟨"BackVillage", "needTwo", "(II)V"⟩) ∈ GW := gwp_2 (q := (⟨"BackVillage", "needTwo", "(II)V"⟩, 13)) (i := 8) (by decide +kernel)
theorem kw_25 : (Cond.selects "BackVillage" ⟨"BackVillage", "needSight", "(II)V"⟩ ⟨"BackVillage", "needSight", "(II)V"⟩) ∈ GW := gwp_2 (q := (⟨"BackVillage", "needSight", "(II)V"⟩, 13)) (i := 9) (by decide +kernel)
theorem kw_26 : (Cond.selects "BackVillage$Mind" ⟨"BackVillage$Mind", "firstLike", "(I)I"⟩ ⟨"BackVillage$Mind", "firstLike", "(I)I"⟩) ∈ GW := gwp_2 (q := (⟨"BackVillage$Mind", "firstLike", "(I)I"⟩, 9)) (i := 10) (by decide +kernel)
theorem kw_27 : (Cond.selects "BackVillage" ⟨"BackVillage", "needNotice", "(I)V"⟩ ⟨"BackVillage", "needNotice", "(I)V"⟩) ∈ GW := gwp_2 (q := (⟨"BackVillage", "needNotice", "(I)V"⟩, 13)) (i := 11) (by decide +kernel)
theorem kw_28 : (Cond.selects "BackVillage" ⟨"BackVillage", "needNumber", "(III)V"⟩ ⟨"BackVillage", "needNumber", "(III)V"⟩) ∈ GW := gwp_2 (q := (⟨"BackVillage", "needNumber", "(III)V"⟩, 13)) (i := 12) (by decide +kernel)
theorem kw_29 : (Cond.selects "BackVillage$Mind" ⟨"BackVillage$Mind", "spread", "(LBackVillage$State;I)Z"⟩ ⟨"BackVillage$Mind", "spread", "(LBackVillage$State;I)Z"⟩) ∈ GW := gwp_2 (q := (⟨"BackVillage$Mind", "spread", "(LBackVillage$State;I)Z"⟩, 9)) (i := 13) (by decide +kernel)
theorem kw_30 : (Cond.selects "BackVillage" ⟨"BackVillage", "needPersonOrNone", "(I)V"⟩ ⟨"BackVillage", "needPersonOrNone", "(I)V"⟩) ∈ GW := gwp_2 (q := (⟨"BackVillage", "needPersonOrNone", "(I)V"⟩, 13)) (i := 14) (by decide +kernel)
theorem kw_31 : (Cond.selects "BackVillage$Puzzles" ⟨"BackVillage$Puzzles", "gatherDoubts", "(LBackVillage$State;I)V"⟩ ⟨"BackVillage$Puzzles", "gatherDoubts", "(LBackVillage$State;I)V"⟩) ∈ GW := gwp_2 (q := (⟨"BackVillage$Puzzles", "gatherDoubts", "(LBackVillage$State;I)V"⟩, 7)) (i := 15) (by decide +kernel)
theorem kw_32 : (Cond.selects "BackVillage$Puzzles" ⟨"BackVillage$Puzzles", "unlikeBits", "(LBackVillage$State;I)I"⟩ ⟨"BackVillage$Puzzles", "unlikeBits", "(LBackVillage$State;I)I"⟩) ∈ GW := gwp_3 (q := (⟨"BackVillage$Puzzles", "unlikeBits", "(LBackVillage$State;I)I"⟩, 7)) (i := 0) (by decide +kernel)
theorem kw_33 : (Cond.selects "BackVillage$Puzzles" ⟨"BackVillage$Puzzles", "settles", "(I)Z"⟩ ⟨"BackVillage$Puzzles", "settles", "(I)Z"⟩) ∈ GW := gwp_3 (q := (⟨"BackVillage$Puzzles", "settles", "(I)Z"⟩, 7)) (i := 1) (by decide +kernel)
theorem kw_34 : (Cond.selects "BackVillage$Mind" ⟨"BackVillage$Mind", "weigh", "(LBackVillage$State;II)V"⟩ ⟨"BackVillage$Mind", "weigh", "(LBackVillage$State;II)V"⟩) ∈ GW := gwp_3 (q := (⟨"BackVillage$Mind", "weigh", "(LBackVillage$State;II)V"⟩, 9)) (i := 2) (by decide +kernel)
theorem kw_35 : (Cond.selects "BackVillage$Mind" ⟨"BackVillage$Mind", "weighed", "(LBackVillage$State;II)I"⟩ ⟨"BackVillage$Mind", "weighed", "(LBackVillage$State;II)I"⟩) ∈ GW := gwp_3 (q := (⟨"BackVillage$Mind", "weighed", "(LBackVillage$State;II)I"⟩, 9)) (i := 3) (by decide +kernel)
theorem kw_36 : (Cond.selects "BackVillage$Mind" ⟨"BackVillage$Mind", "makesSureSomewhere", "(LBackVillage$State;I)Z"⟩ ⟨"BackVillage$Mind", "makesSureSomewhere", "(LBackVillage$State;I)Z"⟩) ∈ GW := gwp_3 (q := (⟨"BackVillage$Mind", "makesSureSomewhere", "(LBackVillage$State;I)Z"⟩, 9)) (i := 4) (by decide +kernel)
theorem kw_37 : (Cond.selects "BackVillage$Puzzles" ⟨"BackVillage$Puzzles", "questionIn", "(LBackVillage$State;LBackVillage$Cells;I)I"⟩ ⟨"BackVillage$Puzzles", "questionIn", "(LBackVillage$State;LBackVillage$Cells;I)I"⟩) ∈ GW := gwp_3 (q := (⟨"BackVillage$Puzzles", "questionIn", "(LBackVillage$State;LBackVillage$Cells;I)I"⟩, 7)) (i := 5) (by decide +kernel)
theorem kw_38 : (Cond.selects "BackVillage$Puzzles" ⟨"BackVillage$Puzzles", "sureByTwo", "(LBackVillage$State;I)Z"⟩ ⟨"BackVillage$Puzzles", "sureByTwo", "(LBackVillage$State;I)Z"⟩) ∈ GW := gwp_3 (q := (⟨"BackVillage$Puzzles", "sureByTwo", "(LBackVillage$State;I)Z"⟩, 7)) (i := 6) (by decide +kernel)
theorem kw_39 : (Cond.selects "BackVillage$Puzzles" ⟨"BackVillage$Puzzles", "bestMove", "(LBackVillage$State;II)I"⟩ ⟨"BackVillage$Puzzles", "bestMove", "(LBackVillage$State;II)I"⟩) ∈ GW := gwp_3 (q := (⟨"BackVillage$Puzzles", "bestMove", "(LBackVillage$State;II)I"⟩, 7)) (i := 7) (by decide +kernel)
theorem kw_40 : (Cond.selects "BackVillage" ⟨"BackVillage", "sureBehindStroll", "(II)I"⟩ ⟨"BackVillage", "sureBehindStroll", "(II)I"⟩) ∈ GW := gwp_3 (q := (⟨"BackVillage", "sureBehindStroll", "(II)I"⟩, 13)) (i := 8) (by decide +kernel)
theorem kw_41 : (Cond.selects "BackVillage$Mind" ⟨"BackVillage$Mind", "tally", "(LBackVillage$State;I)V"⟩ ⟨"BackVillage$Mind", "tally", "(LBackVillage$State;I)V"⟩) ∈ GW := gwp_3 (q := (⟨"BackVillage$Mind", "tally", "(LBackVillage$State;I)V"⟩, 9)) (i := 9) (by decide +kernel)
theorem kw_42 : (Cond.selects "BackVillage$Mind" ⟨"BackVillage$Mind", "bestIn", "(LBackVillage$State;II)I"⟩ ⟨"BackVillage$Mind", "bestIn", "(LBackVillage$State;II)I"⟩) ∈ GW := gwp_3 (q := (⟨"BackVillage$Mind", "bestIn", "(LBackVillage$State;II)I"⟩, 9)) (i := 10) (by decide +kernel)
theorem kw_43 : (Cond.selects "BackVillage$Mind" ⟨"BackVillage$Mind", "strikeWrong", "(LBackVillage$State;I)V"⟩ ⟨"BackVillage$Mind", "strikeWrong", "(LBackVillage$State;I)V"⟩) ∈ GW := gwp_3 (q := (⟨"BackVillage$Mind", "strikeWrong", "(LBackVillage$State;I)V"⟩, 9)) (i := 11) (by decide +kernel)
theorem kw_44 : (Cond.selects "BackVillage$Puzzles" ⟨"BackVillage$Puzzles", "personAt", "(LBackVillage$Tape;I)I"⟩ ⟨"BackVillage$Puzzles", "personAt", "(LBackVillage$Tape;I)I"⟩) ∈ GW := gwp_3 (q := (⟨"BackVillage$Puzzles", "personAt", "(LBackVillage$Tape;I)I"⟩, 7)) (i := 12) (by decide +kernel)
theorem kw_45 : (Cond.selects "BackVillage$Puzzles" ⟨"BackVillage$Puzzles", "gatherPairs", "(LBackVillage$State;LBackVillage$Tape;I)V"⟩ ⟨"BackVillage$Puzzles", "gatherPairs", "(LBackVillage$State;LBackVillage$Tape;I)V"⟩) ∈ GW := gwp_3 (q := (⟨"BackVillage$Puzzles", "gatherPairs", "(LBackVillage$State;LBackVillage$Tape;I)V"⟩, 7)) (i := 13) (by decide +kernel)
theorem kw_46 : (Cond.selects "BackVillage$Puzzles" ⟨"BackVillage$Puzzles", "mayFollow", "(II)Z"⟩ ⟨"BackVillage$Puzzles", "mayFollow", "(II)Z"⟩) ∈ GW := gwp_3 (q := (⟨"BackVillage$Puzzles", "mayFollow", "(II)Z"⟩, 7)) (i := 14) (by decide +kernel)
theorem kw_47 : (Cond.selects "BackVillage$Puzzles" ⟨"BackVillage$Puzzles", "placeInRow", "(LBackVillage$State;I)I"⟩ ⟨"BackVillage$Puzzles", "placeInRow", "(LBackVillage$State;I)I"⟩) ∈ GW := gwp_3 (q := (⟨"BackVillage$Puzzles", "placeInRow", "(LBackVillage$State;I)I"⟩, 7)) (i := 15) (by decide +kernel)
theorem kw_48 : (Cond.selects "BackVillage$Puzzles" ⟨"BackVillage$Puzzles", "liarsIn", "(LBackVillage$State;LBackVillage$Tape;II)I"⟩ ⟨"BackVillage$Puzzles", "liarsIn", "(LBackVillage$State;LBackVillage$Tape;II)I"⟩) ∈ GW := gwp_4 (q := (⟨"BackVillage$Puzzles", "liarsIn", "(LBackVillage$State;LBackVillage$Tape;II)I"⟩, 7)) (i := 0) (by decide +kernel)
theorem kw_49 : (Cond.selects "BackVillage$Puzzles" ⟨"BackVillage$Puzzles", "gatherFriends", "(LBackVillage$State;)V"⟩ ⟨"BackVillage$Puzzles", "gatherFriends", "(LBackVillage$State;)V"⟩) ∈ GW := gwp_4 (q := (⟨"BackVillage$Puzzles", "gatherFriends", "(LBackVillage$State;)V"⟩, 7)) (i := 1) (by decide +kernel)
theorem kw_50 : (Cond.selects "BackVillage$Puzzles" ⟨"BackVillage$Puzzles", "mayPair", "(III)Z"⟩ ⟨"BackVillage$Puzzles", "mayPair", "(III)Z"⟩) ∈ GW := gwp_4 (q := (⟨"BackVillage$Puzzles", "mayPair", "(III)Z"⟩, 7)) (i := 2) (by decide +kernel)
theorem kw_51 : (Cond.selects "BackVillage$Puzzles" ⟨"BackVillage$Puzzles", "partnerOf", "(LBackVillage$State;I)I"⟩ ⟨"BackVillage$Puzzles", "partnerOf", "(LBackVillage$State;I)I"⟩) ∈ GW := gwp_4 (q := (⟨"BackVillage$Puzzles", "partnerOf", "(LBackVillage$State;I)I"⟩, 7)) (i := 3) (by decide +kernel)
theorem kw_137 : (Cond.initialized "BackVillage") ∈ GW := gw_1 (i := 1) (by decide +kernel) rfl
theorem kw_138 : (Cond.initialized "BackVillage$Tape") ∈ GW := gw_1 (i := 2) (by decide +kernel) rfl
theorem kw_139 : (Cond.initialized "BackVillage$Cells") ∈ GW := gw_1 (i := 3) (by decide +kernel) rfl
theorem kw_141 : (Cond.initialized "BackVillage$Mind") ∈ GW := gw_1 (i := 5) (by decide +kernel) rfl
theorem kw_142 : (Cond.initialized "BackVillage$Acts") ∈ GW := gw_1 (i := 6) (by decide +kernel) rfl
theorem kw_143 : (Cond.initialized "BackVillage$Puzzles") ∈ GW := gw_1 (i := 7) (by decide +kernel) rfl
theorem kw_144 : (Cond.initialized "BackVillage$TextReader") ∈ GW := gw_1 (i := 8) (by decide +kernel) rfl
theorem kw_145 : (Cond.initialized "BackVillage$VillageReader") ∈ GW := gw_1 (i := 9) (by decide +kernel) rfl
theorem kw_146 : (Cond.initialized "BackVillage$LawReader") ∈ GW := gw_1 (i := 10) (by decide +kernel) rfl
theorem kw_147 : (Cond.initialized "BackVillage$State") ∈ GW := gw_1 (i := 11) (by decide +kernel) rfl
theorem kw_149 : (Cond.initialized "java/util/Arrays") ∈ GW := gw_1 (i := 13) (by decide +kernel) rfl
theorem kw_150 : (Cond.initialized "java/lang/System") ∈ GW := gw_1 (i := 14) (by decide +kernel) rfl
theorem kw_167 : (Cond.initialized "BackVillage$Law") ∈ GW := gw_1 (i := 31) (by decide +kernel) rfl
theorem kw_190 : (Cond.methodLink "BackVillage$Cells" 7 ⟨"java/lang/Math", "max", "(II)I"⟩) ∈ GW := gw_1 (i := 54) (by decide +kernel) rfl
theorem kw_193 : (Cond.fieldLink "BackVillage$Cells" 13 "BackVillage$Cells" "cells" "[I") ∈ GW := gw_1 (i := 57) (by decide +kernel) rfl
theorem kw_194 : (Cond.lays "BackVillage$Cells" "BackVillage$Cells" "cells" "[I") ∈ GW := gw_1 (i := 58) (by decide +kernel) rfl
theorem kw_198 : (Cond.fieldLink "BackVillage$Tape" 14 "BackVillage$Tape" "bytes" "LBackVillage$Cells;") ∈ GW := gw_1 (i := 62) (by decide +kernel) rfl
theorem kw_199 : (Cond.fieldLink "BackVillage$Tape" 18 "BackVillage$Tape" "size" "I") ∈ GW := gw_1 (i := 63) (by decide +kernel) rfl
theorem kw_200 : (Cond.laysFinal "BackVillage$Tape" "BackVillage$Tape" "bytes" "LBackVillage$Cells;") ∈ GW := gw_1 (i := 64) (by decide +kernel) rfl
theorem kw_202 : (Cond.lays "BackVillage$Tape" "BackVillage$Tape" "size" "I") ∈ GW := gw_1 (i := 66) (by decide +kernel) rfl
theorem kw_213 : (Cond.fieldLink "BackVillage$Mind" 18 "BackVillage$Mind" "table" "LBackVillage$Cells;") ∈ GW := gw_1 (i := 77) (by decide +kernel) rfl
theorem kw_214 : (Cond.fieldLink "BackVillage$Mind" 22 "BackVillage$Mind" "masks" "LBackVillage$Cells;") ∈ GW := gw_1 (i := 78) (by decide +kernel) rfl
theorem kw_215 : (Cond.fieldLink "BackVillage$Mind" 25 "BackVillage$Mind" "marks" "LBackVillage$Cells;") ∈ GW := gw_1 (i := 79) (by decide +kernel) rfl
theorem kw_216 : (Cond.fieldLink "BackVillage$Mind" 28 "BackVillage$Mind" "says" "LBackVillage$Cells;") ∈ GW := gw_1 (i := 80) (by decide +kernel) rfl
theorem kw_217 : (Cond.fieldLink "BackVillage$Mind" 31 "BackVillage$Mind" "spare" "LBackVillage$Cells;") ∈ GW := gw_1 (i := 81) (by decide +kernel) rfl
theorem kw_218 : (Cond.fieldLink "BackVillage$Mind" 34 "BackVillage$Mind" "manners" "LBackVillage$Cells;") ∈ GW := gw_1 (i := 82) (by decide +kernel) rfl
theorem kw_219 : (Cond.fieldLink "BackVillage$Mind" 37 "BackVillage$Mind" "firsts" "LBackVillage$Cells;") ∈ GW := gw_1 (i := 83) (by decide +kernel) rfl
theorem kw_220 : (Cond.fieldLink "BackVillage$Mind" 42 "BackVillage$Mind" "facts" "LBackVillage$Cells;") ∈ GW := gw_1 (i := 84) (by decide +kernel) rfl
theorem kw_221 : (Cond.fieldLink "BackVillage$Mind" 45 "BackVillage$Mind" "pile" "LBackVillage$Cells;") ∈ GW := gw_1 (i := 85) (by decide +kernel) rfl
theorem kw_222 : (Cond.laysFinal "BackVillage$Mind" "BackVillage$Mind" "table" "LBackVillage$Cells;") ∈ GW := gw_1 (i := 86) (by decide +kernel) rfl
theorem kw_224 : (Cond.laysFinal "BackVillage$Mind" "BackVillage$Mind" "masks" "LBackVillage$Cells;") ∈ GW := gw_1 (i := 88) (by decide +kernel) rfl
theorem kw_226 : (Cond.laysFinal "BackVillage$Mind" "BackVillage$Mind" "marks" "LBackVillage$Cells;") ∈ GW := gw_1 (i := 90) (by decide +kernel) rfl
theorem kw_228 : (Cond.laysFinal "BackVillage$Mind" "BackVillage$Mind" "says" "LBackVillage$Cells;") ∈ GW := gw_1 (i := 92) (by decide +kernel) rfl
theorem kw_230 : (Cond.laysFinal "BackVillage$Mind" "BackVillage$Mind" "spare" "LBackVillage$Cells;") ∈ GW := gw_1 (i := 94) (by decide +kernel) rfl
theorem kw_232 : (Cond.laysFinal "BackVillage$Mind" "BackVillage$Mind" "manners" "LBackVillage$Cells;") ∈ GW := gw_1 (i := 96) (by decide +kernel) rfl
theorem kw_234 : (Cond.laysFinal "BackVillage$Mind" "BackVillage$Mind" "firsts" "LBackVillage$Cells;") ∈ GW := gw_1 (i := 98) (by decide +kernel) rfl
theorem kw_236 : (Cond.laysFinal "BackVillage$Mind" "BackVillage$Mind" "facts" "LBackVillage$Cells;") ∈ GW := gw_1 (i := 100) (by decide +kernel) rfl
theorem kw_238 : (Cond.laysFinal "BackVillage$Mind" "BackVillage$Mind" "pile" "LBackVillage$Cells;") ∈ GW := gw_1 (i := 102) (by decide +kernel) rfl
theorem kw_247 : (Cond.fieldLink "BackVillage$Acts" 9 "BackVillage$Acts" "mind" "LBackVillage$Mind;") ∈ GW := gw_1 (i := 111) (by decide +kernel) rfl
theorem kw_248 : (Cond.laysFinal "BackVillage$Acts" "BackVillage$Acts" "mind" "LBackVillage$Mind;") ∈ GW := gw_1 (i := 112) (by decide +kernel) rfl
theorem kw_259 : (Cond.fieldLink "BackVillage$Puzzles" 34 "BackVillage$Puzzles" "mind" "LBackVillage$Mind;") ∈ GW := gw_1 (i := 123) (by decide +kernel) rfl
theorem kw_260 : (Cond.fieldLink "BackVillage$Puzzles" 16 "BackVillage$Puzzles" "doubts" "LBackVillage$Cells;") ∈ GW := gw_1 (i := 124) (by decide +kernel) rfl
theorem kw_261 : (Cond.fieldLink "BackVillage$Puzzles" 56 "BackVillage$Puzzles" "doubtCount" "I") ∈ GW := gw_1 (i := 125) (by decide +kernel) rfl
theorem kw_262 : (Cond.fieldLink "BackVillage$Puzzles" 22 "BackVillage$Puzzles" "sets" "LBackVillage$Cells;") ∈ GW := gw_1 (i := 126) (by decide +kernel) rfl
theorem kw_263 : (Cond.fieldLink "BackVillage$Puzzles" 25 "BackVillage$Puzzles" "wins" "LBackVillage$Cells;") ∈ GW := gw_1 (i := 127) (by decide +kernel) rfl
theorem kw_264 : (Cond.fieldLink "BackVillage$Puzzles" 28 "BackVillage$Puzzles" "friends" "LBackVillage$Cells;") ∈ GW := gw_1 (i := 128) (by decide +kernel) rfl
theorem kw_265 : (Cond.fieldLink "BackVillage$Puzzles" 31 "BackVillage$Puzzles" "spare" "LBackVillage$Cells;") ∈ GW := gw_1 (i := 129) (by decide +kernel) rfl
theorem kw_266 : (Cond.laysFinal "BackVillage$Puzzles" "BackVillage$Puzzles" "mind" "LBackVillage$Mind;") ∈ GW := gw_1 (i := 130) (by decide +kernel) rfl
theorem kw_268 : (Cond.laysFinal "BackVillage$Puzzles" "BackVillage$Puzzles" "doubts" "LBackVillage$Cells;") ∈ GW := gw_1 (i := 132) (by decide +kernel) rfl
theorem kw_270 : (Cond.lays "BackVillage$Puzzles" "BackVillage$Puzzles" "doubtCount" "I") ∈ GW := gw_1 (i := 134) (by decide +kernel) rfl
theorem kw_272 : (Cond.laysFinal "BackVillage$Puzzles" "BackVillage$Puzzles" "sets" "LBackVillage$Cells;") ∈ GW := gw_1 (i := 136) (by decide +kernel) rfl
theorem kw_274 : (Cond.laysFinal "BackVillage$Puzzles" "BackVillage$Puzzles" "wins" "LBackVillage$Cells;") ∈ GW := gw_1 (i := 138) (by decide +kernel) rfl
theorem kw_276 : (Cond.laysFinal "BackVillage$Puzzles" "BackVillage$Puzzles" "friends" "LBackVillage$Cells;") ∈ GW := gw_1 (i := 140) (by decide +kernel) rfl
theorem kw_278 : (Cond.laysFinal "BackVillage$Puzzles" "BackVillage$Puzzles" "spare" "LBackVillage$Cells;") ∈ GW := gw_1 (i := 142) (by decide +kernel) rfl
theorem kw_290 : (Cond.fieldLink "BackVillage$VillageReader" 9 "BackVillage$VillageReader" "mind" "LBackVillage$Mind;") ∈ GW := gw_1 (i := 154) (by decide +kernel) rfl
theorem kw_291 : (Cond.fieldLink "BackVillage$VillageReader" 15 "BackVillage$VillageReader" "state" "LBackVillage$State;") ∈ GW := gw_1 (i := 155) (by decide +kernel) rfl
theorem kw_292 : (Cond.fieldLink "BackVillage$VillageReader" 79 "BackVillage$VillageReader" "first" "I") ∈ GW := gw_1 (i := 156) (by decide +kernel) rfl
theorem kw_293 : (Cond.fieldLink "BackVillage$VillageReader" 82 "BackVillage$VillageReader" "second" "I") ∈ GW := gw_1 (i := 157) (by decide +kernel) rfl
theorem kw_294 : (Cond.fieldLink "BackVillage$TextReader" 11 "BackVillage$TextReader" "kinds" "[I") ∈ GW := gw_1 (i := 158) (by decide +kernel) rfl
theorem kw_295 : (Cond.fieldLink "BackVillage$TextReader" 17 "BackVillage$TextReader" "begins" "[I") ∈ GW := gw_1 (i := 159) (by decide +kernel) rfl
theorem kw_296 : (Cond.fieldLink "BackVillage$TextReader" 20 "BackVillage$TextReader" "numbers" "[I") ∈ GW := gw_1 (i := 160) (by decide +kernel) rfl
theorem kw_297 : (Cond.fieldLink "BackVillage$TextReader" 51 "BackVillage$TextReader" "count" "I") ∈ GW := gw_1 (i := 161) (by decide +kernel) rfl
theorem kw_298 : (Cond.fieldLink "BackVillage$TextReader" 71 "BackVillage$TextReader" "place" "I") ∈ GW := gw_1 (i := 162) (by decide +kernel) rfl
theorem kw_299 : (Cond.fieldLink "BackVillage$TextReader" 44 "BackVillage$TextReader" "text" "LBackVillage$Tape;") ∈ GW := gw_1 (i := 163) (by decide +kernel) rfl
theorem kw_300 : (Cond.fieldLink "BackVillage$TextReader" 48 "BackVillage$TextReader" "length" "I") ∈ GW := gw_1 (i := 164) (by decide +kernel) rfl
theorem kw_301 : (Cond.fieldLink "BackVillage$TextReader" 23 "BackVillage$TextReader" "wrong" "I") ∈ GW := gw_1 (i := 165) (by decide +kernel) rfl
theorem kw_302 : (Cond.fieldLink "BackVillage$VillageReader" 23 "BackVillage$VillageReader" "kind" "I") ∈ GW := gw_1 (i := 166) (by decide +kernel) rfl
theorem kw_303 : (Cond.sameField "BackVillage$VillageReader" "BackVillage$TextReader" "kind" "I") ∈ GW := gw_1 (i := 167) (by decide +kernel) rfl
theorem kw_304 : (Cond.fieldLink "BackVillage$TextReader" 27 "BackVillage$TextReader" "kind" "I") ∈ GW := gw_1 (i := 168) (by decide +kernel) rfl
theorem kw_305 : (Cond.fieldLink "BackVillage$LawReader" 50 "BackVillage$LawReader" "kind" "I") ∈ GW := gw_1 (i := 169) (by decide +kernel) rfl
theorem kw_306 : (Cond.sameField "BackVillage$LawReader" "BackVillage$TextReader" "kind" "I") ∈ GW := gw_1 (i := 170) (by decide +kernel) rfl
theorem kw_307 : (Cond.fieldLink "BackVillage$VillageReader" 19 "BackVillage$VillageReader" "begin" "I") ∈ GW := gw_1 (i := 171) (by decide +kernel) rfl
theorem kw_308 : (Cond.sameField "BackVillage$VillageReader" "BackVillage$TextReader" "begin" "I") ∈ GW := gw_1 (i := 172) (by decide +kernel) rfl
theorem kw_309 : (Cond.fieldLink "BackVillage$TextReader" 38 "BackVillage$TextReader" "begin" "I") ∈ GW := gw_1 (i := 173) (by decide +kernel) rfl
theorem kw_310 : (Cond.fieldLink "BackVillage$LawReader" 70 "BackVillage$LawReader" "begin" "I") ∈ GW := gw_1 (i := 174) (by decide +kernel) rfl
theorem kw_311 : (Cond.sameField "BackVillage$LawReader" "BackVillage$TextReader" "begin" "I") ∈ GW := gw_1 (i := 175) (by decide +kernel) rfl
theorem kw_312 : (Cond.fieldLink "BackVillage$LawReader" 43 "BackVillage$LawReader" "number" "I") ∈ GW := gw_1 (i := 176) (by decide +kernel) rfl
theorem kw_313 : (Cond.sameField "BackVillage$LawReader" "BackVillage$TextReader" "number" "I") ∈ GW := gw_1 (i := 177) (by decide +kernel) rfl
theorem kw_314 : (Cond.fieldLink "BackVillage$VillageReader" 59 "BackVillage$VillageReader" "number" "I") ∈ GW := gw_1 (i := 178) (by decide +kernel) rfl
theorem kw_315 : (Cond.sameField "BackVillage$VillageReader" "BackVillage$TextReader" "number" "I") ∈ GW := gw_1 (i := 179) (by decide +kernel) rfl
theorem kw_316 : (Cond.fieldLink "BackVillage$TextReader" 144 "BackVillage$TextReader" "number" "I") ∈ GW := gw_1 (i := 180) (by decide +kernel) rfl
theorem kw_317 : (Cond.laysFinal "BackVillage$VillageReader" "BackVillage$VillageReader" "mind" "LBackVillage$Mind;") ∈ GW := gw_1 (i := 181) (by decide +kernel) rfl
theorem kw_319 : (Cond.lays "BackVillage$VillageReader" "BackVillage$VillageReader" "state" "LBackVillage$State;") ∈ GW := gw_1 (i := 183) (by decide +kernel) rfl
theorem kw_321 : (Cond.lays "BackVillage$VillageReader" "BackVillage$VillageReader" "first" "I") ∈ GW := gw_1 (i := 185) (by decide +kernel) rfl
theorem kw_323 : (Cond.lays "BackVillage$VillageReader" "BackVillage$VillageReader" "second" "I") ∈ GW := gw_1 (i := 187) (by decide +kernel) rfl
theorem kw_325 : (Cond.laysFinal "BackVillage$VillageReader" "BackVillage$TextReader" "kinds" "[I") ∈ GW := gw_1 (i := 189) (by decide +kernel) rfl
theorem kw_327 : (Cond.laysFinal "BackVillage$VillageReader" "BackVillage$TextReader" "begins" "[I") ∈ GW := gw_1 (i := 191) (by decide +kernel) rfl
theorem kw_329 : (Cond.laysFinal "BackVillage$VillageReader" "BackVillage$TextReader" "numbers" "[I") ∈ GW := gw_1 (i := 193) (by decide +kernel) rfl
theorem kw_331 : (Cond.lays "BackVillage$VillageReader" "BackVillage$TextReader" "count" "I") ∈ GW := gw_1 (i := 195) (by decide +kernel) rfl
theorem kw_333 : (Cond.lays "BackVillage$VillageReader" "BackVillage$TextReader" "place" "I") ∈ GW := gw_1 (i := 197) (by decide +kernel) rfl
theorem kw_335 : (Cond.lays "BackVillage$VillageReader" "BackVillage$TextReader" "text" "LBackVillage$Tape;") ∈ GW := gw_1 (i := 199) (by decide +kernel) rfl
theorem kw_337 : (Cond.lays "BackVillage$VillageReader" "BackVillage$TextReader" "length" "I") ∈ GW := gw_1 (i := 201) (by decide +kernel) rfl
theorem kw_339 : (Cond.lays "BackVillage$VillageReader" "BackVillage$TextReader" "wrong" "I") ∈ GW := gw_1 (i := 203) (by decide +kernel) rfl
theorem kw_341 : (Cond.lays "BackVillage$VillageReader" "BackVillage$TextReader" "kind" "I") ∈ GW := gw_1 (i := 205) (by decide +kernel) rfl
theorem kw_343 : (Cond.lays "BackVillage$VillageReader" "BackVillage$TextReader" "begin" "I") ∈ GW := gw_1 (i := 207) (by decide +kernel) rfl
theorem kw_345 : (Cond.lays "BackVillage$VillageReader" "BackVillage$TextReader" "number" "I") ∈ GW := gw_1 (i := 209) (by decide +kernel) rfl
theorem kw_354 : (Cond.fieldLink "BackVillage$LawReader" 11 "BackVillage$LawReader" "code" "[I") ∈ GW := gw_1 (i := 218) (by decide +kernel) rfl
theorem kw_355 : (Cond.fieldLink "BackVillage$LawReader" 15 "BackVillage$LawReader" "size" "I") ∈ GW := gw_1 (i := 219) (by decide +kernel) rfl
theorem kw_356 : (Cond.laysFinal "BackVillage$LawReader" "BackVillage$LawReader" "code" "[I") ∈ GW := gw_1 (i := 220) (by decide +kernel) rfl
theorem kw_358 : (Cond.lays "BackVillage$LawReader" "BackVillage$LawReader" "size" "I") ∈ GW := gw_1 (i := 222) (by decide +kernel) rfl
theorem kw_360 : (Cond.laysFinal "BackVillage$LawReader" "BackVillage$TextReader" "kinds" "[I") ∈ GW := gw_1 (i := 224) (by decide +kernel) rfl
theorem kw_361 : (Cond.laysFinal "BackVillage$LawReader" "BackVillage$TextReader" "begins" "[I") ∈ GW := gw_1 (i := 225) (by decide +kernel) rfl
theorem kw_362 : (Cond.laysFinal "BackVillage$LawReader" "BackVillage$TextReader" "numbers" "[I") ∈ GW := gw_1 (i := 226) (by decide +kernel) rfl
theorem kw_363 : (Cond.lays "BackVillage$LawReader" "BackVillage$TextReader" "count" "I") ∈ GW := gw_1 (i := 227) (by decide +kernel) rfl
theorem kw_364 : (Cond.lays "BackVillage$LawReader" "BackVillage$TextReader" "place" "I") ∈ GW := gw_1 (i := 228) (by decide +kernel) rfl
theorem kw_365 : (Cond.lays "BackVillage$LawReader" "BackVillage$TextReader" "text" "LBackVillage$Tape;") ∈ GW := gw_1 (i := 229) (by decide +kernel) rfl
theorem kw_366 : (Cond.lays "BackVillage$LawReader" "BackVillage$TextReader" "length" "I") ∈ GW := gw_1 (i := 230) (by decide +kernel) rfl
theorem kw_367 : (Cond.lays "BackVillage$LawReader" "BackVillage$TextReader" "wrong" "I") ∈ GW := gw_1 (i := 231) (by decide +kernel) rfl
theorem kw_368 : (Cond.lays "BackVillage$LawReader" "BackVillage$TextReader" "kind" "I") ∈ GW := gw_1 (i := 232) (by decide +kernel) rfl
theorem kw_369 : (Cond.lays "BackVillage$LawReader" "BackVillage$TextReader" "begin" "I") ∈ GW := gw_1 (i := 233) (by decide +kernel) rfl
theorem kw_370 : (Cond.lays "BackVillage$LawReader" "BackVillage$TextReader" "number" "I") ∈ GW := gw_1 (i := 234) (by decide +kernel) rfl
theorem kw_381 : (Cond.methodLink "BackVillage$State" 42 ⟨"BackVillage$Cells", "put", "(II)V"⟩) ∈ GW := gw_2 (i := 5) (by decide +kernel) rfl
theorem kw_382 : (Cond.instanceMethod ⟨"BackVillage$Cells", "put", "(II)V"⟩) ∈ GW := gw_2 (i := 6) (by decide +kernel) rfl
theorem kw_383 : (Cond.selects "BackVillage$Cells" ⟨"BackVillage$Cells", "put", "(II)V"⟩ ⟨"BackVillage$Cells", "put", "(II)V"⟩) ∈ GW := gw_2 (i := 7) (by decide +kernel) rfl
theorem kw_384 : (Cond.code ⟨"BackVillage$Cells", "put", "(II)V"⟩ prog_3_method_3_code 3 none) ∈ GW := gw_2 (i := 8) (by decide +kernel) rfl
theorem kw_385 : (Cond.fieldLink "BackVillage$State" 9 "BackVillage$State" "values" "I") ∈ GW := gw_2 (i := 9) (by decide +kernel) rfl
theorem kw_386 : (Cond.fieldLink "BackVillage$VillageReader" 66 "BackVillage$State" "values" "I") ∈ GW := gw_2 (i := 10) (by decide +kernel) rfl
theorem kw_387 : (Cond.fieldLink "BackVillage$Puzzles" 103 "BackVillage$State" "values" "I") ∈ GW := gw_2 (i := 11) (by decide +kernel) rfl
theorem kw_388 : (Cond.fieldLink "BackVillage$Mind" 197 "BackVillage$State" "values" "I") ∈ GW := gw_2 (i := 12) (by decide +kernel) rfl
theorem kw_389 : (Cond.fieldLink "BackVillage" 381 "BackVillage$State" "values" "I") ∈ GW := gw_2 (i := 13) (by decide +kernel) rfl
theorem kw_390 : (Cond.fieldLink "BackVillage$Puzzles" 42 "BackVillage$State" "people" "I") ∈ GW := gw_2 (i := 14) (by decide +kernel) rfl
theorem kw_391 : (Cond.fieldLink "BackVillage$State" 46 "BackVillage$State" "people" "I") ∈ GW := gw_2 (i := 15) (by decide +kernel) rfl
theorem kw_392 : (Cond.fieldLink "BackVillage$Acts" 31 "BackVillage$State" "people" "I") ∈ GW := gw_2 (i := 16) (by decide +kernel) rfl
theorem kw_393 : (Cond.fieldLink "BackVillage$VillageReader" 56 "BackVillage$State" "people" "I") ∈ GW := gw_2 (i := 17) (by decide +kernel) rfl
theorem kw_394 : (Cond.fieldLink "BackVillage$Mind" 78 "BackVillage$State" "people" "I") ∈ GW := gw_2 (i := 18) (by decide +kernel) rfl
theorem kw_395 : (Cond.fieldLink "BackVillage" 293 "BackVillage$State" "people" "I") ∈ GW := gw_2 (i := 19) (by decide +kernel) rfl
theorem kw_396 : (Cond.fieldLink "BackVillage$State" 15 "BackVillage$State" "worlds" "I") ∈ GW := gw_2 (i := 20) (by decide +kernel) rfl
theorem kw_397 : (Cond.fieldLink "BackVillage$Mind" 52 "BackVillage$State" "worlds" "I") ∈ GW := gw_2 (i := 21) (by decide +kernel) rfl
theorem kw_398 : (Cond.fieldLink "BackVillage$Puzzles" 66 "BackVillage$State" "worlds" "I") ∈ GW := gw_2 (i := 22) (by decide +kernel) rfl
theorem kw_399 : (Cond.fieldLink "BackVillage" 392 "BackVillage$State" "worlds" "I") ∈ GW := gw_2 (i := 23) (by decide +kernel) rfl
theorem kw_400 : (Cond.fieldLink "BackVillage$Acts" 21 "BackVillage$State" "world" "I") ∈ GW := gw_2 (i := 24) (by decide +kernel) rfl
theorem kw_401 : (Cond.fieldLink "BackVillage$State" 49 "BackVillage$State" "world" "I") ∈ GW := gw_2 (i := 25) (by decide +kernel) rfl
theorem kw_402 : (Cond.fieldLink "BackVillage$Puzzles" 59 "BackVillage$State" "world" "I") ∈ GW := gw_2 (i := 26) (by decide +kernel) rfl
theorem kw_403 : (Cond.fieldLink "BackVillage$Mind" 81 "BackVillage$State" "world" "I") ∈ GW := gw_2 (i := 27) (by decide +kernel) rfl
theorem kw_404 : (Cond.fieldLink "BackVillage" 144 "BackVillage$State" "world" "I") ∈ GW := gw_2 (i := 28) (by decide +kernel) rfl
theorem kw_405 : (Cond.fieldLink "BackVillage$VillageReader" 104 "BackVillage$State" "world" "I") ∈ GW := gw_2 (i := 29) (by decide +kernel) rfl
theorem kw_406 : (Cond.fieldLink "BackVillage$State" 52 "BackVillage$State" "day" "I") ∈ GW := gw_2 (i := 30) (by decide +kernel) rfl
theorem kw_407 : (Cond.fieldLink "BackVillage$Acts" 68 "BackVillage$State" "day" "I") ∈ GW := gw_2 (i := 31) (by decide +kernel) rfl
theorem kw_408 : (Cond.fieldLink "BackVillage$Mind" 148 "BackVillage$State" "day" "I") ∈ GW := gw_2 (i := 32) (by decide +kernel) rfl
theorem kw_409 : (Cond.fieldLink "BackVillage" 389 "BackVillage$State" "day" "I") ∈ GW := gw_2 (i := 33) (by decide +kernel) rfl
theorem kw_410 : (Cond.fieldLink "BackVillage$State" 18 "BackVillage$State" "seed" "I") ∈ GW := gw_2 (i := 34) (by decide +kernel) rfl
theorem kw_411 : (Cond.fieldLink "BackVillage" 303 "BackVillage$State" "seed" "I") ∈ GW := gw_2 (i := 35) (by decide +kernel) rfl
theorem kw_412 : (Cond.fieldLink "BackVillage$State" 55 "BackVillage$State" "texts" "I") ∈ GW := gw_2 (i := 36) (by decide +kernel) rfl
theorem kw_413 : (Cond.fieldLink "BackVillage" 114 "BackVillage$State" "texts" "I") ∈ GW := gw_2 (i := 37) (by decide +kernel) rfl
theorem kw_414 : (Cond.fieldLink "BackVillage$State" 58 "BackVillage$State" "closed" "Z") ∈ GW := gw_2 (i := 38) (by decide +kernel) rfl
theorem kw_415 : (Cond.fieldLink "BackVillage$VillageReader" 50 "BackVillage$State" "closed" "Z") ∈ GW := gw_2 (i := 39) (by decide +kernel) rfl
theorem kw_416 : (Cond.fieldLink "BackVillage" 374 "BackVillage$State" "closed" "Z") ∈ GW := gw_2 (i := 40) (by decide +kernel) rfl
theorem kw_417 : (Cond.fieldLink "BackVillage$State" 62 "BackVillage$State" "rule" "LBackVillage$Law;") ∈ GW := gw_2 (i := 41) (by decide +kernel) rfl
theorem kw_418 : (Cond.fieldLink "BackVillage" 137 "BackVillage$State" "rule" "LBackVillage$Law;") ∈ GW := gw_2 (i := 42) (by decide +kernel) rfl
theorem kw_419 : (Cond.fieldLink "BackVillage$Mind" 155 "BackVillage$State" "rule" "LBackVillage$Law;") ∈ GW := gw_2 (i := 43) (by decide +kernel) rfl
theorem kw_420 : (Cond.fieldLink "BackVillage$State" 26 "BackVillage$State" "units" "LBackVillage$Cells;") ∈ GW := gw_2 (i := 44) (by decide +kernel) rfl
theorem kw_421 : (Cond.fieldLink "BackVillage$State" 30 "BackVillage$State" "sights" "LBackVillage$Cells;") ∈ GW := gw_2 (i := 45) (by decide +kernel) rfl
theorem kw_422 : (Cond.fieldLink "BackVillage" 151 "BackVillage$State" "sights" "LBackVillage$Cells;") ∈ GW := gw_2 (i := 46) (by decide +kernel) rfl
theorem kw_423 : (Cond.fieldLink "BackVillage$Puzzles" 126 "BackVillage$State" "sights" "LBackVillage$Cells;") ∈ GW := gw_2 (i := 47) (by decide +kernel) rfl
theorem kw_424 : (Cond.fieldLink "BackVillage$Mind" 166 "BackVillage$State" "sights" "LBackVillage$Cells;") ∈ GW := gw_2 (i := 48) (by decide +kernel) rfl
theorem kw_425 : (Cond.fieldLink "BackVillage$State" 33 "BackVillage$State" "stays" "LBackVillage$Cells;") ∈ GW := gw_2 (i := 49) (by decide +kernel) rfl
theorem kw_426 : (Cond.fieldLink "BackVillage$Acts" 38 "BackVillage$State" "stays" "LBackVillage$Cells;") ∈ GW := gw_2 (i := 50) (by decide +kernel) rfl
theorem kw_427 : (Cond.fieldLink "BackVillage$Mind" 84 "BackVillage$State" "stays" "LBackVillage$Cells;") ∈ GW := gw_2 (i := 51) (by decide +kernel) rfl
theorem kw_428 : (Cond.fieldLink "BackVillage" 163 "BackVillage$State" "stays" "LBackVillage$Cells;") ∈ GW := gw_2 (i := 52) (by decide +kernel) rfl
theorem kw_429 : (Cond.fieldLink "BackVillage$Puzzles" 90 "BackVillage$State" "stays" "LBackVillage$Cells;") ∈ GW := gw_2 (i := 53) (by decide +kernel) rfl
theorem kw_430 : (Cond.fieldLink "BackVillage$VillageReader" 111 "BackVillage$State" "stays" "LBackVillage$Cells;") ∈ GW := gw_2 (i := 54) (by decide +kernel) rfl
theorem kw_431 : (Cond.fieldLink "BackVillage$State" 36 "BackVillage$State" "groups" "LBackVillage$Cells;") ∈ GW := gw_2 (i := 55) (by decide +kernel) rfl
theorem kw_432 : (Cond.fieldLink "BackVillage$Mind" 172 "BackVillage$State" "groups" "LBackVillage$Cells;") ∈ GW := gw_2 (i := 56) (by decide +kernel) rfl
theorem kw_433 : (Cond.fieldLink "BackVillage$State" 39 "BackVillage$State" "record" "LBackVillage$Cells;") ∈ GW := gw_2 (i := 57) (by decide +kernel) rfl
theorem kw_434 : (Cond.fieldLink "BackVillage$State" 66 "BackVillage$State" "logged" "I") ∈ GW := gw_2 (i := 58) (by decide +kernel) rfl
theorem kw_435 : (Cond.fieldLink "BackVillage" 353 "BackVillage$State" "logged" "I") ∈ GW := gw_2 (i := 59) (by decide +kernel) rfl
theorem kw_436 : (Cond.fieldLink "BackVillage$State" 69 "BackVillage$State" "logNext" "I") ∈ GW := gw_2 (i := 60) (by decide +kernel) rfl
theorem kw_437 : (Cond.lays "BackVillage$State" "BackVillage$State" "values" "I") ∈ GW := gw_2 (i := 61) (by decide +kernel) rfl
theorem kw_439 : (Cond.lays "BackVillage$State" "BackVillage$State" "people" "I") ∈ GW := gw_2 (i := 63) (by decide +kernel) rfl
theorem kw_441 : (Cond.lays "BackVillage$State" "BackVillage$State" "worlds" "I") ∈ GW := gw_2 (i := 65) (by decide +kernel) rfl
theorem kw_443 : (Cond.lays "BackVillage$State" "BackVillage$State" "world" "I") ∈ GW := gw_2 (i := 67) (by decide +kernel) rfl
theorem kw_445 : (Cond.lays "BackVillage$State" "BackVillage$State" "day" "I") ∈ GW := gw_2 (i := 69) (by decide +kernel) rfl
theorem kw_447 : (Cond.lays "BackVillage$State" "BackVillage$State" "seed" "I") ∈ GW := gw_2 (i := 71) (by decide +kernel) rfl
theorem kw_449 : (Cond.lays "BackVillage$State" "BackVillage$State" "texts" "I") ∈ GW := gw_2 (i := 73) (by decide +kernel) rfl
theorem kw_451 : (Cond.lays "BackVillage$State" "BackVillage$State" "closed" "Z") ∈ GW := gw_2 (i := 75) (by decide +kernel) rfl
theorem kw_453 : (Cond.lays "BackVillage$State" "BackVillage$State" "rule" "LBackVillage$Law;") ∈ GW := gw_2 (i := 77) (by decide +kernel) rfl
theorem kw_455 : (Cond.laysFinal "BackVillage$State" "BackVillage$State" "units" "LBackVillage$Cells;") ∈ GW := gw_2 (i := 79) (by decide +kernel) rfl
theorem kw_457 : (Cond.laysFinal "BackVillage$State" "BackVillage$State" "sights" "LBackVillage$Cells;") ∈ GW := gw_2 (i := 81) (by decide +kernel) rfl
theorem kw_459 : (Cond.laysFinal "BackVillage$State" "BackVillage$State" "stays" "LBackVillage$Cells;") ∈ GW := gw_2 (i := 83) (by decide +kernel) rfl
theorem kw_461 : (Cond.laysFinal "BackVillage$State" "BackVillage$State" "groups" "LBackVillage$Cells;") ∈ GW := gw_2 (i := 85) (by decide +kernel) rfl
theorem kw_463 : (Cond.laysFinal "BackVillage$State" "BackVillage$State" "record" "LBackVillage$Cells;") ∈ GW := gw_2 (i := 87) (by decide +kernel) rfl
theorem kw_465 : (Cond.lays "BackVillage$State" "BackVillage$State" "logged" "I") ∈ GW := gw_2 (i := 89) (by decide +kernel) rfl
theorem kw_467 : (Cond.lays "BackVillage$State" "BackVillage$State" "logNext" "I") ∈ GW := gw_2 (i := 91) (by decide +kernel) rfl
theorem kw_470 : (Cond.fieldLink "BackVillage" 10 "BackVillage" "tape" "LBackVillage$Tape;") ∈ GW := gw_2 (i := 94) (by decide +kernel) rfl
theorem kw_471 : (Cond.fieldLink "BackVillage" 19 "BackVillage" "mind" "LBackVillage$Mind;") ∈ GW := gw_2 (i := 95) (by decide +kernel) rfl
theorem kw_472 : (Cond.fieldLink "BackVillage" 28 "BackVillage" "acts" "LBackVillage$Acts;") ∈ GW := gw_2 (i := 96) (by decide +kernel) rfl
theorem kw_473 : (Cond.fieldLink "BackVillage" 35 "BackVillage" "puzzles" "LBackVillage$Puzzles;") ∈ GW := gw_2 (i := 97) (by decide +kernel) rfl
theorem kw_474 : (Cond.fieldLink "BackVillage" 42 "BackVillage" "villageReader" "LBackVillage$VillageReader;") ∈ GW := gw_2 (i := 98) (by decide +kernel) rfl
theorem kw_476 : (Cond.fieldLink "BackVillage" 55 "BackVillage" "past" "[LBackVillage$State;") ∈ GW := gw_2 (i := 100) (by decide +kernel) rfl
theorem kw_477 : (Cond.fieldLink "BackVillage" 367 "BackVillage" "pastNext" "I") ∈ GW := gw_2 (i := 101) (by decide +kernel) rfl
theorem kw_478 : (Cond.fieldLink "BackVillage" 364 "BackVillage" "pastCount" "I") ∈ GW := gw_2 (i := 102) (by decide +kernel) rfl
theorem kw_479 : (Cond.fieldLink "BackVillage" 60 "BackVillage" "now" "LBackVillage$State;") ∈ GW := gw_2 (i := 103) (by decide +kernel) rfl
theorem kw_480 : (Cond.fieldLink "BackVillage" 64 "BackVillage" "draft" "LBackVillage$State;") ∈ GW := gw_2 (i := 104) (by decide +kernel) rfl
theorem kw_481 : (Cond.fieldLink "BackVillage" 378 "BackVillage" "kept" "LBackVillage$State;") ∈ GW := gw_2 (i := 105) (by decide +kernel) rfl
theorem kw_482 : (Cond.fieldLink "BackVillage" 67 "BackVillage" "wrongByte" "I") ∈ GW := gw_2 (i := 106) (by decide +kernel) rfl
theorem kw_483 : (Cond.laysFinal "BackVillage" "BackVillage" "tape" "LBackVillage$Tape;") ∈ GW := gw_2 (i := 107) (by decide +kernel) rfl
theorem kw_485 : (Cond.laysFinal "BackVillage" "BackVillage" "mind" "LBackVillage$Mind;") ∈ GW := gw_2 (i := 109) (by decide +kernel) rfl
theorem kw_487 : (Cond.laysFinal "BackVillage" "BackVillage" "acts" "LBackVillage$Acts;") ∈ GW := gw_2 (i := 111) (by decide +kernel) rfl
theorem kw_489 : (Cond.laysFinal "BackVillage" "BackVillage" "puzzles" "LBackVillage$Puzzles;") ∈ GW := gw_2 (i := 113) (by decide +kernel) rfl
theorem kw_491 : (Cond.laysFinal "BackVillage" "BackVillage" "villageReader" "LBackVillage$VillageReader;") ∈ GW := gw_2 (i := 115) (by decide +kernel) rfl
theorem kw_493 : (Cond.laysFinal "BackVillage" "BackVillage" "lawReader" "LBackVillage$LawReader;") ∈ GW := gw_2 (i := 117) (by decide +kernel) rfl
theorem kw_495 : (Cond.laysFinal "BackVillage" "BackVillage" "past" "[LBackVillage$State;") ∈ GW := gw_2 (i := 119) (by decide +kernel) rfl
theorem kw_497 : (Cond.lays "BackVillage" "BackVillage" "pastNext" "I") ∈ GW := gw_2 (i := 121) (by decide +kernel) rfl
theorem kw_499 : (Cond.lays "BackVillage" "BackVillage" "pastCount" "I") ∈ GW := gw_2 (i := 123) (by decide +kernel) rfl
theorem kw_501 : (Cond.lays "BackVillage" "BackVillage" "now" "LBackVillage$State;") ∈ GW := gw_2 (i := 125) (by decide +kernel) rfl
theorem kw_503 : (Cond.lays "BackVillage" "BackVillage" "draft" "LBackVillage$State;") ∈ GW := gw_2 (i := 127) (by decide +kernel) rfl
theorem kw_505 : (Cond.lays "BackVillage" "BackVillage" "kept" "LBackVillage$State;") ∈ GW := gw_2 (i := 129) (by decide +kernel) rfl
theorem kw_507 : (Cond.lays "BackVillage" "BackVillage" "wrongByte" "I") ∈ GW := gw_2 (i := 131) (by decide +kernel) rfl
theorem kw_514 : (Cond.methodLink "BackVillage" 71 ⟨"BackVillage$Tape", "hasRoomFor", "(I)Z"⟩) ∈ GW := gw_2 (i := 138) (by decide +kernel) rfl
theorem kw_515 : (Cond.instanceMethod ⟨"BackVillage$Tape", "hasRoomFor", "(I)Z"⟩) ∈ GW := gw_2 (i := 139) (by decide +kernel) rfl
theorem kw_516 : (Cond.selects "BackVillage$Tape" ⟨"BackVillage$Tape", "hasRoomFor", "(I)Z"⟩ ⟨"BackVillage$Tape", "hasRoomFor", "(I)Z"⟩) ∈ GW := gw_2 (i := 140) (by decide +kernel) rfl
theorem kw_517 : (Cond.code ⟨"BackVillage$Tape", "hasRoomFor", "(I)Z"⟩ prog_9_method_3_code 2 (some .boolean)) ∈ GW := gw_2 (i := 141) (by decide +kernel) rfl
theorem kw_518 : (Cond.methodLink "BackVillage" 75 ⟨"BackVillage$Tape", "put", "(I)V"⟩) ∈ GW := gw_2 (i := 142) (by decide +kernel) rfl
theorem kw_519 : (Cond.instanceMethod ⟨"BackVillage$Tape", "put", "(I)V"⟩) ∈ GW := gw_2 (i := 143) (by decide +kernel) rfl
theorem kw_520 : (Cond.selects "BackVillage$Tape" ⟨"BackVillage$Tape", "put", "(I)V"⟩ ⟨"BackVillage$Tape", "put", "(I)V"⟩) ∈ GW := gw_2 (i := 144) (by decide +kernel) rfl
theorem kw_521 : (Cond.code ⟨"BackVillage$Tape", "put", "(I)V"⟩ prog_9_method_4_code 3 none) ∈ GW := gw_2 (i := 145) (by decide +kernel) rfl
theorem kw_522 : (Cond.methodLink "BackVillage$Tape" 22 ⟨"BackVillage$Cells", "put", "(II)V"⟩) ∈ GW := gw_2 (i := 146) (by decide +kernel) rfl
theorem kw_523 : (Cond.methodLink "BackVillage" 79 ⟨"BackVillage$Tape", "size", "()I"⟩) ∈ GW := gw_2 (i := 147) (by decide +kernel) rfl
theorem kw_524 : (Cond.instanceMethod ⟨"BackVillage$Tape", "size", "()I"⟩) ∈ GW := gw_2 (i := 148) (by decide +kernel) rfl
theorem kw_525 : (Cond.selects "BackVillage$Tape" ⟨"BackVillage$Tape", "size", "()I"⟩ ⟨"BackVillage$Tape", "size", "()I"⟩) ∈ GW := gw_2 (i := 149) (by decide +kernel) rfl
theorem kw_526 : (Cond.code ⟨"BackVillage$Tape", "size", "()I"⟩ prog_9_method_2_code 1 (some .int)) ∈ GW := gw_2 (i := 150) (by decide +kernel) rfl
theorem kw_531 : (Cond.methodLink "BackVillage" 83 ⟨"BackVillage$Tape", "cut", "(I)Z"⟩) ∈ GW := gw_2 (i := 155) (by decide +kernel) rfl
theorem kw_532 : (Cond.instanceMethod ⟨"BackVillage$Tape", "cut", "(I)Z"⟩) ∈ GW := gw_2 (i := 156) (by decide +kernel) rfl
theorem kw_533 : (Cond.selects "BackVillage$Tape" ⟨"BackVillage$Tape", "cut", "(I)Z"⟩ ⟨"BackVillage$Tape", "cut", "(I)Z"⟩) ∈ GW := gw_2 (i := 157) (by decide +kernel) rfl
theorem kw_534 : (Cond.code ⟨"BackVillage$Tape", "cut", "(I)Z"⟩ prog_9_method_5_code 2 (some .boolean)) ∈ GW := gw_2 (i := 158) (by decide +kernel) rfl
theorem kw_543 : (Cond.methodLink "BackVillage" 208 ⟨"BackVillage", "remember", "()V"⟩) ∈ GW := gw_2 (i := 167) (by decide +kernel) rfl
theorem kw_545 : (Cond.instanceMethod ⟨"BackVillage", "remember", "()V"⟩) ∈ GW := gw_2 (i := 169) (by decide +kernel) rfl
theorem kw_546 : (Cond.code ⟨"BackVillage", "remember", "()V"⟩ prog_1_method_59_code 2 none) ∈ GW := gw_2 (i := 170) (by decide +kernel) rfl
theorem kw_547 : (Cond.methodLink "BackVillage" 370 ⟨"BackVillage", "pastAt", "(I)LBackVillage$State;"⟩) ∈ GW := gw_2 (i := 171) (by decide +kernel) rfl
theorem kw_549 : (Cond.instanceMethod ⟨"BackVillage", "pastAt", "(I)LBackVillage$State;"⟩) ∈ GW := gw_2 (i := 173) (by decide +kernel) rfl
theorem kw_550 : (Cond.code ⟨"BackVillage", "pastAt", "(I)LBackVillage$State;"⟩ prog_1_method_60_code 2 (some (.object "BackVillage$State"))) ∈ GW := gw_2 (i := 174) (by decide +kernel) rfl
theorem kw_551 : (Cond.methodLink "BackVillage" 89 ⟨"BackVillage$State", "become", "(LBackVillage$State;)V"⟩) ∈ GW := gw_2 (i := 175) (by decide +kernel) rfl
theorem kw_552 : (Cond.instanceMethod ⟨"BackVillage$State", "become", "(LBackVillage$State;)V"⟩) ∈ GW := gw_2 (i := 176) (by decide +kernel) rfl
theorem kw_553 : (Cond.selects "BackVillage$State" ⟨"BackVillage$State", "become", "(LBackVillage$State;)V"⟩ ⟨"BackVillage$State", "become", "(LBackVillage$State;)V"⟩) ∈ GW := gw_2 (i := 177) (by decide +kernel) rfl
theorem kw_554 : (Cond.code ⟨"BackVillage$State", "become", "(LBackVillage$State;)V"⟩ prog_8_method_2_code 2 none) ∈ GW := gw_2 (i := 178) (by decide +kernel) rfl
theorem kw_555 : (Cond.methodLink "BackVillage$State" 72 ⟨"BackVillage$Cells", "become", "(LBackVillage$Cells;I)V"⟩) ∈ GW := gw_2 (i := 179) (by decide +kernel) rfl
theorem kw_556 : (Cond.instanceMethod ⟨"BackVillage$Cells", "become", "(LBackVillage$Cells;I)V"⟩) ∈ GW := gw_2 (i := 180) (by decide +kernel) rfl
theorem kw_557 : (Cond.selects "BackVillage$Cells" ⟨"BackVillage$Cells", "become", "(LBackVillage$Cells;I)V"⟩ ⟨"BackVillage$Cells", "become", "(LBackVillage$Cells;I)V"⟩) ∈ GW := gw_2 (i := 181) (by decide +kernel) rfl
theorem kw_558 : (Cond.code ⟨"BackVillage$Cells", "become", "(LBackVillage$Cells;I)V"⟩ prog_3_method_7_code 4 none) ∈ GW := gw_2 (i := 182) (by decide +kernel) rfl
theorem kw_559 : (Cond.methodLink "BackVillage$Cells" 33 ⟨"java/lang/Math", "min", "(II)I"⟩) ∈ GW := gw_2 (i := 183) (by decide +kernel) rfl
theorem kw_562 : (Cond.methodLink "BackVillage$Cells" 40 ⟨"BackVillage$Cells", "grow", "(I)V"⟩) ∈ GW := gw_2 (i := 186) (by decide +kernel) rfl
theorem kw_563 : (Cond.instanceMethod ⟨"BackVillage$Cells", "grow", "(I)V"⟩) ∈ GW := gw_2 (i := 187) (by decide +kernel) rfl
theorem kw_564 : (Cond.selects "BackVillage$Cells" ⟨"BackVillage$Cells", "grow", "(I)V"⟩ ⟨"BackVillage$Cells", "grow", "(I)V"⟩) ∈ GW := gw_2 (i := 188) (by decide +kernel) rfl
theorem kw_565 : (Cond.code ⟨"BackVillage$Cells", "grow", "(I)V"⟩ prog_3_method_5_code 2 none) ∈ GW := gw_2 (i := 189) (by decide +kernel) rfl
theorem kw_578 : (Cond.static ⟨"java/lang/System", "arraycopy", "(Ljava/lang/Object;ILjava/lang/Object;II)V"⟩) ∈ GW := gw_2 (i := 202) (by decide +kernel) rfl
theorem kw_579 : (Cond.native ⟨"java/lang/System", "arraycopy", "(Ljava/lang/Object;ILjava/lang/Object;II)V"⟩) ∈ GW := gw_2 (i := 203) (by decide +kernel) rfl
theorem kw_580 : (Cond.methodLink "BackVillage$Cells" 44 ⟨"java/lang/System", "arraycopy", "(Ljava/lang/Object;ILjava/lang/Object;II)V"⟩) ∈ GW := gw_2 (i := 204) (by decide +kernel) rfl
theorem kw_581 : (Cond.methodLink "BackVillage" 319 ⟨"java/lang/Math", "min", "(II)I"⟩) ∈ GW := gw_2 (i := 205) (by decide +kernel) rfl
theorem kw_582 : (Cond.methodLink "BackVillage" 223 ⟨"BackVillage$Acts", "askAll", "(LBackVillage$State;)I"⟩) ∈ GW := gw_2 (i := 206) (by decide +kernel) rfl
theorem kw_583 : (Cond.instanceMethod ⟨"BackVillage$Acts", "askAll", "(LBackVillage$State;)I"⟩) ∈ GW := gw_2 (i := 207) (by decide +kernel) rfl
theorem kw_584 : (Cond.selects "BackVillage$Acts" ⟨"BackVillage$Acts", "askAll", "(LBackVillage$State;)I"⟩ ⟨"BackVillage$Acts", "askAll", "(LBackVillage$State;)I"⟩) ∈ GW := gw_2 (i := 208) (by decide +kernel) rfl
theorem kw_585 : (Cond.code ⟨"BackVillage$Acts", "askAll", "(LBackVillage$State;)I"⟩ prog_2_method_5_code 3 (some .int)) ∈ GW := gw_2 (i := 209) (by decide +kernel) rfl
theorem kw_586 : (Cond.methodLink "BackVillage$Acts" 64 ⟨"BackVillage$Mind", "sayWhoIsSure", "(LBackVillage$State;LBackVillage$Cells;)V"⟩) ∈ GW := gw_2 (i := 210) (by decide +kernel) rfl
theorem kw_587 : (Cond.instanceMethod ⟨"BackVillage$Mind", "sayWhoIsSure", "(LBackVillage$State;LBackVillage$Cells;)V"⟩) ∈ GW := gw_2 (i := 211) (by decide +kernel) rfl
theorem kw_588 : (Cond.selects "BackVillage$Mind" ⟨"BackVillage$Mind", "sayWhoIsSure", "(LBackVillage$State;LBackVillage$Cells;)V"⟩ ⟨"BackVillage$Mind", "sayWhoIsSure", "(LBackVillage$State;LBackVillage$Cells;)V"⟩) ∈ GW := gw_2 (i := 212) (by decide +kernel) rfl
theorem kw_589 : (Cond.code ⟨"BackVillage$Mind", "sayWhoIsSure", "(LBackVillage$State;LBackVillage$Cells;)V"⟩ prog_6_method_21_code 5 none) ∈ GW := gw_2 (i := 213) (by decide +kernel) rfl
theorem kw_590 : (Cond.methodLink "BackVillage$Mind" 103 ⟨"BackVillage$Cells", "fill", "(II)V"⟩) ∈ GW := gw_2 (i := 214) (by decide +kernel) rfl
theorem kw_591 : (Cond.instanceMethod ⟨"BackVillage$Cells", "fill", "(II)V"⟩) ∈ GW := gw_2 (i := 215) (by decide +kernel) rfl
theorem kw_592 : (Cond.selects "BackVillage$Cells" ⟨"BackVillage$Cells", "fill", "(II)V"⟩ ⟨"BackVillage$Cells", "fill", "(II)V"⟩) ∈ GW := gw_2 (i := 216) (by decide +kernel) rfl
theorem kw_593 : (Cond.code ⟨"BackVillage$Cells", "fill", "(II)V"⟩ prog_3_method_6_code 3 none) ∈ GW := gw_2 (i := 217) (by decide +kernel) rfl
theorem kw_594 : (Cond.methodLink "BackVillage$Cells" 36 ⟨"java/util/Arrays", "fill", "([IIII)V"⟩) ∈ GW := gw_2 (i := 218) (by decide +kernel) rfl
theorem kw_595 : (Cond.static ⟨"java/util/Arrays", "fill", "([IIII)V"⟩) ∈ GW := gw_2 (i := 219) (by decide +kernel) rfl
theorem kw_596 : (Cond.code ⟨"java/util/Arrays", "fill", "([IIII)V"⟩ prog_38_method_104_code 5 none) ∈ GW := gw_2 (i := 220) (by decide +kernel) rfl
theorem kw_597 : (Cond.methodLink "java/util/Arrays" 13 ⟨"java/util/Arrays", "rangeCheck", "(III)V"⟩) ∈ GW := gw_2 (i := 221) (by decide +kernel) rfl
theorem kw_598 : (Cond.static ⟨"java/util/Arrays", "rangeCheck", "(III)V"⟩) ∈ GW := gw_2 (i := 222) (by decide +kernel) rfl
theorem kw_599 : (Cond.code ⟨"java/util/Arrays", "rangeCheck", "(III)V"⟩ prog_38_method_30_code 3 none) ∈ GW := gw_2 (i := 223) (by decide +kernel) rfl
theorem kw_926 : (Cond.methodLink "BackVillage$Mind" 95 ⟨"BackVillage$Mind", "spot", "(LBackVillage$State;LBackVillage$Cells;II)V"⟩) ∈ GW := gw_4 (i := 70) (by decide +kernel) rfl
theorem kw_928 : (Cond.instanceMethod ⟨"BackVillage$Mind", "spot", "(LBackVillage$State;LBackVillage$Cells;II)V"⟩) ∈ GW := gw_4 (i := 72) (by decide +kernel) rfl
theorem kw_929 : (Cond.code ⟨"BackVillage$Mind", "spot", "(LBackVillage$State;LBackVillage$Cells;II)V"⟩ prog_6_method_13_code 6 none) ∈ GW := gw_4 (i := 73) (by decide +kernel) rfl
theorem kw_930 : (Cond.methodLink "BackVillage$Mind" 56 ⟨"BackVillage$Cells", "at", "(I)I"⟩) ∈ GW := gw_4 (i := 74) (by decide +kernel) rfl
theorem kw_931 : (Cond.instanceMethod ⟨"BackVillage$Cells", "at", "(I)I"⟩) ∈ GW := gw_4 (i := 75) (by decide +kernel) rfl
theorem kw_932 : (Cond.selects "BackVillage$Cells" ⟨"BackVillage$Cells", "at", "(I)I"⟩ ⟨"BackVillage$Cells", "at", "(I)I"⟩) ∈ GW := gw_4 (i := 76) (by decide +kernel) rfl
theorem kw_933 : (Cond.code ⟨"BackVillage$Cells", "at", "(I)I"⟩ prog_3_method_2_code 2 (some .int)) ∈ GW := gw_4 (i := 77) (by decide +kernel) rfl
theorem kw_934 : (Cond.methodLink "BackVillage$Mind" 48 ⟨"BackVillage$State", "group", "(II)I"⟩) ∈ GW := gw_4 (i := 78) (by decide +kernel) rfl
theorem kw_935 : (Cond.instanceMethod ⟨"BackVillage$State", "group", "(II)I"⟩) ∈ GW := gw_4 (i := 79) (by decide +kernel) rfl
theorem kw_936 : (Cond.selects "BackVillage$State" ⟨"BackVillage$State", "group", "(II)I"⟩ ⟨"BackVillage$State", "group", "(II)I"⟩) ∈ GW := gw_4 (i := 80) (by decide +kernel) rfl
theorem kw_937 : (Cond.code ⟨"BackVillage$State", "group", "(II)I"⟩ prog_8_method_11_code 3 (some .int)) ∈ GW := gw_4 (i := 81) (by decide +kernel) rfl
theorem kw_938 : (Cond.methodLink "BackVillage$State" 80 ⟨"BackVillage$Cells", "at", "(I)I"⟩) ∈ GW := gw_4 (i := 82) (by decide +kernel) rfl
theorem kw_939 : (Cond.methodLink "BackVillage$Mind" 60 ⟨"BackVillage$State", "figure", "(II)I"⟩) ∈ GW := gw_4 (i := 83) (by decide +kernel) rfl
theorem kw_940 : (Cond.instanceMethod ⟨"BackVillage$State", "figure", "(II)I"⟩) ∈ GW := gw_4 (i := 84) (by decide +kernel) rfl
theorem kw_941 : (Cond.selects "BackVillage$State" ⟨"BackVillage$State", "figure", "(II)I"⟩ ⟨"BackVillage$State", "figure", "(II)I"⟩) ∈ GW := gw_4 (i := 85) (by decide +kernel) rfl
theorem kw_942 : (Cond.code ⟨"BackVillage$State", "figure", "(II)I"⟩ prog_8_method_9_code 4 (some .int)) ∈ GW := gw_4 (i := 86) (by decide +kernel) rfl
theorem kw_943 : (Cond.methodLink "BackVillage$Mind" 107 ⟨"BackVillage$Cells", "addBits", "(II)V"⟩) ∈ GW := gw_4 (i := 87) (by decide +kernel) rfl
theorem kw_944 : (Cond.instanceMethod ⟨"BackVillage$Cells", "addBits", "(II)V"⟩) ∈ GW := gw_4 (i := 88) (by decide +kernel) rfl
theorem kw_945 : (Cond.selects "BackVillage$Cells" ⟨"BackVillage$Cells", "addBits", "(II)V"⟩ ⟨"BackVillage$Cells", "addBits", "(II)V"⟩) ∈ GW := gw_4 (i := 89) (by decide +kernel) rfl
theorem kw_946 : (Cond.code ⟨"BackVillage$Cells", "addBits", "(II)V"⟩ prog_3_method_4_code 3 none) ∈ GW := gw_4 (i := 90) (by decide +kernel) rfl
theorem kw_947 : (Cond.methodLink "BackVillage$Cells" 19 ⟨"BackVillage$Cells", "at", "(I)I"⟩) ∈ GW := gw_4 (i := 91) (by decide +kernel) rfl
theorem kw_948 : (Cond.methodLink "BackVillage$Cells" 23 ⟨"BackVillage$Cells", "put", "(II)V"⟩) ∈ GW := gw_4 (i := 92) (by decide +kernel) rfl
theorem kw_949 : (Cond.methodLink "BackVillage$Mind" 99 ⟨"BackVillage$Mind", "spotted", "(LBackVillage$State;II)I"⟩) ∈ GW := gw_4 (i := 93) (by decide +kernel) rfl
theorem kw_951 : (Cond.instanceMethod ⟨"BackVillage$Mind", "spotted", "(LBackVillage$State;II)I"⟩) ∈ GW := gw_4 (i := 95) (by decide +kernel) rfl
theorem kw_952 : (Cond.code ⟨"BackVillage$Mind", "spotted", "(LBackVillage$State;II)I"⟩ prog_6_method_14_code 4 (some .int)) ∈ GW := gw_4 (i := 96) (by decide +kernel) rfl
theorem kw_953 : (Cond.methodLink "BackVillage$Mind" 75 ⟨"BackVillage$Mind", "onlyOne", "(I)I"⟩) ∈ GW := gw_4 (i := 97) (by decide +kernel) rfl
theorem kw_954 : (Cond.instanceMethod ⟨"BackVillage$Mind", "onlyOne", "(I)I"⟩) ∈ GW := gw_4 (i := 98) (by decide +kernel) rfl
theorem kw_955 : (Cond.selects "BackVillage$Mind" ⟨"BackVillage$Mind", "onlyOne", "(I)I"⟩ ⟨"BackVillage$Mind", "onlyOne", "(I)I"⟩) ∈ GW := gw_4 (i := 99) (by decide +kernel) rfl
theorem kw_956 : (Cond.code ⟨"BackVillage$Mind", "onlyOne", "(I)I"⟩ prog_6_method_3_code 2 (some .int)) ∈ GW := gw_4 (i := 100) (by decide +kernel) rfl
theorem kw_957 : (Cond.methodLink "BackVillage$Mind" 63 ⟨"java/lang/Integer", "bitCount", "(I)I"⟩) ∈ GW := gw_4 (i := 101) (by decide +kernel) rfl
theorem kw_963 : (Cond.methodLink "BackVillage$Mind" 68 ⟨"java/lang/Integer", "numberOfTrailingZeros", "(I)I"⟩) ∈ GW := gw_4 (i := 107) (by decide +kernel) rfl
theorem kw_967 : (Cond.methodLink "BackVillage$Acts" 60 ⟨"BackVillage$Acts", "heardByAll", "(LBackVillage$State;)I"⟩) ∈ GW := gw_4 (i := 111) (by decide +kernel) rfl
theorem kw_969 : (Cond.instanceMethod ⟨"BackVillage$Acts", "heardByAll", "(LBackVillage$State;)I"⟩) ∈ GW := gw_4 (i := 113) (by decide +kernel) rfl
theorem kw_970 : (Cond.code ⟨"BackVillage$Acts", "heardByAll", "(LBackVillage$State;)I"⟩ prog_2_method_10_code 2 (some .int)) ∈ GW := gw_4 (i := 114) (by decide +kernel) rfl
theorem kw_971 : (Cond.methodLink "BackVillage$Acts" 97 ⟨"BackVillage$Mind", "heed", "(LBackVillage$State;LBackVillage$Cells;)Z"⟩) ∈ GW := gw_4 (i := 115) (by decide +kernel) rfl
theorem kw_972 : (Cond.instanceMethod ⟨"BackVillage$Mind", "heed", "(LBackVillage$State;LBackVillage$Cells;)Z"⟩) ∈ GW := gw_4 (i := 116) (by decide +kernel) rfl
theorem kw_973 : (Cond.selects "BackVillage$Mind" ⟨"BackVillage$Mind", "heed", "(LBackVillage$State;LBackVillage$Cells;)Z"⟩ ⟨"BackVillage$Mind", "heed", "(LBackVillage$State;LBackVillage$Cells;)Z"⟩) ∈ GW := gw_4 (i := 117) (by decide +kernel) rfl
theorem kw_974 : (Cond.code ⟨"BackVillage$Mind", "heed", "(LBackVillage$State;LBackVillage$Cells;)Z"⟩ prog_6_method_25_code 6 (some .boolean)) ∈ GW := gw_4 (i := 118) (by decide +kernel) rfl
theorem kw_975 : (Cond.methodLink "BackVillage$Mind" 110 ⟨"BackVillage$Cells", "put", "(II)V"⟩) ∈ GW := gw_4 (i := 119) (by decide +kernel) rfl
theorem kw_976 : (Cond.methodLink "BackVillage$Acts" 101 ⟨"BackVillage$Mind", "saidIn", "(I)I"⟩) ∈ GW := gw_4 (i := 120) (by decide +kernel) rfl
theorem kw_977 : (Cond.instanceMethod ⟨"BackVillage$Mind", "saidIn", "(I)I"⟩) ∈ GW := gw_4 (i := 121) (by decide +kernel) rfl
theorem kw_978 : (Cond.selects "BackVillage$Mind" ⟨"BackVillage$Mind", "saidIn", "(I)I"⟩ ⟨"BackVillage$Mind", "saidIn", "(I)I"⟩) ∈ GW := gw_4 (i := 122) (by decide +kernel) rfl
theorem kw_979 : (Cond.code ⟨"BackVillage$Mind", "saidIn", "(I)I"⟩ prog_6_method_23_code 2 (some .int)) ∈ GW := gw_4 (i := 123) (by decide +kernel) rfl
theorem kw_980 : (Cond.methodLink "BackVillage$Acts" 42 ⟨"BackVillage$Mind", "sureBits", "(LBackVillage$State;LBackVillage$Cells;)I"⟩) ∈ GW := gw_4 (i := 124) (by decide +kernel) rfl
theorem kw_981 : (Cond.instanceMethod ⟨"BackVillage$Mind", "sureBits", "(LBackVillage$State;LBackVillage$Cells;)I"⟩) ∈ GW := gw_4 (i := 125) (by decide +kernel) rfl
theorem kw_982 : (Cond.selects "BackVillage$Mind" ⟨"BackVillage$Mind", "sureBits", "(LBackVillage$State;LBackVillage$Cells;)I"⟩ ⟨"BackVillage$Mind", "sureBits", "(LBackVillage$State;LBackVillage$Cells;)I"⟩) ∈ GW := gw_4 (i := 126) (by decide +kernel) rfl
theorem kw_983 : (Cond.code ⟨"BackVillage$Mind", "sureBits", "(LBackVillage$State;LBackVillage$Cells;)I"⟩ prog_6_method_5_code 5 (some .int)) ∈ GW := gw_4 (i := 127) (by decide +kernel) rfl
theorem kw_984 : (Cond.methodLink "BackVillage$Mind" 71 ⟨"BackVillage$Mind", "possibleBits", "(LBackVillage$State;LBackVillage$Cells;III)I"⟩) ∈ GW := gw_4 (i := 128) (by decide +kernel) rfl
theorem kw_985 : (Cond.instanceMethod ⟨"BackVillage$Mind", "possibleBits", "(LBackVillage$State;LBackVillage$Cells;III)I"⟩) ∈ GW := gw_4 (i := 129) (by decide +kernel) rfl
theorem kw_986 : (Cond.selects "BackVillage$Mind" ⟨"BackVillage$Mind", "possibleBits", "(LBackVillage$State;LBackVillage$Cells;III)I"⟩ ⟨"BackVillage$Mind", "possibleBits", "(LBackVillage$State;LBackVillage$Cells;III)I"⟩) ∈ GW := gw_4 (i := 130) (by decide +kernel) rfl
theorem kw_987 : (Cond.code ⟨"BackVillage$Mind", "possibleBits", "(LBackVillage$State;LBackVillage$Cells;III)I"⟩ prog_6_method_2_code 9 (some .int)) ∈ GW := gw_4 (i := 131) (by decide +kernel) rfl
theorem kw_988 : (Cond.methodLink "BackVillage$Acts" 46 ⟨"BackVillage$State", "note", "(IIIII)V"⟩) ∈ GW := gw_4 (i := 132) (by decide +kernel) rfl
theorem kw_989 : (Cond.instanceMethod ⟨"BackVillage$State", "note", "(IIIII)V"⟩) ∈ GW := gw_4 (i := 133) (by decide +kernel) rfl
theorem kw_990 : (Cond.selects "BackVillage$State" ⟨"BackVillage$State", "note", "(IIIII)V"⟩ ⟨"BackVillage$State", "note", "(IIIII)V"⟩) ∈ GW := gw_4 (i := 134) (by decide +kernel) rfl
theorem kw_991 : (Cond.code ⟨"BackVillage$State", "note", "(IIIII)V"⟩ prog_8_method_15_code 7 none) ∈ GW := gw_4 (i := 135) (by decide +kernel) rfl
theorem kw_992 : (Cond.methodLink "BackVillage$State" 92 ⟨"BackVillage$Cells", "grow", "(I)V"⟩) ∈ GW := gw_4 (i := 136) (by decide +kernel) rfl
theorem kw_993 : (Cond.methodLink "BackVillage$State" 99 ⟨"java/lang/Math", "min", "(II)I"⟩) ∈ GW := gw_4 (i := 137) (by decide +kernel) rfl
theorem kw_998 : (Cond.methodLink "BackVillage" 290 ⟨"BackVillage$Mind", "spilledBy", "(LBackVillage$State;I)I"⟩) ∈ GW := gw_4 (i := 142) (by decide +kernel) rfl
theorem kw_999 : (Cond.instanceMethod ⟨"BackVillage$Mind", "spilledBy", "(LBackVillage$State;I)I"⟩) ∈ GW := gw_4 (i := 143) (by decide +kernel) rfl
theorem kw_1000 : (Cond.selects "BackVillage$Mind" ⟨"BackVillage$Mind", "spilledBy", "(LBackVillage$State;I)I"⟩ ⟨"BackVillage$Mind", "spilledBy", "(LBackVillage$State;I)I"⟩) ∈ GW := gw_4 (i := 144) (by decide +kernel) rfl
theorem kw_1001 : (Cond.code ⟨"BackVillage$Mind", "spilledBy", "(LBackVillage$State;I)I"⟩ prog_6_method_27_code 5 (some .int)) ∈ GW := gw_4 (i := 145) (by decide +kernel) rfl
theorem kw_1002 : (Cond.methodLink "BackVillage$Mind" 136 ⟨"BackVillage$Mind", "sayNotice", "(LBackVillage$State;I)V"⟩) ∈ GW := gw_4 (i := 146) (by decide +kernel) rfl
theorem kw_1003 : (Cond.instanceMethod ⟨"BackVillage$Mind", "sayNotice", "(LBackVillage$State;I)V"⟩) ∈ GW := gw_4 (i := 147) (by decide +kernel) rfl
theorem kw_1004 : (Cond.selects "BackVillage$Mind" ⟨"BackVillage$Mind", "sayNotice", "(LBackVillage$State;I)V"⟩ ⟨"BackVillage$Mind", "sayNotice", "(LBackVillage$State;I)V"⟩) ∈ GW := gw_4 (i := 148) (by decide +kernel) rfl
theorem kw_1005 : (Cond.code ⟨"BackVillage$Mind", "sayNotice", "(LBackVillage$State;I)V"⟩ prog_6_method_17_code 4 none) ∈ GW := gw_4 (i := 149) (by decide +kernel) rfl
theorem kw_1006 : (Cond.methodLink "BackVillage$Mind" 140 ⟨"BackVillage$Mind", "isSure", "(LBackVillage$State;LBackVillage$Cells;II)Z"⟩) ∈ GW := gw_4 (i := 150) (by decide +kernel) rfl
theorem kw_1007 : (Cond.instanceMethod ⟨"BackVillage$Mind", "isSure", "(LBackVillage$State;LBackVillage$Cells;II)Z"⟩) ∈ GW := gw_4 (i := 151) (by decide +kernel) rfl
theorem kw_1008 : (Cond.selects "BackVillage$Mind" ⟨"BackVillage$Mind", "isSure", "(LBackVillage$State;LBackVillage$Cells;II)Z"⟩ ⟨"BackVillage$Mind", "isSure", "(LBackVillage$State;LBackVillage$Cells;II)Z"⟩) ∈ GW := gw_4 (i := 152) (by decide +kernel) rfl
theorem kw_1009 : (Cond.code ⟨"BackVillage$Mind", "isSure", "(LBackVillage$State;LBackVillage$Cells;II)Z"⟩ prog_6_method_4_code 5 (some .boolean)) ∈ GW := gw_4 (i := 153) (by decide +kernel) rfl
theorem kw_1010 : (Cond.methodLink "BackVillage$Mind" 144 ⟨"BackVillage$Mind", "sureIfHeard", "(LBackVillage$State;LBackVillage$Cells;I)Z"⟩) ∈ GW := gw_4 (i := 154) (by decide +kernel) rfl
theorem kw_1011 : (Cond.instanceMethod ⟨"BackVillage$Mind", "sureIfHeard", "(LBackVillage$State;LBackVillage$Cells;I)Z"⟩) ∈ GW := gw_4 (i := 155) (by decide +kernel) rfl
theorem kw_1012 : (Cond.selects "BackVillage$Mind" ⟨"BackVillage$Mind", "sureIfHeard", "(LBackVillage$State;LBackVillage$Cells;I)Z"⟩ ⟨"BackVillage$Mind", "sureIfHeard", "(LBackVillage$State;LBackVillage$Cells;I)Z"⟩) ∈ GW := gw_4 (i := 156) (by decide +kernel) rfl
theorem kw_1013 : (Cond.code ⟨"BackVillage$Mind", "sureIfHeard", "(LBackVillage$State;LBackVillage$Cells;I)Z"⟩ prog_6_method_24_code 8 (some .boolean)) ∈ GW := gw_4 (i := 157) (by decide +kernel) rfl
theorem kw_1018 : (Cond.methodLink "BackVillage" 170 ⟨"BackVillage$Mind", "holds", "(LBackVillage$State;I)I"⟩) ∈ GW := gw_4 (i := 162) (by decide +kernel) rfl
theorem kw_1019 : (Cond.instanceMethod ⟨"BackVillage$Mind", "holds", "(LBackVillage$State;I)I"⟩) ∈ GW := gw_4 (i := 163) (by decide +kernel) rfl
theorem kw_1020 : (Cond.selects "BackVillage$Mind" ⟨"BackVillage$Mind", "holds", "(LBackVillage$State;I)I"⟩ ⟨"BackVillage$Mind", "holds", "(LBackVillage$State;I)I"⟩) ∈ GW := gw_4 (i := 164) (by decide +kernel) rfl
theorem kw_1021 : (Cond.code ⟨"BackVillage$Mind", "holds", "(LBackVillage$State;I)I"⟩ prog_6_method_9_code 5 (some .int)) ∈ GW := gw_4 (i := 165) (by decide +kernel) rfl
theorem kw_1022 : (Cond.methodLink "BackVillage$Mind" 91 ⟨"BackVillage$Mind", "holdsWorld", "(LBackVillage$State;II)Z"⟩) ∈ GW := gw_4 (i := 166) (by decide +kernel) rfl
theorem kw_1024 : (Cond.instanceMethod ⟨"BackVillage$Mind", "holdsWorld", "(LBackVillage$State;II)Z"⟩) ∈ GW := gw_4 (i := 168) (by decide +kernel) rfl
theorem kw_1025 : (Cond.code ⟨"BackVillage$Mind", "holdsWorld", "(LBackVillage$State;II)Z"⟩ prog_6_method_10_code 4 (some .boolean)) ∈ GW := gw_4 (i := 169) (by decide +kernel) rfl
theorem kw_1026 : (Cond.methodLink "BackVillage$Mind" 87 ⟨"BackVillage$State", "stands", "(I)Z"⟩) ∈ GW := gw_4 (i := 170) (by decide +kernel) rfl
theorem kw_1027 : (Cond.instanceMethod ⟨"BackVillage$State", "stands", "(I)Z"⟩) ∈ GW := gw_4 (i := 171) (by decide +kernel) rfl
theorem kw_1028 : (Cond.selects "BackVillage$State" ⟨"BackVillage$State", "stands", "(I)Z"⟩ ⟨"BackVillage$State", "stands", "(I)Z"⟩) ∈ GW := gw_4 (i := 172) (by decide +kernel) rfl
theorem kw_1029 : (Cond.code ⟨"BackVillage$State", "stands", "(I)Z"⟩ prog_8_method_7_code 2 (some .boolean)) ∈ GW := gw_4 (i := 173) (by decide +kernel) rfl
theorem kw_1034 : (Cond.methodLink "BackVillage" 359 ⟨"BackVillage$Mind", "manyPossible", "(LBackVillage$State;I)I"⟩) ∈ GW := gw_4 (i := 178) (by decide +kernel) rfl
theorem kw_1035 : (Cond.instanceMethod ⟨"BackVillage$Mind", "manyPossible", "(LBackVillage$State;I)I"⟩) ∈ GW := gw_4 (i := 179) (by decide +kernel) rfl
theorem kw_1036 : (Cond.selects "BackVillage$Mind" ⟨"BackVillage$Mind", "manyPossible", "(LBackVillage$State;I)I"⟩ ⟨"BackVillage$Mind", "manyPossible", "(LBackVillage$State;I)I"⟩) ∈ GW := gw_4 (i := 180) (by decide +kernel) rfl
theorem kw_1037 : (Cond.code ⟨"BackVillage$Mind", "manyPossible", "(LBackVillage$State;I)I"⟩ prog_6_method_7_code 5 (some .int)) ∈ GW := gw_4 (i := 181) (by decide +kernel) rfl
theorem kw_1054 : (Cond.methodLink "BackVillage" 122 ⟨"BackVillage", "forgetPast", "()V"⟩) ∈ GW := gw_4 (i := 198) (by decide +kernel) rfl
theorem kw_1056 : (Cond.instanceMethod ⟨"BackVillage", "forgetPast", "()V"⟩) ∈ GW := gw_4 (i := 200) (by decide +kernel) rfl
theorem kw_1057 : (Cond.code ⟨"BackVillage", "forgetPast", "()V"⟩ prog_1_method_61_code 1 none) ∈ GW := gw_4 (i := 201) (by decide +kernel) rfl
theorem kw_1062 : (Cond.methodLink "BackVillage" 384 ⟨"BackVillage$Law", "lines", "()I"⟩) ∈ GW := gw_4 (i := 206) (by decide +kernel) rfl
theorem kw_1063 : (Cond.instanceMethod ⟨"BackVillage$Law", "lines", "()I"⟩) ∈ GW := gw_4 (i := 207) (by decide +kernel) rfl
theorem kw_1064 : (Cond.selects "BackVillage$Law" ⟨"BackVillage$Law", "lines", "()I"⟩ ⟨"BackVillage$Law", "lines", "()I"⟩) ∈ GW := gw_4 (i := 208) (by decide +kernel) rfl
theorem kw_1065 : (Cond.code ⟨"BackVillage$Law", "lines", "()I"⟩ prog_4_method_2_code 1 (some .int)) ∈ GW := gw_4 (i := 209) (by decide +kernel) rfl
theorem kw_1066 : (Cond.methodLink "BackVillage" 395 ⟨"BackVillage$Mind", "manyLeft", "(LBackVillage$State;)I"⟩) ∈ GW := gw_4 (i := 210) (by decide +kernel) rfl
theorem kw_1067 : (Cond.instanceMethod ⟨"BackVillage$Mind", "manyLeft", "(LBackVillage$State;)I"⟩) ∈ GW := gw_4 (i := 211) (by decide +kernel) rfl
theorem kw_1068 : (Cond.selects "BackVillage$Mind" ⟨"BackVillage$Mind", "manyLeft", "(LBackVillage$State;)I"⟩ ⟨"BackVillage$Mind", "manyLeft", "(LBackVillage$State;)I"⟩) ∈ GW := gw_4 (i := 212) (by decide +kernel) rfl
theorem kw_1069 : (Cond.code ⟨"BackVillage$Mind", "manyLeft", "(LBackVillage$State;)I"⟩ prog_6_method_8_code 4 (some .int)) ∈ GW := gw_4 (i := 213) (by decide +kernel) rfl
theorem kw_1070 : (Cond.methodLink "BackVillage" 398 ⟨"BackVillage$Mind", "sureBits", "(LBackVillage$State;LBackVillage$Cells;)I"⟩) ∈ GW := gw_4 (i := 214) (by decide +kernel) rfl
theorem kw_1080 : (Cond.methodLink "BackVillage" 86 ⟨"BackVillage$Tape", "use", "()I"⟩) ∈ GW := gw_4 (i := 224) (by decide +kernel) rfl
theorem kw_1081 : (Cond.instanceMethod ⟨"BackVillage$Tape", "use", "()I"⟩) ∈ GW := gw_4 (i := 225) (by decide +kernel) rfl
theorem kw_1082 : (Cond.selects "BackVillage$Tape" ⟨"BackVillage$Tape", "use", "()I"⟩ ⟨"BackVillage$Tape", "use", "()I"⟩) ∈ GW := gw_4 (i := 226) (by decide +kernel) rfl
theorem kw_1083 : (Cond.code ⟨"BackVillage$Tape", "use", "()I"⟩ prog_9_method_6_code 2 (some .int)) ∈ GW := gw_4 (i := 227) (by decide +kernel) rfl
theorem kw_1084 : (Cond.methodLink "BackVillage" 93 ⟨"BackVillage$VillageReader", "open", "(LBackVillage$Tape;I)V"⟩) ∈ GW := gw_4 (i := 228) (by decide +kernel) rfl
theorem kw_1085 : (Cond.sameMethod "BackVillage$VillageReader" "BackVillage$TextReader" "open" "(LBackVillage$Tape;I)V") ∈ GW := gw_4 (i := 229) (by decide +kernel) rfl
theorem kw_1087 : (Cond.selects "BackVillage$VillageReader" ⟨"BackVillage$VillageReader", "open", "(LBackVillage$Tape;I)V"⟩ ⟨"BackVillage$TextReader", "open", "(LBackVillage$Tape;I)V"⟩) ∈ GW := gw_4 (i := 231) (by decide +kernel) rfl
theorem kw_1088 : (Cond.instanceMethod ⟨"BackVillage$TextReader", "open", "(LBackVillage$Tape;I)V"⟩) ∈ GW := gw_4 (i := 232) (by decide +kernel) rfl
theorem kw_1089 : (Cond.code ⟨"BackVillage$TextReader", "open", "(LBackVillage$Tape;I)V"⟩ prog_10_method_5_code 5 none) ∈ GW := gw_4 (i := 233) (by decide +kernel) rfl
theorem kw_1090 : (Cond.methodLink "BackVillage$TextReader" 54 ⟨"BackVillage$TextReader", "endOfThing", "(I)I"⟩) ∈ GW := gw_4 (i := 234) (by decide +kernel) rfl
theorem kw_1092 : (Cond.instanceMethod ⟨"BackVillage$TextReader", "endOfThing", "(I)I"⟩) ∈ GW := gw_4 (i := 236) (by decide +kernel) rfl
theorem kw_1093 : (Cond.code ⟨"BackVillage$TextReader", "endOfThing", "(I)I"⟩ prog_10_method_6_code 3 (some .int)) ∈ GW := gw_4 (i := 237) (by decide +kernel) rfl
theorem kw_1094 : (Cond.methodLink "BackVillage$TextReader" 58 ⟨"BackVillage$TextReader", "byteAt", "(I)I"⟩) ∈ GW := gw_4 (i := 238) (by decide +kernel) rfl
theorem kw_1096 : (Cond.instanceMethod ⟨"BackVillage$TextReader", "byteAt", "(I)I"⟩) ∈ GW := gw_5 (i := 0) (by decide +kernel) rfl
theorem kw_1097 : (Cond.code ⟨"BackVillage$TextReader", "byteAt", "(I)I"⟩ prog_10_method_11_code 2 (some .int)) ∈ GW := gw_5 (i := 1) (by decide +kernel) rfl
theorem kw_1098 : (Cond.methodLink "BackVillage$TextReader" 143 ⟨"BackVillage$Tape", "byteAt", "(I)I"⟩) ∈ GW := gw_5 (i := 2) (by decide +kernel) rfl
theorem kw_1099 : (Cond.instanceMethod ⟨"BackVillage$Tape", "byteAt", "(I)I"⟩) ∈ GW := gw_5 (i := 3) (by decide +kernel) rfl
theorem kw_1100 : (Cond.selects "BackVillage$Tape" ⟨"BackVillage$Tape", "byteAt", "(I)I"⟩ ⟨"BackVillage$Tape", "byteAt", "(I)I"⟩) ∈ GW := gw_5 (i := 4) (by decide +kernel) rfl
theorem kw_1101 : (Cond.code ⟨"BackVillage$Tape", "byteAt", "(I)I"⟩ prog_9_method_7_code 2 (some .int)) ∈ GW := gw_5 (i := 5) (by decide +kernel) rfl
theorem kw_1102 : (Cond.methodLink "BackVillage$Tape" 26 ⟨"BackVillage$Cells", "at", "(I)I"⟩) ∈ GW := gw_5 (i := 6) (by decide +kernel) rfl
theorem kw_1103 : (Cond.methodLink "BackVillage$TextReader" 77 ⟨"BackVillage$TextReader", "isLetter", "(I)Z"⟩) ∈ GW := gw_5 (i := 7) (by decide +kernel) rfl
theorem kw_1104 : (Cond.static ⟨"BackVillage$TextReader", "isLetter", "(I)Z"⟩) ∈ GW := gw_5 (i := 8) (by decide +kernel) rfl
theorem kw_1105 : (Cond.code ⟨"BackVillage$TextReader", "isLetter", "(I)Z"⟩ prog_10_method_12_code 1 (some .boolean)) ∈ GW := gw_5 (i := 9) (by decide +kernel) rfl
theorem kw_1106 : (Cond.methodLink "BackVillage$TextReader" 80 ⟨"BackVillage$TextReader", "isDigit", "(I)Z"⟩) ∈ GW := gw_5 (i := 10) (by decide +kernel) rfl
theorem kw_1107 : (Cond.static ⟨"BackVillage$TextReader", "isDigit", "(I)Z"⟩) ∈ GW := gw_5 (i := 11) (by decide +kernel) rfl
theorem kw_1108 : (Cond.code ⟨"BackVillage$TextReader", "isDigit", "(I)Z"⟩ prog_10_method_13_code 1 (some .boolean)) ∈ GW := gw_5 (i := 12) (by decide +kernel) rfl
theorem kw_1109 : (Cond.methodLink "BackVillage$TextReader" 61 ⟨"BackVillage$TextReader", "keep", "(II)V"⟩) ∈ GW := gw_5 (i := 13) (by decide +kernel) rfl
theorem kw_1111 : (Cond.instanceMethod ⟨"BackVillage$TextReader", "keep", "(II)V"⟩) ∈ GW := gw_5 (i := 15) (by decide +kernel) rfl
theorem kw_1112 : (Cond.code ⟨"BackVillage$TextReader", "keep", "(II)V"⟩ prog_10_method_7_code 3 none) ∈ GW := gw_5 (i := 16) (by decide +kernel) rfl
theorem kw_1113 : (Cond.methodLink "BackVillage$TextReader" 83 ⟨"BackVillage$TextReader", "kindOfWord", "(II)I"⟩) ∈ GW := gw_5 (i := 17) (by decide +kernel) rfl
theorem kw_1115 : (Cond.instanceMethod ⟨"BackVillage$TextReader", "kindOfWord", "(II)I"⟩) ∈ GW := gw_5 (i := 19) (by decide +kernel) rfl
theorem kw_1116 : (Cond.code ⟨"BackVillage$TextReader", "kindOfWord", "(II)I"⟩ prog_10_method_9_code 3 (some .int)) ∈ GW := gw_5 (i := 20) (by decide +kernel) rfl
theorem kw_1118 : (Cond.methodLink "BackVillage$TextReader" 94 ⟨"BackVillage$TextReader", "isWord", "(IILjava/lang/String;)Z"⟩) ∈ GW := gw_5 (i := 22) (by decide +kernel) rfl
theorem kw_1120 : (Cond.instanceMethod ⟨"BackVillage$TextReader", "isWord", "(IILjava/lang/String;)Z"⟩) ∈ GW := gw_5 (i := 24) (by decide +kernel) rfl
theorem kw_1121 : (Cond.code ⟨"BackVillage$TextReader", "isWord", "(IILjava/lang/String;)Z"⟩ prog_10_method_10_code 5 (some .boolean)) ∈ GW := gw_5 (i := 25) (by decide +kernel) rfl
theorem kw_1122 : (Cond.methodLink "BackVillage$TextReader" 134 ⟨"java/lang/String", "length", "()I"⟩) ∈ GW := gw_5 (i := 26) (by decide +kernel) rfl
theorem kw_1123 : (Cond.methodLink "BackVillage$TextReader" 139 ⟨"java/lang/String", "charAt", "(I)C"⟩) ∈ GW := gw_5 (i := 27) (by decide +kernel) rfl
theorem kw_1165 : (Cond.methodLink "BackVillage$TextReader" 86 ⟨"java/lang/Math", "min", "(II)I"⟩) ∈ GW := gw_5 (i := 69) (by decide +kernel) rfl
theorem kw_1166 : (Cond.methodLink "BackVillage$TextReader" 89 ⟨"BackVillage$TextReader", "valueOf", "(II)I"⟩) ∈ GW := gw_5 (i := 70) (by decide +kernel) rfl
theorem kw_1168 : (Cond.instanceMethod ⟨"BackVillage$TextReader", "valueOf", "(II)I"⟩) ∈ GW := gw_5 (i := 72) (by decide +kernel) rfl
theorem kw_1169 : (Cond.code ⟨"BackVillage$TextReader", "valueOf", "(II)I"⟩ prog_10_method_8_code 5 (some .int)) ∈ GW := gw_5 (i := 73) (by decide +kernel) rfl
theorem kw_1170 : (Cond.methodLink "BackVillage$TextReader" 65 ⟨"java/lang/Math", "max", "(II)I"⟩) ∈ GW := gw_5 (i := 74) (by decide +kernel) rfl
theorem kw_1171 : (Cond.methodLink "BackVillage$TextReader" 74 ⟨"BackVillage$TextReader", "step", "()V"⟩) ∈ GW := gw_5 (i := 75) (by decide +kernel) rfl
theorem kw_1172 : (Cond.instanceMethod ⟨"BackVillage$TextReader", "step", "()V"⟩) ∈ GW := gw_5 (i := 76) (by decide +kernel) rfl
theorem kw_1173 : (Cond.sameMethod "BackVillage$TextReader" "BackVillage$TextReader" "step" "()V") ∈ GW := gw_5 (i := 77) (by decide +kernel) rfl
theorem kw_1174 : (Cond.selects "BackVillage$LawReader" ⟨"BackVillage$TextReader", "step", "()V"⟩ ⟨"BackVillage$TextReader", "step", "()V"⟩) ∈ GW := gw_5 (i := 78) (by decide +kernel) rfl
theorem kw_1175 : (Cond.selects "BackVillage$VillageReader" ⟨"BackVillage$TextReader", "step", "()V"⟩ ⟨"BackVillage$TextReader", "step", "()V"⟩) ∈ GW := gw_5 (i := 79) (by decide +kernel) rfl
theorem kw_1176 : (Cond.code ⟨"BackVillage$TextReader", "step", "()V"⟩ prog_10_method_14_code 1 none) ∈ GW := gw_5 (i := 80) (by decide +kernel) rfl
theorem kw_1177 : (Cond.methodLink "BackVillage" 97 ⟨"BackVillage$VillageReader", "aimAt", "(LBackVillage$State;)V"⟩) ∈ GW := gw_5 (i := 81) (by decide +kernel) rfl
theorem kw_1178 : (Cond.instanceMethod ⟨"BackVillage$VillageReader", "aimAt", "(LBackVillage$State;)V"⟩) ∈ GW := gw_5 (i := 82) (by decide +kernel) rfl
theorem kw_1179 : (Cond.selects "BackVillage$VillageReader" ⟨"BackVillage$VillageReader", "aimAt", "(LBackVillage$State;)V"⟩ ⟨"BackVillage$VillageReader", "aimAt", "(LBackVillage$State;)V"⟩) ∈ GW := gw_5 (i := 83) (by decide +kernel) rfl
theorem kw_1180 : (Cond.code ⟨"BackVillage$VillageReader", "aimAt", "(LBackVillage$State;)V"⟩ prog_11_method_2_code 2 none) ∈ GW := gw_5 (i := 84) (by decide +kernel) rfl
theorem kw_1181 : (Cond.methodLink "BackVillage" 100 ⟨"BackVillage$VillageReader", "readLines", "(I)I"⟩) ∈ GW := gw_5 (i := 85) (by decide +kernel) rfl
theorem kw_1182 : (Cond.sameMethod "BackVillage$VillageReader" "BackVillage$TextReader" "readLines" "(I)I") ∈ GW := gw_5 (i := 86) (by decide +kernel) rfl
theorem kw_1184 : (Cond.selects "BackVillage$VillageReader" ⟨"BackVillage$VillageReader", "readLines", "(I)I"⟩ ⟨"BackVillage$TextReader", "readLines", "(I)I"⟩) ∈ GW := gw_5 (i := 88) (by decide +kernel) rfl
theorem kw_1185 : (Cond.instanceMethod ⟨"BackVillage$TextReader", "readLines", "(I)I"⟩) ∈ GW := gw_5 (i := 89) (by decide +kernel) rfl
theorem kw_1186 : (Cond.code ⟨"BackVillage$TextReader", "readLines", "(I)I"⟩ prog_10_method_4_code 3 (some .int)) ∈ GW := gw_5 (i := 90) (by decide +kernel) rfl
theorem kw_1187 : (Cond.methodLink "BackVillage$TextReader" 30 ⟨"BackVillage$TextReader", "readLine", "()Z"⟩) ∈ GW := gw_5 (i := 91) (by decide +kernel) rfl
theorem kw_1189 : (Cond.sameMethod "BackVillage$TextReader" "BackVillage$TextReader" "readLine" "()Z") ∈ GW := gw_5 (i := 93) (by decide +kernel) rfl
theorem kw_1190 : (Cond.selects "BackVillage$LawReader" ⟨"BackVillage$TextReader", "readLine", "()Z"⟩ ⟨"BackVillage$LawReader", "readLine", "()Z"⟩) ∈ GW := gw_5 (i := 94) (by decide +kernel) rfl
theorem kw_1191 : (Cond.instanceMethod ⟨"BackVillage$LawReader", "readLine", "()Z"⟩) ∈ GW := gw_5 (i := 95) (by decide +kernel) rfl
theorem kw_1192 : (Cond.code ⟨"BackVillage$LawReader", "readLine", "()Z"⟩ prog_5_method_4_code 2 (some .boolean)) ∈ GW := gw_5 (i := 96) (by decide +kernel) rfl
theorem kw_1193 : (Cond.methodLink "BackVillage$LawReader" 39 ⟨"BackVillage$LawReader", "take", "(I)Z"⟩) ∈ GW := gw_5 (i := 97) (by decide +kernel) rfl
theorem kw_1194 : (Cond.sameMethod "BackVillage$LawReader" "BackVillage$TextReader" "take" "(I)Z") ∈ GW := gw_5 (i := 98) (by decide +kernel) rfl
theorem kw_1196 : (Cond.selects "BackVillage$LawReader" ⟨"BackVillage$LawReader", "take", "(I)Z"⟩ ⟨"BackVillage$TextReader", "take", "(I)Z"⟩) ∈ GW := gw_5 (i := 100) (by decide +kernel) rfl
theorem kw_1197 : (Cond.instanceMethod ⟨"BackVillage$TextReader", "take", "(I)Z"⟩) ∈ GW := gw_5 (i := 101) (by decide +kernel) rfl
theorem kw_1198 : (Cond.code ⟨"BackVillage$TextReader", "take", "(I)Z"⟩ prog_10_method_16_code 2 (some .boolean)) ∈ GW := gw_5 (i := 102) (by decide +kernel) rfl
theorem kw_1199 : (Cond.methodLink "BackVillage$TextReader" 41 ⟨"BackVillage$TextReader", "wrongAt", "(I)Z"⟩) ∈ GW := gw_5 (i := 103) (by decide +kernel) rfl
theorem kw_1200 : (Cond.instanceMethod ⟨"BackVillage$TextReader", "wrongAt", "(I)Z"⟩) ∈ GW := gw_5 (i := 104) (by decide +kernel) rfl
theorem kw_1201 : (Cond.sameMethod "BackVillage$TextReader" "BackVillage$TextReader" "wrongAt" "(I)Z") ∈ GW := gw_5 (i := 105) (by decide +kernel) rfl
theorem kw_1202 : (Cond.selects "BackVillage$LawReader" ⟨"BackVillage$TextReader", "wrongAt", "(I)Z"⟩ ⟨"BackVillage$TextReader", "wrongAt", "(I)Z"⟩) ∈ GW := gw_5 (i := 106) (by decide +kernel) rfl
theorem kw_1203 : (Cond.selects "BackVillage$VillageReader" ⟨"BackVillage$TextReader", "wrongAt", "(I)Z"⟩ ⟨"BackVillage$TextReader", "wrongAt", "(I)Z"⟩) ∈ GW := gw_5 (i := 107) (by decide +kernel) rfl
theorem kw_1204 : (Cond.code ⟨"BackVillage$TextReader", "wrongAt", "(I)Z"⟩ prog_10_method_15_code 2 (some .boolean)) ∈ GW := gw_5 (i := 108) (by decide +kernel) rfl
theorem kw_1205 : (Cond.methodLink "BackVillage$LawReader" 46 ⟨"BackVillage$LawReader", "takeNumber", "(II)Z"⟩) ∈ GW := gw_5 (i := 109) (by decide +kernel) rfl
theorem kw_1206 : (Cond.sameMethod "BackVillage$LawReader" "BackVillage$TextReader" "takeNumber" "(II)Z") ∈ GW := gw_5 (i := 110) (by decide +kernel) rfl
theorem kw_1208 : (Cond.selects "BackVillage$LawReader" ⟨"BackVillage$LawReader", "takeNumber", "(II)Z"⟩ ⟨"BackVillage$TextReader", "takeNumber", "(II)Z"⟩) ∈ GW := gw_5 (i := 112) (by decide +kernel) rfl
theorem kw_1209 : (Cond.instanceMethod ⟨"BackVillage$TextReader", "takeNumber", "(II)Z"⟩) ∈ GW := gw_5 (i := 113) (by decide +kernel) rfl
theorem kw_1210 : (Cond.code ⟨"BackVillage$TextReader", "takeNumber", "(II)Z"⟩ prog_10_method_17_code 3 (some .boolean)) ∈ GW := gw_5 (i := 114) (by decide +kernel) rfl
theorem kw_1211 : (Cond.methodLink "BackVillage$LawReader" 53 ⟨"BackVillage$LawReader", "step", "()V"⟩) ∈ GW := gw_5 (i := 115) (by decide +kernel) rfl
theorem kw_1212 : (Cond.sameMethod "BackVillage$LawReader" "BackVillage$TextReader" "step" "()V") ∈ GW := gw_5 (i := 116) (by decide +kernel) rfl
theorem kw_1214 : (Cond.selects "BackVillage$LawReader" ⟨"BackVillage$LawReader", "step", "()V"⟩ ⟨"BackVillage$TextReader", "step", "()V"⟩) ∈ GW := gw_5 (i := 118) (by decide +kernel) rfl
theorem kw_1215 : (Cond.methodLink "BackVillage$LawReader" 56 ⟨"BackVillage$LawReader", "readAny", "(I)Z"⟩) ∈ GW := gw_5 (i := 119) (by decide +kernel) rfl
theorem kw_1217 : (Cond.instanceMethod ⟨"BackVillage$LawReader", "readAny", "(I)Z"⟩) ∈ GW := gw_5 (i := 121) (by decide +kernel) rfl
theorem kw_1218 : (Cond.code ⟨"BackVillage$LawReader", "readAny", "(I)Z"⟩ prog_5_method_5_code 3 (some .boolean)) ∈ GW := gw_5 (i := 122) (by decide +kernel) rfl
theorem kw_1219 : (Cond.methodLink "BackVillage$LawReader" 62 ⟨"BackVillage$LawReader", "readAll", "(I)Z"⟩) ∈ GW := gw_5 (i := 123) (by decide +kernel) rfl
theorem kw_1221 : (Cond.instanceMethod ⟨"BackVillage$LawReader", "readAll", "(I)Z"⟩) ∈ GW := gw_5 (i := 125) (by decide +kernel) rfl
theorem kw_1222 : (Cond.code ⟨"BackVillage$LawReader", "readAll", "(I)Z"⟩ prog_5_method_6_code 3 (some .boolean)) ∈ GW := gw_5 (i := 126) (by decide +kernel) rfl
theorem kw_1223 : (Cond.methodLink "BackVillage$LawReader" 67 ⟨"BackVillage$LawReader", "readAtom", "(I)Z"⟩) ∈ GW := gw_5 (i := 127) (by decide +kernel) rfl
theorem kw_1225 : (Cond.instanceMethod ⟨"BackVillage$LawReader", "readAtom", "(I)Z"⟩) ∈ GW := gw_5 (i := 129) (by decide +kernel) rfl
theorem kw_1226 : (Cond.code ⟨"BackVillage$LawReader", "readAtom", "(I)Z"⟩ prog_5_method_7_code 3 (some .boolean)) ∈ GW := gw_5 (i := 130) (by decide +kernel) rfl
theorem kw_1227 : (Cond.methodLink "BackVillage$LawReader" 73 ⟨"BackVillage$LawReader", "wrongAt", "(I)Z"⟩) ∈ GW := gw_5 (i := 131) (by decide +kernel) rfl
theorem kw_1228 : (Cond.sameMethod "BackVillage$LawReader" "BackVillage$TextReader" "wrongAt" "(I)Z") ∈ GW := gw_5 (i := 132) (by decide +kernel) rfl
theorem kw_1230 : (Cond.selects "BackVillage$LawReader" ⟨"BackVillage$LawReader", "wrongAt", "(I)Z"⟩ ⟨"BackVillage$TextReader", "wrongAt", "(I)Z"⟩) ∈ GW := gw_5 (i := 134) (by decide +kernel) rfl
theorem kw_1231 : (Cond.methodLink "BackVillage$LawReader" 59 ⟨"BackVillage$LawReader", "add", "(I)Z"⟩) ∈ GW := gw_5 (i := 135) (by decide +kernel) rfl
theorem kw_1233 : (Cond.instanceMethod ⟨"BackVillage$LawReader", "add", "(I)Z"⟩) ∈ GW := gw_5 (i := 137) (by decide +kernel) rfl
theorem kw_1234 : (Cond.code ⟨"BackVillage$LawReader", "add", "(I)Z"⟩ prog_5_method_10_code 2 (some .boolean)) ∈ GW := gw_5 (i := 138) (by decide +kernel) rfl
theorem kw_1235 : (Cond.methodLink "BackVillage$LawReader" 76 ⟨"BackVillage$LawReader", "readSum", "()Z"⟩) ∈ GW := gw_5 (i := 139) (by decide +kernel) rfl
theorem kw_1237 : (Cond.instanceMethod ⟨"BackVillage$LawReader", "readSum", "()Z"⟩) ∈ GW := gw_5 (i := 141) (by decide +kernel) rfl
theorem kw_1238 : (Cond.code ⟨"BackVillage$LawReader", "readSum", "()Z"⟩ prog_5_method_8_code 3 (some .boolean)) ∈ GW := gw_5 (i := 142) (by decide +kernel) rfl
theorem kw_1239 : (Cond.methodLink "BackVillage$LawReader" 80 ⟨"BackVillage$LawReader", "partNext", "()I"⟩) ∈ GW := gw_5 (i := 143) (by decide +kernel) rfl
theorem kw_1241 : (Cond.instanceMethod ⟨"BackVillage$LawReader", "partNext", "()I"⟩) ∈ GW := gw_5 (i := 145) (by decide +kernel) rfl
theorem kw_1242 : (Cond.code ⟨"BackVillage$LawReader", "partNext", "()I"⟩ prog_5_method_9_code 1 (some .int)) ∈ GW := gw_5 (i := 146) (by decide +kernel) rfl
theorem kw_1243 : (Cond.selects "BackVillage$VillageReader" ⟨"BackVillage$TextReader", "readLine", "()Z"⟩ ⟨"BackVillage$VillageReader", "readLine", "()Z"⟩) ∈ GW := gw_5 (i := 147) (by decide +kernel) rfl
theorem kw_1244 : (Cond.instanceMethod ⟨"BackVillage$VillageReader", "readLine", "()Z"⟩) ∈ GW := gw_5 (i := 148) (by decide +kernel) rfl
theorem kw_1245 : (Cond.code ⟨"BackVillage$VillageReader", "readLine", "()Z"⟩ prog_11_method_3_code 3 (some .boolean)) ∈ GW := gw_5 (i := 149) (by decide +kernel) rfl
theorem kw_1246 : (Cond.methodLink "BackVillage$VillageReader" 26 ⟨"BackVillage$VillageReader", "wrongAt", "(I)Z"⟩) ∈ GW := gw_5 (i := 150) (by decide +kernel) rfl
theorem kw_1247 : (Cond.sameMethod "BackVillage$VillageReader" "BackVillage$TextReader" "wrongAt" "(I)Z") ∈ GW := gw_5 (i := 151) (by decide +kernel) rfl
theorem kw_1248 : (Cond.selects "BackVillage$VillageReader" ⟨"BackVillage$VillageReader", "wrongAt", "(I)Z"⟩ ⟨"BackVillage$TextReader", "wrongAt", "(I)Z"⟩) ∈ GW := gw_5 (i := 152) (by decide +kernel) rfl
theorem kw_1249 : (Cond.methodLink "BackVillage$VillageReader" 30 ⟨"BackVillage$VillageReader", "step", "()V"⟩) ∈ GW := gw_5 (i := 153) (by decide +kernel) rfl
theorem kw_1250 : (Cond.sameMethod "BackVillage$VillageReader" "BackVillage$TextReader" "step" "()V") ∈ GW := gw_5 (i := 154) (by decide +kernel) rfl
theorem kw_1251 : (Cond.selects "BackVillage$VillageReader" ⟨"BackVillage$VillageReader", "step", "()V"⟩ ⟨"BackVillage$TextReader", "step", "()V"⟩) ∈ GW := gw_5 (i := 155) (by decide +kernel) rfl
theorem kw_1252 : (Cond.methodLink "BackVillage$VillageReader" 33 ⟨"BackVillage$VillageReader", "readValues", "(I)Z"⟩) ∈ GW := gw_5 (i := 156) (by decide +kernel) rfl
theorem kw_1254 : (Cond.instanceMethod ⟨"BackVillage$VillageReader", "readValues", "(I)Z"⟩) ∈ GW := gw_5 (i := 158) (by decide +kernel) rfl
theorem kw_1255 : (Cond.code ⟨"BackVillage$VillageReader", "readValues", "(I)Z"⟩ prog_11_method_4_code 3 (some .boolean)) ∈ GW := gw_5 (i := 159) (by decide +kernel) rfl
theorem kw_1256 : (Cond.methodLink "BackVillage$VillageReader" 62 ⟨"BackVillage$VillageReader", "takeNumber", "(II)Z"⟩) ∈ GW := gw_5 (i := 160) (by decide +kernel) rfl
theorem kw_1257 : (Cond.sameMethod "BackVillage$VillageReader" "BackVillage$TextReader" "takeNumber" "(II)Z") ∈ GW := gw_5 (i := 161) (by decide +kernel) rfl
theorem kw_1258 : (Cond.selects "BackVillage$VillageReader" ⟨"BackVillage$VillageReader", "takeNumber", "(II)Z"⟩ ⟨"BackVillage$TextReader", "takeNumber", "(II)Z"⟩) ∈ GW := gw_5 (i := 162) (by decide +kernel) rfl
theorem kw_1259 : (Cond.methodLink "BackVillage$VillageReader" 36 ⟨"BackVillage$VillageReader", "readPerson", "(I)Z"⟩) ∈ GW := gw_5 (i := 163) (by decide +kernel) rfl
theorem kw_1261 : (Cond.instanceMethod ⟨"BackVillage$VillageReader", "readPerson", "(I)Z"⟩) ∈ GW := gw_5 (i := 165) (by decide +kernel) rfl
theorem kw_1262 : (Cond.code ⟨"BackVillage$VillageReader", "readPerson", "(I)Z"⟩ prog_11_method_5_code 3 (some .boolean)) ∈ GW := gw_5 (i := 166) (by decide +kernel) rfl
theorem kw_1263 : (Cond.methodLink "BackVillage$VillageReader" 69 ⟨"BackVillage$State", "hasRoom", "()Z"⟩) ∈ GW := gw_5 (i := 167) (by decide +kernel) rfl
theorem kw_1264 : (Cond.instanceMethod ⟨"BackVillage$State", "hasRoom", "()Z"⟩) ∈ GW := gw_5 (i := 168) (by decide +kernel) rfl
theorem kw_1265 : (Cond.selects "BackVillage$State" ⟨"BackVillage$State", "hasRoom", "()Z"⟩ ⟨"BackVillage$State", "hasRoom", "()Z"⟩) ∈ GW := gw_5 (i := 169) (by decide +kernel) rfl
theorem kw_1266 : (Cond.code ⟨"BackVillage$State", "hasRoom", "()Z"⟩ prog_8_method_12_code 1 (some .boolean)) ∈ GW := gw_5 (i := 170) (by decide +kernel) rfl
theorem kw_1267 : (Cond.methodLink "BackVillage$VillageReader" 72 ⟨"BackVillage$State", "join", "(I)V"⟩) ∈ GW := gw_5 (i := 171) (by decide +kernel) rfl
theorem kw_1268 : (Cond.instanceMethod ⟨"BackVillage$State", "join", "(I)V"⟩) ∈ GW := gw_5 (i := 172) (by decide +kernel) rfl
theorem kw_1269 : (Cond.selects "BackVillage$State" ⟨"BackVillage$State", "join", "(I)V"⟩ ⟨"BackVillage$State", "join", "(I)V"⟩) ∈ GW := gw_5 (i := 173) (by decide +kernel) rfl
theorem kw_1270 : (Cond.code ⟨"BackVillage$State", "join", "(I)V"⟩ prog_8_method_13_code 3 none) ∈ GW := gw_5 (i := 174) (by decide +kernel) rfl
theorem kw_1271 : (Cond.methodLink "BackVillage$State" 95 ⟨"BackVillage$Cells", "fill", "(II)V"⟩) ∈ GW := gw_5 (i := 175) (by decide +kernel) rfl
theorem kw_1272 : (Cond.methodLink "BackVillage$VillageReader" 39 ⟨"BackVillage$VillageReader", "readSees", "()Z"⟩) ∈ GW := gw_5 (i := 176) (by decide +kernel) rfl
theorem kw_1274 : (Cond.instanceMethod ⟨"BackVillage$VillageReader", "readSees", "()Z"⟩) ∈ GW := gw_5 (i := 178) (by decide +kernel) rfl
theorem kw_1275 : (Cond.code ⟨"BackVillage$VillageReader", "readSees", "()Z"⟩ prog_11_method_6_code 1 (some .boolean)) ∈ GW := gw_5 (i := 179) (by decide +kernel) rfl
theorem kw_1276 : (Cond.methodLink "BackVillage$VillageReader" 76 ⟨"BackVillage$VillageReader", "readTwo", "()Z"⟩) ∈ GW := gw_5 (i := 180) (by decide +kernel) rfl
theorem kw_1278 : (Cond.instanceMethod ⟨"BackVillage$VillageReader", "readTwo", "()Z"⟩) ∈ GW := gw_5 (i := 182) (by decide +kernel) rfl
theorem kw_1279 : (Cond.code ⟨"BackVillage$VillageReader", "readTwo", "()Z"⟩ prog_11_method_9_code 2 (some .boolean)) ∈ GW := gw_5 (i := 183) (by decide +kernel) rfl
theorem kw_1280 : (Cond.methodLink "BackVillage$VillageReader" 85 ⟨"BackVillage$Mind", "look", "(LBackVillage$State;II)V"⟩) ∈ GW := gw_5 (i := 184) (by decide +kernel) rfl
theorem kw_1281 : (Cond.instanceMethod ⟨"BackVillage$Mind", "look", "(LBackVillage$State;II)V"⟩) ∈ GW := gw_5 (i := 185) (by decide +kernel) rfl
theorem kw_1282 : (Cond.selects "BackVillage$Mind" ⟨"BackVillage$Mind", "look", "(LBackVillage$State;II)V"⟩ ⟨"BackVillage$Mind", "look", "(LBackVillage$State;II)V"⟩) ∈ GW := gw_5 (i := 186) (by decide +kernel) rfl
theorem kw_1283 : (Cond.code ⟨"BackVillage$Mind", "look", "(LBackVillage$State;II)V"⟩ prog_6_method_31_code 5 none) ∈ GW := gw_5 (i := 187) (by decide +kernel) rfl
theorem kw_1284 : (Cond.methodLink "BackVillage$Mind" 169 ⟨"BackVillage$Mind", "split", "(LBackVillage$State;I)V"⟩) ∈ GW := gw_5 (i := 188) (by decide +kernel) rfl
theorem kw_1285 : (Cond.instanceMethod ⟨"BackVillage$Mind", "split", "(LBackVillage$State;I)V"⟩) ∈ GW := gw_5 (i := 189) (by decide +kernel) rfl
theorem kw_1286 : (Cond.selects "BackVillage$Mind" ⟨"BackVillage$Mind", "split", "(LBackVillage$State;I)V"⟩ ⟨"BackVillage$Mind", "split", "(LBackVillage$State;I)V"⟩) ∈ GW := gw_5 (i := 190) (by decide +kernel) rfl
theorem kw_1287 : (Cond.code ⟨"BackVillage$Mind", "split", "(LBackVillage$State;I)V"⟩ prog_6_method_32_code 6 none) ∈ GW := gw_5 (i := 191) (by decide +kernel) rfl
theorem kw_1288 : (Cond.methodLink "BackVillage$VillageReader" 43 ⟨"BackVillage$VillageReader", "readLimit", "(IZ)Z"⟩) ∈ GW := gw_5 (i := 192) (by decide +kernel) rfl
theorem kw_1290 : (Cond.instanceMethod ⟨"BackVillage$VillageReader", "readLimit", "(IZ)Z"⟩) ∈ GW := gw_5 (i := 194) (by decide +kernel) rfl
theorem kw_1291 : (Cond.code ⟨"BackVillage$VillageReader", "readLimit", "(IZ)Z"⟩ prog_11_method_7_code 5 (some .boolean)) ∈ GW := gw_5 (i := 195) (by decide +kernel) rfl
theorem kw_1292 : (Cond.methodLink "BackVillage$VillageReader" 91 ⟨"BackVillage$VillageReader", "take", "(I)Z"⟩) ∈ GW := gw_5 (i := 196) (by decide +kernel) rfl
theorem kw_1293 : (Cond.sameMethod "BackVillage$VillageReader" "BackVillage$TextReader" "take" "(I)Z") ∈ GW := gw_5 (i := 197) (by decide +kernel) rfl
theorem kw_1294 : (Cond.selects "BackVillage$VillageReader" ⟨"BackVillage$VillageReader", "take", "(I)Z"⟩ ⟨"BackVillage$TextReader", "take", "(I)Z"⟩) ∈ GW := gw_5 (i := 198) (by decide +kernel) rfl
theorem kw_1295 : (Cond.methodLink "BackVillage$VillageReader" 94 ⟨"BackVillage$Mind", "sayWhetherMany", "(LBackVillage$State;IIZ)V"⟩) ∈ GW := gw_5 (i := 199) (by decide +kernel) rfl
theorem kw_1296 : (Cond.instanceMethod ⟨"BackVillage$Mind", "sayWhetherMany", "(LBackVillage$State;IIZ)V"⟩) ∈ GW := gw_5 (i := 200) (by decide +kernel) rfl
theorem kw_1297 : (Cond.selects "BackVillage$Mind" ⟨"BackVillage$Mind", "sayWhetherMany", "(LBackVillage$State;IIZ)V"⟩ ⟨"BackVillage$Mind", "sayWhetherMany", "(LBackVillage$State;IIZ)V"⟩) ∈ GW := gw_5 (i := 201) (by decide +kernel) rfl
theorem kw_1298 : (Cond.code ⟨"BackVillage$Mind", "sayWhetherMany", "(LBackVillage$State;IIZ)V"⟩ prog_6_method_18_code 7 none) ∈ GW := gw_5 (i := 202) (by decide +kernel) rfl
theorem kw_1299 : (Cond.methodLink "BackVillage$Mind" 117 ⟨"BackVillage$State", "many", "(II)I"⟩) ∈ GW := gw_5 (i := 203) (by decide +kernel) rfl
theorem kw_1300 : (Cond.instanceMethod ⟨"BackVillage$State", "many", "(II)I"⟩) ∈ GW := gw_5 (i := 204) (by decide +kernel) rfl
theorem kw_1301 : (Cond.selects "BackVillage$State" ⟨"BackVillage$State", "many", "(II)I"⟩ ⟨"BackVillage$State", "many", "(II)I"⟩) ∈ GW := gw_5 (i := 205) (by decide +kernel) rfl
theorem kw_1302 : (Cond.code ⟨"BackVillage$State", "many", "(II)I"⟩ prog_8_method_10_code 5 (some .int)) ∈ GW := gw_5 (i := 206) (by decide +kernel) rfl
theorem kw_1303 : (Cond.methodLink "BackVillage$State" 88 ⟨"BackVillage$State", "figure", "(II)I"⟩) ∈ GW := gw_5 (i := 207) (by decide +kernel) rfl
theorem kw_1304 : (Cond.methodLink "BackVillage$VillageReader" 98 ⟨"BackVillage$VillageReader", "tellAll", "(I)Z"⟩) ∈ GW := gw_5 (i := 208) (by decide +kernel) rfl
theorem kw_1306 : (Cond.instanceMethod ⟨"BackVillage$VillageReader", "tellAll", "(I)Z"⟩) ∈ GW := gw_5 (i := 210) (by decide +kernel) rfl
theorem kw_1307 : (Cond.code ⟨"BackVillage$VillageReader", "tellAll", "(I)Z"⟩ prog_11_method_10_code 2 (some .boolean)) ∈ GW := gw_5 (i := 211) (by decide +kernel) rfl
theorem kw_1308 : (Cond.methodLink "BackVillage$VillageReader" 107 ⟨"BackVillage$Mind", "saidIn", "(I)I"⟩) ∈ GW := gw_5 (i := 212) (by decide +kernel) rfl
theorem kw_1309 : (Cond.methodLink "BackVillage$VillageReader" 115 ⟨"BackVillage$Mind", "heed", "(LBackVillage$State;LBackVillage$Cells;)Z"⟩) ∈ GW := gw_5 (i := 213) (by decide +kernel) rfl
theorem kw_1310 : (Cond.methodLink "BackVillage$VillageReader" 47 ⟨"BackVillage$VillageReader", "readMatch", "(IZ)Z"⟩) ∈ GW := gw_5 (i := 214) (by decide +kernel) rfl
theorem kw_1312 : (Cond.instanceMethod ⟨"BackVillage$VillageReader", "readMatch", "(IZ)Z"⟩) ∈ GW := gw_5 (i := 216) (by decide +kernel) rfl
theorem kw_1313 : (Cond.code ⟨"BackVillage$VillageReader", "readMatch", "(IZ)Z"⟩ prog_11_method_8_code 3 (some .boolean)) ∈ GW := gw_5 (i := 217) (by decide +kernel) rfl
theorem kw_1314 : (Cond.methodLink "BackVillage$VillageReader" 101 ⟨"BackVillage$Mind", "sayWhetherAlike", "(LBackVillage$State;IIZ)V"⟩) ∈ GW := gw_5 (i := 218) (by decide +kernel) rfl
theorem kw_1315 : (Cond.instanceMethod ⟨"BackVillage$Mind", "sayWhetherAlike", "(LBackVillage$State;IIZ)V"⟩) ∈ GW := gw_5 (i := 219) (by decide +kernel) rfl
theorem kw_1316 : (Cond.selects "BackVillage$Mind" ⟨"BackVillage$Mind", "sayWhetherAlike", "(LBackVillage$State;IIZ)V"⟩ ⟨"BackVillage$Mind", "sayWhetherAlike", "(LBackVillage$State;IIZ)V"⟩) ∈ GW := gw_5 (i := 220) (by decide +kernel) rfl
theorem kw_1317 : (Cond.code ⟨"BackVillage$Mind", "sayWhetherAlike", "(LBackVillage$State;IIZ)V"⟩ prog_6_method_19_code 6 none) ∈ GW := gw_5 (i := 221) (by decide +kernel) rfl
theorem kw_1318 : (Cond.methodLink "BackVillage$TextReader" 34 ⟨"BackVillage$TextReader", "take", "(I)Z"⟩) ∈ GW := gw_5 (i := 222) (by decide +kernel) rfl
theorem kw_1319 : (Cond.methodLink "BackVillage" 104 ⟨"BackVillage$VillageReader", "wrong", "()I"⟩) ∈ GW := gw_5 (i := 223) (by decide +kernel) rfl
theorem kw_1320 : (Cond.sameMethod "BackVillage$VillageReader" "BackVillage$TextReader" "wrong" "()I") ∈ GW := gw_5 (i := 224) (by decide +kernel) rfl
theorem kw_1322 : (Cond.selects "BackVillage$VillageReader" ⟨"BackVillage$VillageReader", "wrong", "()I"⟩ ⟨"BackVillage$TextReader", "wrong", "()I"⟩) ∈ GW := gw_5 (i := 226) (by decide +kernel) rfl
theorem kw_1323 : (Cond.instanceMethod ⟨"BackVillage$TextReader", "wrong", "()I"⟩) ∈ GW := gw_5 (i := 227) (by decide +kernel) rfl
theorem kw_1324 : (Cond.code ⟨"BackVillage$TextReader", "wrong", "()I"⟩ prog_10_method_3_code 1 (some .int)) ∈ GW := gw_5 (i := 228) (by decide +kernel) rfl
theorem kw_1378 : (Cond.fieldLink "BackVillage$Law" 7 "BackVillage$Law" "code" "[I") ∈ GW := gw_6 (i := 42) (by decide +kernel) rfl
theorem kw_1379 : (Cond.fieldLink "BackVillage$Law" 13 "BackVillage$Law" "lines" "I") ∈ GW := gw_6 (i := 43) (by decide +kernel) rfl
theorem kw_1380 : (Cond.laysFinal "BackVillage$Law" "BackVillage$Law" "code" "[I") ∈ GW := gw_6 (i := 44) (by decide +kernel) rfl
theorem kw_1382 : (Cond.laysFinal "BackVillage$Law" "BackVillage$Law" "lines" "I") ∈ GW := gw_6 (i := 46) (by decide +kernel) rfl
theorem kw_1394 : (Cond.methodLink "BackVillage" 141 ⟨"BackVillage", "needPerson", "(I)V"⟩) ∈ GW := gw_6 (i := 58) (by decide +kernel) rfl
theorem kw_1396 : (Cond.instanceMethod ⟨"BackVillage", "needPerson", "(I)V"⟩) ∈ GW := gw_6 (i := 60) (by decide +kernel) rfl
theorem kw_1397 : (Cond.code ⟨"BackVillage", "needPerson", "(I)V"⟩ prog_1_method_51_code 2 none) ∈ GW := gw_6 (i := 61) (by decide +kernel) rfl
theorem kw_1398 : (Cond.methodLink "BackVillage" 402 ⟨"BackVillage$State", "hasPerson", "(I)Z"⟩) ∈ GW := gw_6 (i := 62) (by decide +kernel) rfl
theorem kw_1399 : (Cond.instanceMethod ⟨"BackVillage$State", "hasPerson", "(I)Z"⟩) ∈ GW := gw_6 (i := 63) (by decide +kernel) rfl
theorem kw_1400 : (Cond.selects "BackVillage$State" ⟨"BackVillage$State", "hasPerson", "(I)Z"⟩ ⟨"BackVillage$State", "hasPerson", "(I)Z"⟩) ∈ GW := gw_6 (i := 64) (by decide +kernel) rfl
theorem kw_1401 : (Cond.code ⟨"BackVillage$State", "hasPerson", "(I)Z"⟩ prog_8_method_3_code 2 (some .boolean)) ∈ GW := gw_6 (i := 65) (by decide +kernel) rfl
theorem kw_1415 : (Cond.methodLink "BackVillage" 147 ⟨"BackVillage$State", "figure", "(II)I"⟩) ∈ GW := gw_6 (i := 79) (by decide +kernel) rfl
theorem kw_1416 : (Cond.methodLink "BackVillage" 155 ⟨"BackVillage$Cells", "at", "(I)I"⟩) ∈ GW := gw_6 (i := 80) (by decide +kernel) rfl
theorem kw_1417 : (Cond.methodLink "BackVillage" 160 ⟨"BackVillage$State", "seers", "(I)I"⟩) ∈ GW := gw_6 (i := 81) (by decide +kernel) rfl
theorem kw_1418 : (Cond.instanceMethod ⟨"BackVillage$State", "seers", "(I)I"⟩) ∈ GW := gw_6 (i := 82) (by decide +kernel) rfl
theorem kw_1419 : (Cond.selects "BackVillage$State" ⟨"BackVillage$State", "seers", "(I)I"⟩ ⟨"BackVillage$State", "seers", "(I)I"⟩) ∈ GW := gw_6 (i := 83) (by decide +kernel) rfl
theorem kw_1420 : (Cond.code ⟨"BackVillage$State", "seers", "(I)I"⟩ prog_8_method_8_code 4 (some .int)) ∈ GW := gw_6 (i := 84) (by decide +kernel) rfl
theorem kw_1421 : (Cond.methodLink "BackVillage$State" 84 ⟨"BackVillage$State", "hasSight", "(II)Z"⟩) ∈ GW := gw_6 (i := 85) (by decide +kernel) rfl
theorem kw_1422 : (Cond.instanceMethod ⟨"BackVillage$State", "hasSight", "(II)Z"⟩) ∈ GW := gw_6 (i := 86) (by decide +kernel) rfl
theorem kw_1423 : (Cond.selects "BackVillage$State" ⟨"BackVillage$State", "hasSight", "(II)Z"⟩ ⟨"BackVillage$State", "hasSight", "(II)Z"⟩) ∈ GW := gw_6 (i := 87) (by decide +kernel) rfl
theorem kw_1424 : (Cond.code ⟨"BackVillage$State", "hasSight", "(II)Z"⟩ prog_8_method_6_code 3 (some .boolean)) ∈ GW := gw_6 (i := 88) (by decide +kernel) rfl
theorem kw_1425 : (Cond.methodLink "BackVillage$State" 76 ⟨"BackVillage$State", "hasPerson", "(I)Z"⟩) ∈ GW := gw_6 (i := 89) (by decide +kernel) rfl
theorem kw_1426 : (Cond.methodLink "BackVillage" 166 ⟨"BackVillage$Mind", "isSure", "(LBackVillage$State;LBackVillage$Cells;II)Z"⟩) ∈ GW := gw_6 (i := 90) (by decide +kernel) rfl
theorem kw_1427 : (Cond.methodLink "BackVillage" 174 ⟨"BackVillage$Mind", "knownBits", "(LBackVillage$State;I)I"⟩) ∈ GW := gw_6 (i := 91) (by decide +kernel) rfl
theorem kw_1428 : (Cond.instanceMethod ⟨"BackVillage$Mind", "knownBits", "(LBackVillage$State;I)I"⟩) ∈ GW := gw_6 (i := 92) (by decide +kernel) rfl
theorem kw_1429 : (Cond.selects "BackVillage$Mind" ⟨"BackVillage$Mind", "knownBits", "(LBackVillage$State;I)I"⟩ ⟨"BackVillage$Mind", "knownBits", "(LBackVillage$State;I)I"⟩) ∈ GW := gw_6 (i := 93) (by decide +kernel) rfl
theorem kw_1430 : (Cond.code ⟨"BackVillage$Mind", "knownBits", "(LBackVillage$State;I)I"⟩ prog_6_method_6_code 5 (some .int)) ∈ GW := gw_6 (i := 94) (by decide +kernel) rfl
theorem kw_1454 : (Cond.methodLink "BackVillage" 182 ⟨"BackVillage", "needWorld", "(I)V"⟩) ∈ GW := gw_6 (i := 118) (by decide +kernel) rfl
theorem kw_1456 : (Cond.instanceMethod ⟨"BackVillage", "needWorld", "(I)V"⟩) ∈ GW := gw_6 (i := 120) (by decide +kernel) rfl
theorem kw_1457 : (Cond.code ⟨"BackVillage", "needWorld", "(I)V"⟩ prog_1_method_54_code 2 none) ∈ GW := gw_6 (i := 121) (by decide +kernel) rfl
theorem kw_1458 : (Cond.methodLink "BackVillage" 415 ⟨"BackVillage$State", "hasWorld", "(I)Z"⟩) ∈ GW := gw_6 (i := 122) (by decide +kernel) rfl
theorem kw_1459 : (Cond.instanceMethod ⟨"BackVillage$State", "hasWorld", "(I)Z"⟩) ∈ GW := gw_6 (i := 123) (by decide +kernel) rfl
theorem kw_1460 : (Cond.selects "BackVillage$State" ⟨"BackVillage$State", "hasWorld", "(I)Z"⟩ ⟨"BackVillage$State", "hasWorld", "(I)Z"⟩) ∈ GW := gw_6 (i := 124) (by decide +kernel) rfl
theorem kw_1461 : (Cond.code ⟨"BackVillage$State", "hasWorld", "(I)Z"⟩ prog_8_method_5_code 2 (some .boolean)) ∈ GW := gw_6 (i := 125) (by decide +kernel) rfl
theorem kw_1463 : (Cond.methodLink "BackVillage" 185 ⟨"BackVillage$State", "stands", "(I)Z"⟩) ∈ GW := gw_6 (i := 127) (by decide +kernel) rfl
theorem kw_1472 : (Cond.methodLink "BackVillage" 188 ⟨"BackVillage", "needLeft", "(I)V"⟩) ∈ GW := gw_6 (i := 136) (by decide +kernel) rfl
theorem kw_1474 : (Cond.instanceMethod ⟨"BackVillage", "needLeft", "(I)V"⟩) ∈ GW := gw_6 (i := 138) (by decide +kernel) rfl
theorem kw_1475 : (Cond.code ⟨"BackVillage", "needLeft", "(I)V"⟩ prog_1_method_55_code 2 none) ∈ GW := gw_6 (i := 139) (by decide +kernel) rfl
theorem kw_1492 : (Cond.methodLink "BackVillage" 191 ⟨"BackVillage$State", "group", "(II)I"⟩) ∈ GW := gw_6 (i := 156) (by decide +kernel) rfl
theorem kw_1507 : (Cond.methodLink "BackVillage" 194 ⟨"BackVillage", "needTwo", "(II)V"⟩) ∈ GW := gw_6 (i := 171) (by decide +kernel) rfl
theorem kw_1509 : (Cond.instanceMethod ⟨"BackVillage", "needTwo", "(II)V"⟩) ∈ GW := gw_6 (i := 173) (by decide +kernel) rfl
theorem kw_1510 : (Cond.code ⟨"BackVillage", "needTwo", "(II)V"⟩ prog_1_method_56_code 3 none) ∈ GW := gw_6 (i := 174) (by decide +kernel) rfl
theorem kw_1512 : (Cond.methodLink "BackVillage" 198 ⟨"BackVillage", "needSight", "(II)V"⟩) ∈ GW := gw_6 (i := 176) (by decide +kernel) rfl
theorem kw_1514 : (Cond.instanceMethod ⟨"BackVillage", "needSight", "(II)V"⟩) ∈ GW := gw_6 (i := 178) (by decide +kernel) rfl
theorem kw_1515 : (Cond.code ⟨"BackVillage", "needSight", "(II)V"⟩ prog_1_method_57_code 3 none) ∈ GW := gw_6 (i := 179) (by decide +kernel) rfl
theorem kw_1516 : (Cond.methodLink "BackVillage" 424 ⟨"BackVillage$State", "hasSight", "(II)Z"⟩) ∈ GW := gw_6 (i := 180) (by decide +kernel) rfl
theorem kw_1518 : (Cond.methodLink "BackVillage" 201 ⟨"BackVillage$Mind", "meet", "(LBackVillage$State;II)V"⟩) ∈ GW := gw_6 (i := 182) (by decide +kernel) rfl
theorem kw_1519 : (Cond.instanceMethod ⟨"BackVillage$Mind", "meet", "(LBackVillage$State;II)V"⟩) ∈ GW := gw_6 (i := 183) (by decide +kernel) rfl
theorem kw_1520 : (Cond.selects "BackVillage$Mind" ⟨"BackVillage$Mind", "meet", "(LBackVillage$State;II)V"⟩ ⟨"BackVillage$Mind", "meet", "(LBackVillage$State;II)V"⟩) ∈ GW := gw_6 (i := 184) (by decide +kernel) rfl
theorem kw_1521 : (Cond.code ⟨"BackVillage$Mind", "meet", "(LBackVillage$State;II)V"⟩ prog_6_method_28_code 6 none) ∈ GW := gw_6 (i := 185) (by decide +kernel) rfl
theorem kw_1522 : (Cond.methodLink "BackVillage$Mind" 151 ⟨"BackVillage$State", "hasSight", "(II)Z"⟩) ∈ GW := gw_6 (i := 186) (by decide +kernel) rfl
theorem kw_1523 : (Cond.methodLink "BackVillage$Mind" 159 ⟨"BackVillage$Law", "total", "(LBackVillage$Cells;LBackVillage$Cells;)I"⟩) ∈ GW := gw_6 (i := 187) (by decide +kernel) rfl
theorem kw_1524 : (Cond.instanceMethod ⟨"BackVillage$Law", "total", "(LBackVillage$Cells;LBackVillage$Cells;)I"⟩) ∈ GW := gw_6 (i := 188) (by decide +kernel) rfl
theorem kw_1525 : (Cond.selects "BackVillage$Law" ⟨"BackVillage$Law", "total", "(LBackVillage$Cells;LBackVillage$Cells;)I"⟩ ⟨"BackVillage$Law", "total", "(LBackVillage$Cells;LBackVillage$Cells;)I"⟩) ∈ GW := gw_6 (i := 189) (by decide +kernel) rfl
theorem kw_1526 : (Cond.code ⟨"BackVillage$Law", "total", "(LBackVillage$Cells;LBackVillage$Cells;)I"⟩ prog_4_method_3_code 9 (some .int)) ∈ GW := gw_6 (i := 190) (by decide +kernel) rfl
theorem kw_1527 : (Cond.methodLink "BackVillage$Law" 17 ⟨"BackVillage$Cells", "put", "(II)V"⟩) ∈ GW := gw_6 (i := 191) (by decide +kernel) rfl
theorem kw_1528 : (Cond.methodLink "BackVillage$Law" 23 ⟨"BackVillage$Cells", "at", "(I)I"⟩) ∈ GW := gw_6 (i := 192) (by decide +kernel) rfl
theorem kw_1529 : (Cond.methodLink "BackVillage$Law" 27 ⟨"BackVillage$Law", "joined", "(III)I"⟩) ∈ GW := gw_6 (i := 193) (by decide +kernel) rfl
theorem kw_1530 : (Cond.static ⟨"BackVillage$Law", "joined", "(III)I"⟩) ∈ GW := gw_6 (i := 194) (by decide +kernel) rfl
theorem kw_1531 : (Cond.code ⟨"BackVillage$Law", "joined", "(III)I"⟩ prog_4_method_4_code 3 (some .int)) ∈ GW := gw_6 (i := 195) (by decide +kernel) rfl
theorem kw_1532 : (Cond.methodLink "BackVillage$Mind" 163 ⟨"BackVillage$Mind", "firstLike", "(I)I"⟩) ∈ GW := gw_6 (i := 196) (by decide +kernel) rfl
theorem kw_1534 : (Cond.instanceMethod ⟨"BackVillage$Mind", "firstLike", "(I)I"⟩) ∈ GW := gw_6 (i := 198) (by decide +kernel) rfl
theorem kw_1535 : (Cond.code ⟨"BackVillage$Mind", "firstLike", "(I)I"⟩ prog_6_method_29_code 3 (some .int)) ∈ GW := gw_6 (i := 199) (by decide +kernel) rfl
theorem kw_1536 : (Cond.methodLink "BackVillage" 205 ⟨"BackVillage$Mind", "mannerIn", "(I)I"⟩) ∈ GW := gw_6 (i := 200) (by decide +kernel) rfl
theorem kw_1537 : (Cond.instanceMethod ⟨"BackVillage$Mind", "mannerIn", "(I)I"⟩) ∈ GW := gw_6 (i := 201) (by decide +kernel) rfl
theorem kw_1538 : (Cond.selects "BackVillage$Mind" ⟨"BackVillage$Mind", "mannerIn", "(I)I"⟩ ⟨"BackVillage$Mind", "mannerIn", "(I)I"⟩) ∈ GW := gw_6 (i := 202) (by decide +kernel) rfl
theorem kw_1539 : (Cond.code ⟨"BackVillage$Mind", "mannerIn", "(I)I"⟩ prog_6_method_30_code 2 (some .int)) ∈ GW := gw_6 (i := 203) (by decide +kernel) rfl
theorem kw_1547 : (Cond.methodLink "BackVillage" 211 ⟨"BackVillage$Acts", "treatOne", "(LBackVillage$State;IIZ)I"⟩) ∈ GW := gw_6 (i := 211) (by decide +kernel) rfl
theorem kw_1548 : (Cond.instanceMethod ⟨"BackVillage$Acts", "treatOne", "(LBackVillage$State;IIZ)I"⟩) ∈ GW := gw_6 (i := 212) (by decide +kernel) rfl
theorem kw_1549 : (Cond.selects "BackVillage$Acts" ⟨"BackVillage$Acts", "treatOne", "(LBackVillage$State;IIZ)I"⟩ ⟨"BackVillage$Acts", "treatOne", "(LBackVillage$State;IIZ)I"⟩) ∈ GW := gw_6 (i := 213) (by decide +kernel) rfl
theorem kw_1550 : (Cond.code ⟨"BackVillage$Acts", "treatOne", "(LBackVillage$State;IIZ)I"⟩ prog_2_method_2_code 7 (some .int)) ∈ GW := gw_6 (i := 214) (by decide +kernel) rfl
theorem kw_1551 : (Cond.methodLink "BackVillage$Acts" 15 ⟨"BackVillage$Mind", "meet", "(LBackVillage$State;II)V"⟩) ∈ GW := gw_6 (i := 215) (by decide +kernel) rfl
theorem kw_1552 : (Cond.methodLink "BackVillage$Acts" 27 ⟨"BackVillage$Mind", "mannerIn", "(I)I"⟩) ∈ GW := gw_6 (i := 216) (by decide +kernel) rfl
theorem kw_1553 : (Cond.methodLink "BackVillage$Acts" 34 ⟨"BackVillage$Mind", "split", "(LBackVillage$State;I)V"⟩) ∈ GW := gw_6 (i := 217) (by decide +kernel) rfl
theorem kw_1561 : (Cond.methodLink "BackVillage" 215 ⟨"BackVillage$Acts", "turnTo", "(LBackVillage$State;II)I"⟩) ∈ GW := gw_6 (i := 225) (by decide +kernel) rfl
theorem kw_1562 : (Cond.instanceMethod ⟨"BackVillage$Acts", "turnTo", "(LBackVillage$State;II)I"⟩) ∈ GW := gw_6 (i := 226) (by decide +kernel) rfl
theorem kw_1563 : (Cond.selects "BackVillage$Acts" ⟨"BackVillage$Acts", "turnTo", "(LBackVillage$State;II)I"⟩ ⟨"BackVillage$Acts", "turnTo", "(LBackVillage$State;II)I"⟩) ∈ GW := gw_6 (i := 227) (by decide +kernel) rfl
theorem kw_1564 : (Cond.code ⟨"BackVillage$Acts", "turnTo", "(LBackVillage$State;II)I"⟩ prog_2_method_3_code 5 (some .int)) ∈ GW := gw_6 (i := 228) (by decide +kernel) rfl
theorem kw_1565 : (Cond.methodLink "BackVillage$Acts" 50 ⟨"BackVillage$Mind", "look", "(LBackVillage$State;II)V"⟩) ∈ GW := gw_6 (i := 229) (by decide +kernel) rfl
theorem kw_1566 : (Cond.methodLink "BackVillage$Acts" 53 ⟨"BackVillage$State", "figure", "(II)I"⟩) ∈ GW := gw_6 (i := 230) (by decide +kernel) rfl
theorem kw_1574 : (Cond.methodLink "BackVillage" 219 ⟨"BackVillage$Acts", "askOne", "(LBackVillage$State;I)Z"⟩) ∈ GW := gw_6 (i := 238) (by decide +kernel) rfl
theorem kw_1575 : (Cond.instanceMethod ⟨"BackVillage$Acts", "askOne", "(LBackVillage$State;I)Z"⟩) ∈ GW := gw_6 (i := 239) (by decide +kernel) rfl
theorem kw_1576 : (Cond.selects "BackVillage$Acts" ⟨"BackVillage$Acts", "askOne", "(LBackVillage$State;I)Z"⟩ ⟨"BackVillage$Acts", "askOne", "(LBackVillage$State;I)Z"⟩) ∈ GW := gw_7 (i := 0) (by decide +kernel) rfl
theorem kw_1577 : (Cond.code ⟨"BackVillage$Acts", "askOne", "(LBackVillage$State;I)Z"⟩ prog_2_method_4_code 4 (some .boolean)) ∈ GW := gw_7 (i := 1) (by decide +kernel) rfl
theorem kw_1578 : (Cond.methodLink "BackVillage$Acts" 57 ⟨"BackVillage$Mind", "sayWhetherSure", "(LBackVillage$State;I)V"⟩) ∈ GW := gw_7 (i := 2) (by decide +kernel) rfl
theorem kw_1579 : (Cond.instanceMethod ⟨"BackVillage$Mind", "sayWhetherSure", "(LBackVillage$State;I)V"⟩) ∈ GW := gw_7 (i := 3) (by decide +kernel) rfl
theorem kw_1580 : (Cond.selects "BackVillage$Mind" ⟨"BackVillage$Mind", "sayWhetherSure", "(LBackVillage$State;I)V"⟩ ⟨"BackVillage$Mind", "sayWhetherSure", "(LBackVillage$State;I)V"⟩) ∈ GW := gw_7 (i := 4) (by decide +kernel) rfl
theorem kw_1581 : (Cond.code ⟨"BackVillage$Mind", "sayWhetherSure", "(LBackVillage$State;I)V"⟩ prog_6_method_20_code 4 none) ∈ GW := gw_7 (i := 5) (by decide +kernel) rfl
theorem kw_1589 : (Cond.methodLink "BackVillage" 227 ⟨"BackVillage$Acts", "readOut", "(LBackVillage$State;I)I"⟩) ∈ GW := gw_7 (i := 13) (by decide +kernel) rfl
theorem kw_1590 : (Cond.instanceMethod ⟨"BackVillage$Acts", "readOut", "(LBackVillage$State;I)I"⟩) ∈ GW := gw_7 (i := 14) (by decide +kernel) rfl
theorem kw_1591 : (Cond.selects "BackVillage$Acts" ⟨"BackVillage$Acts", "readOut", "(LBackVillage$State;I)I"⟩ ⟨"BackVillage$Acts", "readOut", "(LBackVillage$State;I)I"⟩) ∈ GW := gw_7 (i := 15) (by decide +kernel) rfl
theorem kw_1592 : (Cond.code ⟨"BackVillage$Acts", "readOut", "(LBackVillage$State;I)I"⟩ prog_2_method_6_code 4 (some .int)) ∈ GW := gw_7 (i := 16) (by decide +kernel) rfl
theorem kw_1593 : (Cond.methodLink "BackVillage$Acts" 71 ⟨"BackVillage$Mind", "sayNotice", "(LBackVillage$State;I)V"⟩) ∈ GW := gw_7 (i := 17) (by decide +kernel) rfl
theorem kw_1601 : (Cond.methodLink "BackVillage" 230 ⟨"BackVillage", "needNotice", "(I)V"⟩) ∈ GW := gw_7 (i := 25) (by decide +kernel) rfl
theorem kw_1603 : (Cond.instanceMethod ⟨"BackVillage", "needNotice", "(I)V"⟩) ∈ GW := gw_7 (i := 27) (by decide +kernel) rfl
theorem kw_1604 : (Cond.code ⟨"BackVillage", "needNotice", "(I)V"⟩ prog_1_method_53_code 2 none) ∈ GW := gw_7 (i := 28) (by decide +kernel) rfl
theorem kw_1605 : (Cond.methodLink "BackVillage" 410 ⟨"BackVillage$State", "hasNotice", "(I)Z"⟩) ∈ GW := gw_7 (i := 29) (by decide +kernel) rfl
theorem kw_1606 : (Cond.instanceMethod ⟨"BackVillage$State", "hasNotice", "(I)Z"⟩) ∈ GW := gw_7 (i := 30) (by decide +kernel) rfl
theorem kw_1607 : (Cond.selects "BackVillage$State" ⟨"BackVillage$State", "hasNotice", "(I)Z"⟩ ⟨"BackVillage$State", "hasNotice", "(I)Z"⟩) ∈ GW := gw_7 (i := 31) (by decide +kernel) rfl
theorem kw_1608 : (Cond.code ⟨"BackVillage$State", "hasNotice", "(I)Z"⟩ prog_8_method_4_code 2 (some .boolean)) ∈ GW := gw_7 (i := 32) (by decide +kernel) rfl
theorem kw_1610 : (Cond.methodLink "BackVillage" 233 ⟨"BackVillage", "needNumber", "(III)V"⟩) ∈ GW := gw_7 (i := 34) (by decide +kernel) rfl
theorem kw_1612 : (Cond.instanceMethod ⟨"BackVillage", "needNumber", "(III)V"⟩) ∈ GW := gw_7 (i := 36) (by decide +kernel) rfl
theorem kw_1613 : (Cond.code ⟨"BackVillage", "needNumber", "(III)V"⟩ prog_1_method_58_code 4 none) ∈ GW := gw_7 (i := 37) (by decide +kernel) rfl
theorem kw_1615 : (Cond.methodLink "BackVillage" 237 ⟨"BackVillage$State", "many", "(II)I"⟩) ∈ GW := gw_7 (i := 39) (by decide +kernel) rfl
theorem kw_1617 : (Cond.methodLink "BackVillage" 245 ⟨"BackVillage$Acts", "claimMany", "(LBackVillage$State;II)I"⟩) ∈ GW := gw_7 (i := 41) (by decide +kernel) rfl
theorem kw_1618 : (Cond.instanceMethod ⟨"BackVillage$Acts", "claimMany", "(LBackVillage$State;II)I"⟩) ∈ GW := gw_7 (i := 42) (by decide +kernel) rfl
theorem kw_1619 : (Cond.selects "BackVillage$Acts" ⟨"BackVillage$Acts", "claimMany", "(LBackVillage$State;II)I"⟩ ⟨"BackVillage$Acts", "claimMany", "(LBackVillage$State;II)I"⟩) ∈ GW := gw_7 (i := 43) (by decide +kernel) rfl
theorem kw_1620 : (Cond.code ⟨"BackVillage$Acts", "claimMany", "(LBackVillage$State;II)I"⟩ prog_2_method_7_code 4 (some .int)) ∈ GW := gw_7 (i := 44) (by decide +kernel) rfl
theorem kw_1621 : (Cond.methodLink "BackVillage$Acts" 74 ⟨"BackVillage$Mind", "sayWhetherMany", "(LBackVillage$State;IIZ)V"⟩) ∈ GW := gw_7 (i := 45) (by decide +kernel) rfl
theorem kw_1622 : (Cond.methodLink "BackVillage$Acts" 78 ⟨"BackVillage$State", "many", "(II)I"⟩) ∈ GW := gw_7 (i := 46) (by decide +kernel) rfl
theorem kw_1630 : (Cond.methodLink "BackVillage" 248 ⟨"BackVillage$Acts", "queryOne", "(LBackVillage$State;III)I"⟩) ∈ GW := gw_7 (i := 54) (by decide +kernel) rfl
theorem kw_1631 : (Cond.instanceMethod ⟨"BackVillage$Acts", "queryOne", "(LBackVillage$State;III)I"⟩) ∈ GW := gw_7 (i := 55) (by decide +kernel) rfl
theorem kw_1632 : (Cond.selects "BackVillage$Acts" ⟨"BackVillage$Acts", "queryOne", "(LBackVillage$State;III)I"⟩ ⟨"BackVillage$Acts", "queryOne", "(LBackVillage$State;III)I"⟩) ∈ GW := gw_7 (i := 56) (by decide +kernel) rfl
theorem kw_1633 : (Cond.code ⟨"BackVillage$Acts", "queryOne", "(LBackVillage$State;III)I"⟩ prog_2_method_8_code 6 (some .int)) ∈ GW := gw_7 (i := 57) (by decide +kernel) rfl
theorem kw_1634 : (Cond.methodLink "BackVillage$Acts" 81 ⟨"BackVillage$Mind", "sayAnswer", "(LBackVillage$State;LBackVillage$Cells;III)V"⟩) ∈ GW := gw_7 (i := 58) (by decide +kernel) rfl
theorem kw_1635 : (Cond.instanceMethod ⟨"BackVillage$Mind", "sayAnswer", "(LBackVillage$State;LBackVillage$Cells;III)V"⟩) ∈ GW := gw_7 (i := 59) (by decide +kernel) rfl
theorem kw_1636 : (Cond.selects "BackVillage$Mind" ⟨"BackVillage$Mind", "sayAnswer", "(LBackVillage$State;LBackVillage$Cells;III)V"⟩ ⟨"BackVillage$Mind", "sayAnswer", "(LBackVillage$State;LBackVillage$Cells;III)V"⟩) ∈ GW := gw_7 (i := 60) (by decide +kernel) rfl
theorem kw_1637 : (Cond.code ⟨"BackVillage$Mind", "sayAnswer", "(LBackVillage$State;LBackVillage$Cells;III)V"⟩ prog_6_method_22_code 9 none) ∈ GW := gw_7 (i := 61) (by decide +kernel) rfl
theorem kw_1645 : (Cond.methodLink "BackVillage" 252 ⟨"BackVillage$Acts", "strollBy", "(LBackVillage$State;I)I"⟩) ∈ GW := gw_7 (i := 69) (by decide +kernel) rfl
theorem kw_1646 : (Cond.instanceMethod ⟨"BackVillage$Acts", "strollBy", "(LBackVillage$State;I)I"⟩) ∈ GW := gw_7 (i := 70) (by decide +kernel) rfl
theorem kw_1647 : (Cond.selects "BackVillage$Acts" ⟨"BackVillage$Acts", "strollBy", "(LBackVillage$State;I)I"⟩ ⟨"BackVillage$Acts", "strollBy", "(LBackVillage$State;I)I"⟩) ∈ GW := gw_7 (i := 71) (by decide +kernel) rfl
theorem kw_1648 : (Cond.code ⟨"BackVillage$Acts", "strollBy", "(LBackVillage$State;I)I"⟩ prog_2_method_9_code 7 (some .int)) ∈ GW := gw_7 (i := 72) (by decide +kernel) rfl
theorem kw_1649 : (Cond.methodLink "BackVillage$Acts" 85 ⟨"BackVillage$State", "draw", "()I"⟩) ∈ GW := gw_7 (i := 73) (by decide +kernel) rfl
theorem kw_1650 : (Cond.instanceMethod ⟨"BackVillage$State", "draw", "()I"⟩) ∈ GW := gw_7 (i := 74) (by decide +kernel) rfl
theorem kw_1651 : (Cond.selects "BackVillage$State" ⟨"BackVillage$State", "draw", "()I"⟩ ⟨"BackVillage$State", "draw", "()I"⟩) ∈ GW := gw_7 (i := 75) (by decide +kernel) rfl
theorem kw_1652 : (Cond.code ⟨"BackVillage$State", "draw", "()I"⟩ prog_8_method_14_code 1 (some .int)) ∈ GW := gw_7 (i := 76) (by decide +kernel) rfl
theorem kw_1653 : (Cond.constant "BackVillage$State" 98 1103515245) ∈ GW := gw_7 (i := 77) (by decide +kernel) rfl
theorem kw_1654 : (Cond.methodLink "BackVillage$Acts" 89 ⟨"BackVillage$State", "hasSight", "(II)Z"⟩) ∈ GW := gw_7 (i := 78) (by decide +kernel) rfl
theorem kw_1655 : (Cond.methodLink "BackVillage$Acts" 93 ⟨"BackVillage$Acts", "treatOne", "(LBackVillage$State;IIZ)I"⟩) ∈ GW := gw_7 (i := 79) (by decide +kernel) rfl
theorem kw_1663 : (Cond.methodLink "BackVillage" 255 ⟨"BackVillage$Mind", "possibleBits", "(LBackVillage$State;LBackVillage$Cells;III)I"⟩) ∈ GW := gw_7 (i := 87) (by decide +kernel) rfl
theorem kw_1671 : (Cond.methodLink "BackVillage" 259 ⟨"BackVillage$Mind", "onlyOne", "(I)I"⟩) ∈ GW := gw_7 (i := 95) (by decide +kernel) rfl
theorem kw_1679 : (Cond.methodLink "BackVillage" 262 ⟨"BackVillage$Mind", "knowsThat", "(LBackVillage$State;III)Z"⟩) ∈ GW := gw_7 (i := 103) (by decide +kernel) rfl
theorem kw_1680 : (Cond.instanceMethod ⟨"BackVillage$Mind", "knowsThat", "(LBackVillage$State;III)Z"⟩) ∈ GW := gw_7 (i := 104) (by decide +kernel) rfl
theorem kw_1681 : (Cond.selects "BackVillage$Mind" ⟨"BackVillage$Mind", "knowsThat", "(LBackVillage$State;III)Z"⟩ ⟨"BackVillage$Mind", "knowsThat", "(LBackVillage$State;III)Z"⟩) ∈ GW := gw_7 (i := 105) (by decide +kernel) rfl
theorem kw_1682 : (Cond.code ⟨"BackVillage$Mind", "knowsThat", "(LBackVillage$State;III)Z"⟩ prog_6_method_12_code 6 (some .boolean)) ∈ GW := gw_7 (i := 106) (by decide +kernel) rfl
theorem kw_1690 : (Cond.methodLink "BackVillage" 266 ⟨"BackVillage$Mind", "knownByAll", "(LBackVillage$State;I)I"⟩) ∈ GW := gw_7 (i := 114) (by decide +kernel) rfl
theorem kw_1691 : (Cond.instanceMethod ⟨"BackVillage$Mind", "knownByAll", "(LBackVillage$State;I)I"⟩) ∈ GW := gw_7 (i := 115) (by decide +kernel) rfl
theorem kw_1692 : (Cond.selects "BackVillage$Mind" ⟨"BackVillage$Mind", "knownByAll", "(LBackVillage$State;I)I"⟩ ⟨"BackVillage$Mind", "knownByAll", "(LBackVillage$State;I)I"⟩) ∈ GW := gw_7 (i := 116) (by decide +kernel) rfl
theorem kw_1693 : (Cond.code ⟨"BackVillage$Mind", "knownByAll", "(LBackVillage$State;I)I"⟩ prog_6_method_15_code 6 (some .int)) ∈ GW := gw_7 (i := 117) (by decide +kernel) rfl
theorem kw_1694 : (Cond.methodLink "BackVillage$Mind" 113 ⟨"BackVillage$Mind", "spread", "(LBackVillage$State;I)Z"⟩) ∈ GW := gw_7 (i := 118) (by decide +kernel) rfl
theorem kw_1696 : (Cond.instanceMethod ⟨"BackVillage$Mind", "spread", "(LBackVillage$State;I)Z"⟩) ∈ GW := gw_7 (i := 120) (by decide +kernel) rfl
theorem kw_1697 : (Cond.code ⟨"BackVillage$Mind", "spread", "(LBackVillage$State;I)Z"⟩ prog_6_method_16_code 5 (some .boolean)) ∈ GW := gw_7 (i := 121) (by decide +kernel) rfl
theorem kw_1705 : (Cond.methodLink "BackVillage" 269 ⟨"BackVillage", "needPersonOrNone", "(I)V"⟩) ∈ GW := gw_7 (i := 129) (by decide +kernel) rfl
theorem kw_1707 : (Cond.instanceMethod ⟨"BackVillage", "needPersonOrNone", "(I)V"⟩) ∈ GW := gw_7 (i := 131) (by decide +kernel) rfl
theorem kw_1708 : (Cond.code ⟨"BackVillage", "needPersonOrNone", "(I)V"⟩ prog_1_method_52_code 2 none) ∈ GW := gw_7 (i := 132) (by decide +kernel) rfl
theorem kw_1709 : (Cond.methodLink "BackVillage" 272 ⟨"BackVillage$Mind", "daysUntilSure", "(LBackVillage$State;I)I"⟩) ∈ GW := gw_7 (i := 133) (by decide +kernel) rfl
theorem kw_1710 : (Cond.instanceMethod ⟨"BackVillage$Mind", "daysUntilSure", "(LBackVillage$State;I)I"⟩) ∈ GW := gw_7 (i := 134) (by decide +kernel) rfl
theorem kw_1711 : (Cond.selects "BackVillage$Mind" ⟨"BackVillage$Mind", "daysUntilSure", "(LBackVillage$State;I)I"⟩ ⟨"BackVillage$Mind", "daysUntilSure", "(LBackVillage$State;I)I"⟩) ∈ GW := gw_7 (i := 135) (by decide +kernel) rfl
theorem kw_1712 : (Cond.code ⟨"BackVillage$Mind", "daysUntilSure", "(LBackVillage$State;I)I"⟩ prog_6_method_26_code 5 (some .int)) ∈ GW := gw_7 (i := 136) (by decide +kernel) rfl
theorem kw_1713 : (Cond.methodLink "BackVillage$Mind" 120 ⟨"BackVillage$Cells", "become", "(LBackVillage$Cells;I)V"⟩) ∈ GW := gw_7 (i := 137) (by decide +kernel) rfl
theorem kw_1714 : (Cond.methodLink "BackVillage$Mind" 124 ⟨"BackVillage$Mind", "sureBits", "(LBackVillage$State;LBackVillage$Cells;)I"⟩) ∈ GW := gw_7 (i := 138) (by decide +kernel) rfl
theorem kw_1715 : (Cond.methodLink "BackVillage$Mind" 128 ⟨"BackVillage$Mind", "sayWhoIsSure", "(LBackVillage$State;LBackVillage$Cells;)V"⟩) ∈ GW := gw_7 (i := 139) (by decide +kernel) rfl
theorem kw_1716 : (Cond.methodLink "BackVillage$Mind" 132 ⟨"BackVillage$Mind", "heed", "(LBackVillage$State;LBackVillage$Cells;)Z"⟩) ∈ GW := gw_7 (i := 140) (by decide +kernel) rfl
theorem kw_1724 : (Cond.methodLink "BackVillage" 275 ⟨"BackVillage$Puzzles", "fewestBacks", "(LBackVillage$State;I)I"⟩) ∈ GW := gw_7 (i := 148) (by decide +kernel) rfl
theorem kw_1725 : (Cond.instanceMethod ⟨"BackVillage$Puzzles", "fewestBacks", "(LBackVillage$State;I)I"⟩) ∈ GW := gw_7 (i := 149) (by decide +kernel) rfl
theorem kw_1726 : (Cond.selects "BackVillage$Puzzles" ⟨"BackVillage$Puzzles", "fewestBacks", "(LBackVillage$State;I)I"⟩ ⟨"BackVillage$Puzzles", "fewestBacks", "(LBackVillage$State;I)I"⟩) ∈ GW := gw_7 (i := 150) (by decide +kernel) rfl
theorem kw_1727 : (Cond.code ⟨"BackVillage$Puzzles", "fewestBacks", "(LBackVillage$State;I)I"⟩ prog_7_method_2_code 6 (some .int)) ∈ GW := gw_7 (i := 151) (by decide +kernel) rfl
theorem kw_1728 : (Cond.methodLink "BackVillage$Puzzles" 38 ⟨"BackVillage$Puzzles", "gatherDoubts", "(LBackVillage$State;I)V"⟩) ∈ GW := gw_7 (i := 152) (by decide +kernel) rfl
theorem kw_1730 : (Cond.instanceMethod ⟨"BackVillage$Puzzles", "gatherDoubts", "(LBackVillage$State;I)V"⟩) ∈ GW := gw_7 (i := 154) (by decide +kernel) rfl
theorem kw_1731 : (Cond.code ⟨"BackVillage$Puzzles", "gatherDoubts", "(LBackVillage$State;I)V"⟩ prog_7_method_3_code 5 none) ∈ GW := gw_7 (i := 155) (by decide +kernel) rfl
theorem kw_1732 : (Cond.methodLink "BackVillage$Puzzles" 62 ⟨"BackVillage$State", "group", "(II)I"⟩) ∈ GW := gw_7 (i := 156) (by decide +kernel) rfl
theorem kw_1733 : (Cond.methodLink "BackVillage$Puzzles" 69 ⟨"BackVillage$State", "stands", "(I)Z"⟩) ∈ GW := gw_7 (i := 157) (by decide +kernel) rfl
theorem kw_1734 : (Cond.methodLink "BackVillage$Puzzles" 72 ⟨"BackVillage$State", "figure", "(II)I"⟩) ∈ GW := gw_7 (i := 158) (by decide +kernel) rfl
theorem kw_1735 : (Cond.methodLink "BackVillage$Puzzles" 75 ⟨"BackVillage$Puzzles", "unlikeBits", "(LBackVillage$State;I)I"⟩) ∈ GW := gw_7 (i := 159) (by decide +kernel) rfl
theorem kw_1737 : (Cond.instanceMethod ⟨"BackVillage$Puzzles", "unlikeBits", "(LBackVillage$State;I)I"⟩) ∈ GW := gw_7 (i := 161) (by decide +kernel) rfl
theorem kw_1738 : (Cond.code ⟨"BackVillage$Puzzles", "unlikeBits", "(LBackVillage$State;I)I"⟩ prog_7_method_4_code 5 (some .int)) ∈ GW := gw_7 (i := 162) (by decide +kernel) rfl
theorem kw_1739 : (Cond.methodLink "BackVillage$Puzzles" 79 ⟨"BackVillage$Cells", "put", "(II)V"⟩) ∈ GW := gw_7 (i := 163) (by decide +kernel) rfl
theorem kw_1740 : (Cond.methodLink "BackVillage$Puzzles" 46 ⟨"java/lang/Integer", "bitCount", "(I)I"⟩) ∈ GW := gw_7 (i := 164) (by decide +kernel) rfl
theorem kw_1741 : (Cond.methodLink "BackVillage$Puzzles" 52 ⟨"BackVillage$Puzzles", "settles", "(I)Z"⟩) ∈ GW := gw_7 (i := 165) (by decide +kernel) rfl
theorem kw_1743 : (Cond.instanceMethod ⟨"BackVillage$Puzzles", "settles", "(I)Z"⟩) ∈ GW := gw_7 (i := 167) (by decide +kernel) rfl
theorem kw_1744 : (Cond.code ⟨"BackVillage$Puzzles", "settles", "(I)Z"⟩ prog_7_method_5_code 3 (some .boolean)) ∈ GW := gw_7 (i := 168) (by decide +kernel) rfl
theorem kw_1745 : (Cond.methodLink "BackVillage$Puzzles" 83 ⟨"BackVillage$Cells", "at", "(I)I"⟩) ∈ GW := gw_7 (i := 169) (by decide +kernel) rfl
theorem kw_1753 : (Cond.methodLink "BackVillage" 278 ⟨"BackVillage$Mind", "whoGivesAway", "(LBackVillage$State;I)I"⟩) ∈ GW := gw_7 (i := 177) (by decide +kernel) rfl
theorem kw_1754 : (Cond.instanceMethod ⟨"BackVillage$Mind", "whoGivesAway", "(LBackVillage$State;I)I"⟩) ∈ GW := gw_7 (i := 178) (by decide +kernel) rfl
theorem kw_1755 : (Cond.selects "BackVillage$Mind" ⟨"BackVillage$Mind", "whoGivesAway", "(LBackVillage$State;I)I"⟩ ⟨"BackVillage$Mind", "whoGivesAway", "(LBackVillage$State;I)I"⟩) ∈ GW := gw_7 (i := 179) (by decide +kernel) rfl
theorem kw_1756 : (Cond.code ⟨"BackVillage$Mind", "whoGivesAway", "(LBackVillage$State;I)I"⟩ prog_6_method_33_code 5 (some .int)) ∈ GW := gw_7 (i := 180) (by decide +kernel) rfl
theorem kw_1757 : (Cond.methodLink "BackVillage$Mind" 175 ⟨"BackVillage$Mind", "weigh", "(LBackVillage$State;II)V"⟩) ∈ GW := gw_7 (i := 181) (by decide +kernel) rfl
theorem kw_1759 : (Cond.instanceMethod ⟨"BackVillage$Mind", "weigh", "(LBackVillage$State;II)V"⟩) ∈ GW := gw_7 (i := 183) (by decide +kernel) rfl
theorem kw_1760 : (Cond.code ⟨"BackVillage$Mind", "weigh", "(LBackVillage$State;II)V"⟩ prog_6_method_36_code 5 none) ∈ GW := gw_7 (i := 184) (by decide +kernel) rfl
theorem kw_1761 : (Cond.methodLink "BackVillage$Mind" 185 ⟨"BackVillage$Mind", "meet", "(LBackVillage$State;II)V"⟩) ∈ GW := gw_7 (i := 185) (by decide +kernel) rfl
theorem kw_1762 : (Cond.methodLink "BackVillage$Mind" 179 ⟨"BackVillage$Mind", "weighed", "(LBackVillage$State;II)I"⟩) ∈ GW := gw_7 (i := 186) (by decide +kernel) rfl
theorem kw_1764 : (Cond.instanceMethod ⟨"BackVillage$Mind", "weighed", "(LBackVillage$State;II)I"⟩) ∈ GW := gw_7 (i := 188) (by decide +kernel) rfl
theorem kw_1765 : (Cond.code ⟨"BackVillage$Mind", "weighed", "(LBackVillage$State;II)I"⟩ prog_6_method_37_code 4 (some .int)) ∈ GW := gw_7 (i := 189) (by decide +kernel) rfl
theorem kw_1773 : (Cond.methodLink "BackVillage" 281 ⟨"BackVillage$Mind", "whoNeverGivesAway", "(LBackVillage$State;I)I"⟩) ∈ GW := gw_7 (i := 197) (by decide +kernel) rfl
theorem kw_1774 : (Cond.instanceMethod ⟨"BackVillage$Mind", "whoNeverGivesAway", "(LBackVillage$State;I)I"⟩) ∈ GW := gw_7 (i := 198) (by decide +kernel) rfl
theorem kw_1775 : (Cond.selects "BackVillage$Mind" ⟨"BackVillage$Mind", "whoNeverGivesAway", "(LBackVillage$State;I)I"⟩ ⟨"BackVillage$Mind", "whoNeverGivesAway", "(LBackVillage$State;I)I"⟩) ∈ GW := gw_7 (i := 199) (by decide +kernel) rfl
theorem kw_1776 : (Cond.code ⟨"BackVillage$Mind", "whoNeverGivesAway", "(LBackVillage$State;I)I"⟩ prog_6_method_34_code 5 (some .int)) ∈ GW := gw_7 (i := 200) (by decide +kernel) rfl
theorem kw_1777 : (Cond.methodLink "BackVillage$Mind" 182 ⟨"BackVillage$Mind", "makesSureSomewhere", "(LBackVillage$State;I)Z"⟩) ∈ GW := gw_7 (i := 201) (by decide +kernel) rfl
theorem kw_1779 : (Cond.instanceMethod ⟨"BackVillage$Mind", "makesSureSomewhere", "(LBackVillage$State;I)Z"⟩) ∈ GW := gw_7 (i := 203) (by decide +kernel) rfl
theorem kw_1780 : (Cond.code ⟨"BackVillage$Mind", "makesSureSomewhere", "(LBackVillage$State;I)Z"⟩ prog_6_method_35_code 4 (some .boolean)) ∈ GW := gw_7 (i := 204) (by decide +kernel) rfl
theorem kw_1788 : (Cond.methodLink "BackVillage" 284 ⟨"BackVillage$Puzzles", "firstQuestion", "(LBackVillage$State;I)I"⟩) ∈ GW := gw_7 (i := 212) (by decide +kernel) rfl
theorem kw_1789 : (Cond.instanceMethod ⟨"BackVillage$Puzzles", "firstQuestion", "(LBackVillage$State;I)I"⟩) ∈ GW := gw_7 (i := 213) (by decide +kernel) rfl
theorem kw_1790 : (Cond.selects "BackVillage$Puzzles" ⟨"BackVillage$Puzzles", "firstQuestion", "(LBackVillage$State;I)I"⟩ ⟨"BackVillage$Puzzles", "firstQuestion", "(LBackVillage$State;I)I"⟩) ∈ GW := gw_7 (i := 214) (by decide +kernel) rfl
theorem kw_1791 : (Cond.code ⟨"BackVillage$Puzzles", "firstQuestion", "(LBackVillage$State;I)I"⟩ prog_7_method_8_code 3 (some .int)) ∈ GW := gw_7 (i := 215) (by decide +kernel) rfl
theorem kw_1792 : (Cond.methodLink "BackVillage$Puzzles" 93 ⟨"BackVillage$Mind", "isSure", "(LBackVillage$State;LBackVillage$Cells;II)Z"⟩) ∈ GW := gw_7 (i := 216) (by decide +kernel) rfl
theorem kw_1793 : (Cond.methodLink "BackVillage$Puzzles" 99 ⟨"BackVillage$Puzzles", "questionIn", "(LBackVillage$State;LBackVillage$Cells;I)I"⟩) ∈ GW := gw_7 (i := 217) (by decide +kernel) rfl
theorem kw_1795 : (Cond.instanceMethod ⟨"BackVillage$Puzzles", "questionIn", "(LBackVillage$State;LBackVillage$Cells;I)I"⟩) ∈ GW := gw_7 (i := 219) (by decide +kernel) rfl
theorem kw_1796 : (Cond.code ⟨"BackVillage$Puzzles", "questionIn", "(LBackVillage$State;LBackVillage$Cells;I)I"⟩ prog_7_method_9_code 7 (some .int)) ∈ GW := gw_7 (i := 220) (by decide +kernel) rfl
theorem kw_1797 : (Cond.methodLink "BackVillage$Puzzles" 106 ⟨"BackVillage$Mind", "sayAnswer", "(LBackVillage$State;LBackVillage$Cells;III)V"⟩) ∈ GW := gw_7 (i := 221) (by decide +kernel) rfl
theorem kw_1798 : (Cond.methodLink "BackVillage$Puzzles" 110 ⟨"BackVillage$Mind", "sureIfHeard", "(LBackVillage$State;LBackVillage$Cells;I)Z"⟩) ∈ GW := gw_7 (i := 222) (by decide +kernel) rfl
theorem kw_1806 : (Cond.methodLink "BackVillage" 287 ⟨"BackVillage$Puzzles", "fewestQueries", "(LBackVillage$State;I)I"⟩) ∈ GW := gw_7 (i := 230) (by decide +kernel) rfl
theorem kw_1807 : (Cond.instanceMethod ⟨"BackVillage$Puzzles", "fewestQueries", "(LBackVillage$State;I)I"⟩) ∈ GW := gw_7 (i := 231) (by decide +kernel) rfl
theorem kw_1808 : (Cond.selects "BackVillage$Puzzles" ⟨"BackVillage$Puzzles", "fewestQueries", "(LBackVillage$State;I)I"⟩ ⟨"BackVillage$Puzzles", "fewestQueries", "(LBackVillage$State;I)I"⟩) ∈ GW := gw_7 (i := 232) (by decide +kernel) rfl
theorem kw_1809 : (Cond.code ⟨"BackVillage$Puzzles", "fewestQueries", "(LBackVillage$State;I)I"⟩ prog_7_method_10_code 3 (some .int)) ∈ GW := gw_7 (i := 233) (by decide +kernel) rfl
theorem kw_1810 : (Cond.methodLink "BackVillage$Puzzles" 114 ⟨"BackVillage$Puzzles", "sureByTwo", "(LBackVillage$State;I)Z"⟩) ∈ GW := gw_7 (i := 234) (by decide +kernel) rfl
theorem kw_1812 : (Cond.instanceMethod ⟨"BackVillage$Puzzles", "sureByTwo", "(LBackVillage$State;I)Z"⟩) ∈ GW := gw_7 (i := 236) (by decide +kernel) rfl
theorem kw_1813 : (Cond.code ⟨"BackVillage$Puzzles", "sureByTwo", "(LBackVillage$State;I)Z"⟩ prog_7_method_11_code 6 (some .boolean)) ∈ GW := gw_7 (i := 237) (by decide +kernel) rfl
theorem kw_1814 : (Cond.methodLink "BackVillage$Puzzles" 118 ⟨"BackVillage$Cells", "become", "(LBackVillage$Cells;I)V"⟩) ∈ GW := gw_7 (i := 238) (by decide +kernel) rfl
theorem kw_1815 : (Cond.methodLink "BackVillage$Puzzles" 122 ⟨"BackVillage$Mind", "heed", "(LBackVillage$State;LBackVillage$Cells;)Z"⟩) ∈ GW := gw_7 (i := 239) (by decide +kernel) rfl
theorem kw_1830 : (Cond.methodLink "BackVillage" 296 ⟨"BackVillage$Puzzles", "playGame", "(LBackVillage$State;IZ)I"⟩) ∈ GW := gw_8 (i := 14) (by decide +kernel) rfl
theorem kw_1831 : (Cond.instanceMethod ⟨"BackVillage$Puzzles", "playGame", "(LBackVillage$State;IZ)I"⟩) ∈ GW := gw_8 (i := 15) (by decide +kernel) rfl
theorem kw_1832 : (Cond.selects "BackVillage$Puzzles" ⟨"BackVillage$Puzzles", "playGame", "(LBackVillage$State;IZ)I"⟩ ⟨"BackVillage$Puzzles", "playGame", "(LBackVillage$State;IZ)I"⟩) ∈ GW := gw_8 (i := 16) (by decide +kernel) rfl
theorem kw_1833 : (Cond.code ⟨"BackVillage$Puzzles", "playGame", "(LBackVillage$State;IZ)I"⟩ prog_7_method_6_code 7 (some .int)) ∈ GW := gw_8 (i := 17) (by decide +kernel) rfl
theorem kw_1834 : (Cond.methodLink "BackVillage$Puzzles" 86 ⟨"BackVillage$Puzzles", "bestMove", "(LBackVillage$State;II)I"⟩) ∈ GW := gw_8 (i := 18) (by decide +kernel) rfl
theorem kw_1836 : (Cond.instanceMethod ⟨"BackVillage$Puzzles", "bestMove", "(LBackVillage$State;II)I"⟩) ∈ GW := gw_8 (i := 20) (by decide +kernel) rfl
theorem kw_1837 : (Cond.code ⟨"BackVillage$Puzzles", "bestMove", "(LBackVillage$State;II)I"⟩ prog_7_method_7_code 9 (some .int)) ∈ GW := gw_8 (i := 21) (by decide +kernel) rfl
theorem kw_1845 : (Cond.methodLink "BackVillage" 300 ⟨"BackVillage$Puzzles", "stepsBetween", "(LBackVillage$State;II)I"⟩) ∈ GW := gw_8 (i := 29) (by decide +kernel) rfl
theorem kw_1846 : (Cond.instanceMethod ⟨"BackVillage$Puzzles", "stepsBetween", "(LBackVillage$State;II)I"⟩) ∈ GW := gw_8 (i := 30) (by decide +kernel) rfl
theorem kw_1847 : (Cond.selects "BackVillage$Puzzles" ⟨"BackVillage$Puzzles", "stepsBetween", "(LBackVillage$State;II)I"⟩ ⟨"BackVillage$Puzzles", "stepsBetween", "(LBackVillage$State;II)I"⟩) ∈ GW := gw_8 (i := 31) (by decide +kernel) rfl
theorem kw_1848 : (Cond.code ⟨"BackVillage$Puzzles", "stepsBetween", "(LBackVillage$State;II)I"⟩ prog_7_method_12_code 8 (some .int)) ∈ GW := gw_8 (i := 32) (by decide +kernel) rfl
theorem kw_1856 : (Cond.methodLink "BackVillage" 306 ⟨"BackVillage", "sureBehindStroll", "(II)I"⟩) ∈ GW := gw_8 (i := 40) (by decide +kernel) rfl
theorem kw_1858 : (Cond.instanceMethod ⟨"BackVillage", "sureBehindStroll", "(II)I"⟩) ∈ GW := gw_8 (i := 42) (by decide +kernel) rfl
theorem kw_1859 : (Cond.code ⟨"BackVillage", "sureBehindStroll", "(II)I"⟩ prog_1_method_62_code 3 (some .int)) ∈ GW := gw_8 (i := 43) (by decide +kernel) rfl
theorem kw_1867 : (Cond.methodLink "BackVillage" 309 ⟨"java/lang/Integer", "bitCount", "(I)I"⟩) ∈ GW := gw_8 (i := 51) (by decide +kernel) rfl
theorem kw_1868 : (Cond.methodLink "BackVillage" 314 ⟨"java/lang/Math", "max", "(II)I"⟩) ∈ GW := gw_8 (i := 52) (by decide +kernel) rfl
theorem kw_1876 : (Cond.methodLink "BackVillage" 322 ⟨"BackVillage$Mind", "heldAt", "(LBackVillage$State;II)I"⟩) ∈ GW := gw_8 (i := 60) (by decide +kernel) rfl
theorem kw_1877 : (Cond.instanceMethod ⟨"BackVillage$Mind", "heldAt", "(LBackVillage$State;II)I"⟩) ∈ GW := gw_8 (i := 61) (by decide +kernel) rfl
theorem kw_1878 : (Cond.selects "BackVillage$Mind" ⟨"BackVillage$Mind", "heldAt", "(LBackVillage$State;II)I"⟩ ⟨"BackVillage$Mind", "heldAt", "(LBackVillage$State;II)I"⟩) ∈ GW := gw_8 (i := 62) (by decide +kernel) rfl
theorem kw_1879 : (Cond.code ⟨"BackVillage$Mind", "heldAt", "(LBackVillage$State;II)I"⟩ prog_6_method_11_code 6 (some .int)) ∈ GW := gw_8 (i := 63) (by decide +kernel) rfl
theorem kw_1887 : (Cond.methodLink "BackVillage" 325 ⟨"BackVillage$Mind", "guessIn", "(LBackVillage$State;II)I"⟩) ∈ GW := gw_8 (i := 71) (by decide +kernel) rfl
theorem kw_1888 : (Cond.instanceMethod ⟨"BackVillage$Mind", "guessIn", "(LBackVillage$State;II)I"⟩) ∈ GW := gw_8 (i := 72) (by decide +kernel) rfl
theorem kw_1889 : (Cond.selects "BackVillage$Mind" ⟨"BackVillage$Mind", "guessIn", "(LBackVillage$State;II)I"⟩ ⟨"BackVillage$Mind", "guessIn", "(LBackVillage$State;II)I"⟩) ∈ GW := gw_8 (i := 73) (by decide +kernel) rfl
theorem kw_1890 : (Cond.code ⟨"BackVillage$Mind", "guessIn", "(LBackVillage$State;II)I"⟩ prog_6_method_38_code 4 (some .int)) ∈ GW := gw_8 (i := 74) (by decide +kernel) rfl
theorem kw_1891 : (Cond.methodLink "BackVillage$Mind" 188 ⟨"BackVillage$Mind", "tally", "(LBackVillage$State;I)V"⟩) ∈ GW := gw_8 (i := 75) (by decide +kernel) rfl
theorem kw_1893 : (Cond.instanceMethod ⟨"BackVillage$Mind", "tally", "(LBackVillage$State;I)V"⟩) ∈ GW := gw_8 (i := 77) (by decide +kernel) rfl
theorem kw_1894 : (Cond.code ⟨"BackVillage$Mind", "tally", "(LBackVillage$State;I)V"⟩ prog_6_method_41_code 5 none) ∈ GW := gw_8 (i := 78) (by decide +kernel) rfl
theorem kw_1895 : (Cond.methodLink "BackVillage$Mind" 191 ⟨"BackVillage$Mind", "bestIn", "(LBackVillage$State;II)I"⟩) ∈ GW := gw_8 (i := 79) (by decide +kernel) rfl
theorem kw_1897 : (Cond.instanceMethod ⟨"BackVillage$Mind", "bestIn", "(LBackVillage$State;II)I"⟩) ∈ GW := gw_8 (i := 81) (by decide +kernel) rfl
theorem kw_1898 : (Cond.code ⟨"BackVillage$Mind", "bestIn", "(LBackVillage$State;II)I"⟩ prog_6_method_42_code 7 (some .int)) ∈ GW := gw_8 (i := 82) (by decide +kernel) rfl
theorem kw_1906 : (Cond.methodLink "BackVillage" 328 ⟨"BackVillage$Mind", "rightGuesses", "(LBackVillage$State;I)I"⟩) ∈ GW := gw_8 (i := 90) (by decide +kernel) rfl
theorem kw_1907 : (Cond.instanceMethod ⟨"BackVillage$Mind", "rightGuesses", "(LBackVillage$State;I)I"⟩) ∈ GW := gw_8 (i := 91) (by decide +kernel) rfl
theorem kw_1908 : (Cond.selects "BackVillage$Mind" ⟨"BackVillage$Mind", "rightGuesses", "(LBackVillage$State;I)I"⟩ ⟨"BackVillage$Mind", "rightGuesses", "(LBackVillage$State;I)I"⟩) ∈ GW := gw_8 (i := 92) (by decide +kernel) rfl
theorem kw_1909 : (Cond.code ⟨"BackVillage$Mind", "rightGuesses", "(LBackVillage$State;I)I"⟩ prog_6_method_39_code 5 (some .int)) ∈ GW := gw_8 (i := 93) (by decide +kernel) rfl
theorem kw_1910 : (Cond.methodLink "BackVillage$Mind" 194 ⟨"BackVillage$Mind", "strikeWrong", "(LBackVillage$State;I)V"⟩) ∈ GW := gw_8 (i := 94) (by decide +kernel) rfl
theorem kw_1912 : (Cond.instanceMethod ⟨"BackVillage$Mind", "strikeWrong", "(LBackVillage$State;I)V"⟩) ∈ GW := gw_8 (i := 96) (by decide +kernel) rfl
theorem kw_1913 : (Cond.code ⟨"BackVillage$Mind", "strikeWrong", "(LBackVillage$State;I)V"⟩ prog_6_method_40_code 4 none) ∈ GW := gw_8 (i := 97) (by decide +kernel) rfl
theorem kw_1921 : (Cond.methodLink "BackVillage" 331 ⟨"BackVillage$Puzzles", "tellsPairs", "(LBackVillage$State;LBackVillage$Tape;I)Z"⟩) ∈ GW := gw_8 (i := 105) (by decide +kernel) rfl
theorem kw_1922 : (Cond.instanceMethod ⟨"BackVillage$Puzzles", "tellsPairs", "(LBackVillage$State;LBackVillage$Tape;I)Z"⟩) ∈ GW := gw_8 (i := 106) (by decide +kernel) rfl
theorem kw_1923 : (Cond.selects "BackVillage$Puzzles" ⟨"BackVillage$Puzzles", "tellsPairs", "(LBackVillage$State;LBackVillage$Tape;I)Z"⟩ ⟨"BackVillage$Puzzles", "tellsPairs", "(LBackVillage$State;LBackVillage$Tape;I)Z"⟩) ∈ GW := gw_8 (i := 107) (by decide +kernel) rfl
theorem kw_1924 : (Cond.code ⟨"BackVillage$Puzzles", "tellsPairs", "(LBackVillage$State;LBackVillage$Tape;I)Z"⟩ prog_7_method_13_code 7 (some .boolean)) ∈ GW := gw_8 (i := 108) (by decide +kernel) rfl
theorem kw_1925 : (Cond.methodLink "BackVillage$Puzzles" 129 ⟨"BackVillage$Puzzles", "personAt", "(LBackVillage$Tape;I)I"⟩) ∈ GW := gw_8 (i := 109) (by decide +kernel) rfl
theorem kw_1927 : (Cond.instanceMethod ⟨"BackVillage$Puzzles", "personAt", "(LBackVillage$Tape;I)I"⟩) ∈ GW := gw_8 (i := 111) (by decide +kernel) rfl
theorem kw_1928 : (Cond.code ⟨"BackVillage$Puzzles", "personAt", "(LBackVillage$Tape;I)I"⟩ prog_7_method_14_code 3 (some .int)) ∈ GW := gw_8 (i := 112) (by decide +kernel) rfl
theorem kw_1929 : (Cond.methodLink "BackVillage$Puzzles" 136 ⟨"BackVillage$Tape", "byteAt", "(I)I"⟩) ∈ GW := gw_8 (i := 113) (by decide +kernel) rfl
theorem kw_1930 : (Cond.methodLink "BackVillage$Puzzles" 133 ⟨"BackVillage$State", "hasPerson", "(I)Z"⟩) ∈ GW := gw_8 (i := 114) (by decide +kernel) rfl
theorem kw_1932 : (Cond.methodLink "BackVillage" 337 ⟨"BackVillage$Puzzles", "standInRow", "(LBackVillage$State;LBackVillage$Tape;II)I"⟩) ∈ GW := gw_8 (i := 116) (by decide +kernel) rfl
theorem kw_1933 : (Cond.instanceMethod ⟨"BackVillage$Puzzles", "standInRow", "(LBackVillage$State;LBackVillage$Tape;II)I"⟩) ∈ GW := gw_8 (i := 117) (by decide +kernel) rfl
theorem kw_1934 : (Cond.selects "BackVillage$Puzzles" ⟨"BackVillage$Puzzles", "standInRow", "(LBackVillage$State;LBackVillage$Tape;II)I"⟩ ⟨"BackVillage$Puzzles", "standInRow", "(LBackVillage$State;LBackVillage$Tape;II)I"⟩) ∈ GW := gw_8 (i := 118) (by decide +kernel) rfl
theorem kw_1935 : (Cond.code ⟨"BackVillage$Puzzles", "standInRow", "(LBackVillage$State;LBackVillage$Tape;II)I"⟩ prog_7_method_15_code 9 (some .int)) ∈ GW := gw_8 (i := 119) (by decide +kernel) rfl
theorem kw_1936 : (Cond.methodLink "BackVillage$Puzzles" 141 ⟨"BackVillage$Puzzles", "gatherPairs", "(LBackVillage$State;LBackVillage$Tape;I)V"⟩) ∈ GW := gw_8 (i := 120) (by decide +kernel) rfl
theorem kw_1938 : (Cond.instanceMethod ⟨"BackVillage$Puzzles", "gatherPairs", "(LBackVillage$State;LBackVillage$Tape;I)V"⟩) ∈ GW := gw_8 (i := 122) (by decide +kernel) rfl
theorem kw_1939 : (Cond.code ⟨"BackVillage$Puzzles", "gatherPairs", "(LBackVillage$State;LBackVillage$Tape;I)V"⟩ prog_7_method_16_code 7 none) ∈ GW := gw_8 (i := 123) (by decide +kernel) rfl
theorem kw_1940 : (Cond.methodLink "BackVillage$Puzzles" 152 ⟨"BackVillage$Cells", "fill", "(II)V"⟩) ∈ GW := gw_8 (i := 124) (by decide +kernel) rfl
theorem kw_1941 : (Cond.methodLink "BackVillage$Puzzles" 155 ⟨"BackVillage$Cells", "addBits", "(II)V"⟩) ∈ GW := gw_8 (i := 125) (by decide +kernel) rfl
theorem kw_1942 : (Cond.methodLink "BackVillage$Puzzles" 145 ⟨"BackVillage$Puzzles", "mayFollow", "(II)Z"⟩) ∈ GW := gw_8 (i := 126) (by decide +kernel) rfl
theorem kw_1944 : (Cond.instanceMethod ⟨"BackVillage$Puzzles", "mayFollow", "(II)Z"⟩) ∈ GW := gw_8 (i := 128) (by decide +kernel) rfl
theorem kw_1945 : (Cond.code ⟨"BackVillage$Puzzles", "mayFollow", "(II)Z"⟩ prog_7_method_17_code 3 (some .boolean)) ∈ GW := gw_8 (i := 129) (by decide +kernel) rfl
theorem kw_1946 : (Cond.methodLink "BackVillage$Puzzles" 149 ⟨"BackVillage$Puzzles", "placeInRow", "(LBackVillage$State;I)I"⟩) ∈ GW := gw_8 (i := 130) (by decide +kernel) rfl
theorem kw_1948 : (Cond.instanceMethod ⟨"BackVillage$Puzzles", "placeInRow", "(LBackVillage$State;I)I"⟩) ∈ GW := gw_8 (i := 132) (by decide +kernel) rfl
theorem kw_1949 : (Cond.code ⟨"BackVillage$Puzzles", "placeInRow", "(LBackVillage$State;I)I"⟩ prog_7_method_18_code 7 (some .int)) ∈ GW := gw_8 (i := 133) (by decide +kernel) rfl
theorem kw_1957 : (Cond.methodLink "BackVillage" 341 ⟨"BackVillage$Puzzles", "tellsSayings", "(LBackVillage$State;LBackVillage$Tape;I)Z"⟩) ∈ GW := gw_8 (i := 141) (by decide +kernel) rfl
theorem kw_1958 : (Cond.instanceMethod ⟨"BackVillage$Puzzles", "tellsSayings", "(LBackVillage$State;LBackVillage$Tape;I)Z"⟩) ∈ GW := gw_8 (i := 142) (by decide +kernel) rfl
theorem kw_1959 : (Cond.selects "BackVillage$Puzzles" ⟨"BackVillage$Puzzles", "tellsSayings", "(LBackVillage$State;LBackVillage$Tape;I)Z"⟩ ⟨"BackVillage$Puzzles", "tellsSayings", "(LBackVillage$State;LBackVillage$Tape;I)Z"⟩) ∈ GW := gw_8 (i := 143) (by decide +kernel) rfl
theorem kw_1960 : (Cond.code ⟨"BackVillage$Puzzles", "tellsSayings", "(LBackVillage$State;LBackVillage$Tape;I)Z"⟩ prog_7_method_19_code 5 (some .boolean)) ∈ GW := gw_8 (i := 144) (by decide +kernel) rfl
theorem kw_1961 : (Cond.methodLink "BackVillage$Puzzles" 158 ⟨"BackVillage$State", "hasNotice", "(I)Z"⟩) ∈ GW := gw_8 (i := 145) (by decide +kernel) rfl
theorem kw_1963 : (Cond.methodLink "BackVillage" 346 ⟨"BackVillage$Puzzles", "whoLied", "(LBackVillage$State;LBackVillage$Tape;IIZ)I"⟩) ∈ GW := gw_8 (i := 147) (by decide +kernel) rfl
theorem kw_1964 : (Cond.instanceMethod ⟨"BackVillage$Puzzles", "whoLied", "(LBackVillage$State;LBackVillage$Tape;IIZ)I"⟩) ∈ GW := gw_8 (i := 148) (by decide +kernel) rfl
theorem kw_1965 : (Cond.selects "BackVillage$Puzzles" ⟨"BackVillage$Puzzles", "whoLied", "(LBackVillage$State;LBackVillage$Tape;IIZ)I"⟩ ⟨"BackVillage$Puzzles", "whoLied", "(LBackVillage$State;LBackVillage$Tape;IIZ)I"⟩) ∈ GW := gw_8 (i := 149) (by decide +kernel) rfl
theorem kw_1966 : (Cond.code ⟨"BackVillage$Puzzles", "whoLied", "(LBackVillage$State;LBackVillage$Tape;IIZ)I"⟩ prog_7_method_20_code 10 (some .int)) ∈ GW := gw_8 (i := 150) (by decide +kernel) rfl
theorem kw_1967 : (Cond.methodLink "BackVillage$Puzzles" 161 ⟨"BackVillage$Puzzles", "liarsIn", "(LBackVillage$State;LBackVillage$Tape;II)I"⟩) ∈ GW := gw_8 (i := 151) (by decide +kernel) rfl
theorem kw_1969 : (Cond.instanceMethod ⟨"BackVillage$Puzzles", "liarsIn", "(LBackVillage$State;LBackVillage$Tape;II)I"⟩) ∈ GW := gw_8 (i := 153) (by decide +kernel) rfl
theorem kw_1970 : (Cond.code ⟨"BackVillage$Puzzles", "liarsIn", "(LBackVillage$State;LBackVillage$Tape;II)I"⟩ prog_7_method_21_code 7 (some .int)) ∈ GW := gw_8 (i := 154) (by decide +kernel) rfl
theorem kw_1978 : (Cond.methodLink "BackVillage" 350 ⟨"BackVillage$Puzzles", "marry", "(LBackVillage$State;I)I"⟩) ∈ GW := gw_8 (i := 162) (by decide +kernel) rfl
theorem kw_1979 : (Cond.instanceMethod ⟨"BackVillage$Puzzles", "marry", "(LBackVillage$State;I)I"⟩) ∈ GW := gw_8 (i := 163) (by decide +kernel) rfl
theorem kw_1980 : (Cond.selects "BackVillage$Puzzles" ⟨"BackVillage$Puzzles", "marry", "(LBackVillage$State;I)I"⟩ ⟨"BackVillage$Puzzles", "marry", "(LBackVillage$State;I)I"⟩) ∈ GW := gw_8 (i := 164) (by decide +kernel) rfl
theorem kw_1981 : (Cond.code ⟨"BackVillage$Puzzles", "marry", "(LBackVillage$State;I)I"⟩ prog_7_method_22_code 8 (some .int)) ∈ GW := gw_8 (i := 165) (by decide +kernel) rfl
theorem kw_1982 : (Cond.methodLink "BackVillage$Puzzles" 165 ⟨"BackVillage$Puzzles", "gatherFriends", "(LBackVillage$State;)V"⟩) ∈ GW := gw_8 (i := 166) (by decide +kernel) rfl
theorem kw_1984 : (Cond.instanceMethod ⟨"BackVillage$Puzzles", "gatherFriends", "(LBackVillage$State;)V"⟩) ∈ GW := gw_8 (i := 168) (by decide +kernel) rfl
theorem kw_1985 : (Cond.code ⟨"BackVillage$Puzzles", "gatherFriends", "(LBackVillage$State;)V"⟩ prog_7_method_23_code 3 none) ∈ GW := gw_8 (i := 169) (by decide +kernel) rfl
theorem kw_1986 : (Cond.methodLink "BackVillage$Puzzles" 184 ⟨"BackVillage$Mind", "knownBits", "(LBackVillage$State;I)I"⟩) ∈ GW := gw_8 (i := 170) (by decide +kernel) rfl
theorem kw_1987 : (Cond.methodLink "BackVillage$Puzzles" 169 ⟨"java/lang/Integer", "numberOfTrailingZeros", "(I)I"⟩) ∈ GW := gw_8 (i := 171) (by decide +kernel) rfl
theorem kw_1988 : (Cond.methodLink "BackVillage$Puzzles" 172 ⟨"BackVillage$Puzzles", "mayPair", "(III)Z"⟩) ∈ GW := gw_8 (i := 172) (by decide +kernel) rfl
theorem kw_1990 : (Cond.instanceMethod ⟨"BackVillage$Puzzles", "mayPair", "(III)Z"⟩) ∈ GW := gw_8 (i := 174) (by decide +kernel) rfl
theorem kw_1991 : (Cond.code ⟨"BackVillage$Puzzles", "mayPair", "(III)Z"⟩ prog_7_method_24_code 4 (some .boolean)) ∈ GW := gw_8 (i := 175) (by decide +kernel) rfl
theorem kw_1992 : (Cond.methodLink "BackVillage$Puzzles" 176 ⟨"java/lang/Math", "max", "(II)I"⟩) ∈ GW := gw_8 (i := 176) (by decide +kernel) rfl
theorem kw_1993 : (Cond.methodLink "BackVillage$Puzzles" 181 ⟨"BackVillage$Puzzles", "partnerOf", "(LBackVillage$State;I)I"⟩) ∈ GW := gw_8 (i := 177) (by decide +kernel) rfl
theorem kw_1995 : (Cond.instanceMethod ⟨"BackVillage$Puzzles", "partnerOf", "(LBackVillage$State;I)I"⟩) ∈ GW := gw_8 (i := 179) (by decide +kernel) rfl
theorem kw_1996 : (Cond.code ⟨"BackVillage$Puzzles", "partnerOf", "(LBackVillage$State;I)I"⟩ prog_7_method_25_code 7 (some .int)) ∈ GW := gw_8 (i := 180) (by decide +kernel) rfl
theorem kw_2004 : (Cond.methodLink "BackVillage" 356 ⟨"BackVillage$State", "noted", "(II)I"⟩) ∈ GW := gw_8 (i := 188) (by decide +kernel) rfl
theorem kw_2005 : (Cond.instanceMethod ⟨"BackVillage$State", "noted", "(II)I"⟩) ∈ GW := gw_8 (i := 189) (by decide +kernel) rfl
theorem kw_2006 : (Cond.selects "BackVillage$State" ⟨"BackVillage$State", "noted", "(II)I"⟩ ⟨"BackVillage$State", "noted", "(II)I"⟩) ∈ GW := gw_8 (i := 190) (by decide +kernel) rfl
theorem kw_2007 : (Cond.code ⟨"BackVillage$State", "noted", "(II)I"⟩ prog_8_method_16_code 4 (some .int)) ∈ GW := gw_8 (i := 191) (by decide +kernel) rfl
theorem kw_2721 : (Cond.sameMethod "BackVillage$TextReader" "BackVillage$TextReader" "endOfThing" "(I)I") ∈ GW := gw_11 (i := 185) (by decide +kernel) rfl
theorem kw_2722 : (Cond.sameMethod "BackVillage$TextReader" "BackVillage$TextReader" "byteAt" "(I)I") ∈ GW := gw_11 (i := 186) (by decide +kernel) rfl
theorem kw_2723 : (Cond.sameMethod "BackVillage$TextReader" "BackVillage$TextReader" "keep" "(II)V") ∈ GW := gw_11 (i := 187) (by decide +kernel) rfl
theorem kw_2724 : (Cond.sameMethod "BackVillage$TextReader" "BackVillage$TextReader" "kindOfWord" "(II)I") ∈ GW := gw_11 (i := 188) (by decide +kernel) rfl
theorem kw_2725 : (Cond.sameMethod "BackVillage$TextReader" "BackVillage$TextReader" "isWord" "(IILjava/lang/String;)Z") ∈ GW := gw_11 (i := 189) (by decide +kernel) rfl
theorem kw_2726 : (Cond.sameMethod "BackVillage$TextReader" "BackVillage$TextReader" "valueOf" "(II)I") ∈ GW := gw_11 (i := 190) (by decide +kernel) rfl
theorem kw_2727 : (Cond.sameMethod "BackVillage$TextReader" "BackVillage$TextReader" "take" "(I)Z") ∈ GW := gw_11 (i := 191) (by decide +kernel) rfl
theorem kw_2728 : (Cond.selects "BackVillage$LawReader" ⟨"BackVillage$TextReader", "take", "(I)Z"⟩ ⟨"BackVillage$TextReader", "take", "(I)Z"⟩) ∈ GW := gw_11 (i := 192) (by decide +kernel) rfl
theorem kw_2729 : (Cond.selects "BackVillage$VillageReader" ⟨"BackVillage$TextReader", "take", "(I)Z"⟩ ⟨"BackVillage$TextReader", "take", "(I)Z"⟩) ∈ GW := gw_11 (i := 193) (by decide +kernel) rfl
