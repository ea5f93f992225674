theorem kw_52 : (Cond.selects "BackVillageModel" ⟨"BackVillageModel", "readAll", "(Z)I"⟩ ⟨"BackVillageModel", "readAll", "(Z)I"⟩) ∈ GW := gwp_4 (q := (⟨"BackVillageModel", "readAll", "(Z)I"⟩, 37)) (i := 4) (by decide +kernel)
theorem kw_53 : (Cond.selects "BackVillageModel" ⟨"BackVillageModel", "uses", "()V"⟩ ⟨"BackVillageModel", "uses", "()V"⟩) ∈ GW := gwp_4 (q := (⟨"BackVillageModel", "uses", "()V"⟩, 37)) (i := 5) (by decide +kernel)
theorem kw_54 : (Cond.selects "BackVillageModel" ⟨"BackVillageModel", "blanks", "()V"⟩ ⟨"BackVillageModel", "blanks", "()V"⟩) ∈ GW := gwp_4 (q := (⟨"BackVillageModel", "blanks", "()V"⟩, 37)) (i := 6) (by decide +kernel)
theorem kw_55 : (Cond.selects "BackVillageModel" ⟨"BackVillageModel", "isAt", "(II)Z"⟩ ⟨"BackVillageModel", "isAt", "(II)Z"⟩) ∈ GW := gwp_4 (q := (⟨"BackVillageModel", "isAt", "(II)Z"⟩, 37)) (i := 7) (by decide +kernel)
theorem kw_56 : (Cond.selects "BackVillageModel" ⟨"BackVillageModel", "readLine", "(ZI)Z"⟩ ⟨"BackVillageModel", "readLine", "(ZI)Z"⟩) ∈ GW := gwp_4 (q := (⟨"BackVillageModel", "readLine", "(ZI)Z"⟩, 37)) (i := 8) (by decide +kernel)
theorem kw_57 : (Cond.selects "BackVillageModel" ⟨"BackVillageModel", "letters", "()V"⟩ ⟨"BackVillageModel", "letters", "()V"⟩) ∈ GW := gwp_4 (q := (⟨"BackVillageModel", "letters", "()V"⟩, 37)) (i := 9) (by decide +kernel)
theorem kw_58 : (Cond.selects "BackVillageModel" ⟨"BackVillageModel", "readVillageLine", "()Z"⟩ ⟨"BackVillageModel", "readVillageLine", "()Z"⟩) ∈ GW := gwp_4 (q := (⟨"BackVillageModel", "readVillageLine", "()Z"⟩, 37)) (i := 10) (by decide +kernel)
theorem kw_59 : (Cond.selects "BackVillageModel" ⟨"BackVillageModel", "isWord", "(Ljava/lang/String;)Z"⟩ ⟨"BackVillageModel", "isWord", "(Ljava/lang/String;)Z"⟩) ∈ GW := gwp_4 (q := (⟨"BackVillageModel", "isWord", "(Ljava/lang/String;)Z"⟩, 37)) (i := 11) (by decide +kernel)
theorem kw_60 : (Cond.selects "BackVillageModel" ⟨"BackVillageModel", "readValues", "()Z"⟩ ⟨"BackVillageModel", "readValues", "()Z"⟩) ∈ GW := gwp_4 (q := (⟨"BackVillageModel", "readValues", "()Z"⟩, 37)) (i := 12) (by decide +kernel)
theorem kw_61 : (Cond.selects "BackVillageModel" ⟨"BackVillageModel", "isEarly", "()Z"⟩ ⟨"BackVillageModel", "isEarly", "()Z"⟩) ∈ GW := gwp_4 (q := (⟨"BackVillageModel", "isEarly", "()Z"⟩, 37)) (i := 13) (by decide +kernel)
theorem kw_62 : (Cond.selects "BackVillageModel" ⟨"BackVillageModel", "people", "()I"⟩ ⟨"BackVillageModel", "people", "()I"⟩) ∈ GW := gwp_4 (q := (⟨"BackVillageModel", "people", "()I"⟩, 37)) (i := 14) (by decide +kernel)
theorem kw_63 : (Cond.selects "BackVillageModel" ⟨"BackVillageModel", "number", "(II)I"⟩ ⟨"BackVillageModel", "number", "(II)I"⟩) ∈ GW := gwp_4 (q := (⟨"BackVillageModel", "number", "(II)I"⟩, 37)) (i := 15) (by decide +kernel)
theorem kw_64 : (Cond.selects "BackVillageModel" ⟨"BackVillageModel", "readPerson", "()Z"⟩ ⟨"BackVillageModel", "readPerson", "()Z"⟩) ∈ GW := gwp_5 (q := (⟨"BackVillageModel", "readPerson", "()Z"⟩, 37)) (i := 0) (by decide +kernel)
theorem kw_65 : (Cond.selects "BackVillageModel" ⟨"BackVillageModel", "worlds", "()I"⟩ ⟨"BackVillageModel", "worlds", "()I"⟩) ∈ GW := gwp_5 (q := (⟨"BackVillageModel", "worlds", "()I"⟩, 37)) (i := 1) (by decide +kernel)
theorem kw_66 : (Cond.selects "BackVillageModel" ⟨"BackVillageModel", "values", "()I"⟩ ⟨"BackVillageModel", "values", "()I"⟩) ∈ GW := gwp_5 (q := (⟨"BackVillageModel", "values", "()I"⟩, 37)) (i := 2) (by decide +kernel)
theorem kw_67 : (Cond.selects "BackVillageModel" ⟨"BackVillageModel", "readMany", "(Z)Z"⟩ ⟨"BackVillageModel", "readMany", "(Z)Z"⟩) ∈ GW := gwp_5 (q := (⟨"BackVillageModel", "readMany", "(Z)Z"⟩, 37)) (i := 3) (by decide +kernel)
theorem kw_68 : (Cond.selects "BackVillageModel" ⟨"BackVillageModel", "after", "(Ljava/lang/String;II)I"⟩ ⟨"BackVillageModel", "after", "(Ljava/lang/String;II)I"⟩) ∈ GW := gwp_5 (q := (⟨"BackVillageModel", "after", "(Ljava/lang/String;II)I"⟩, 37)) (i := 4) (by decide +kernel)
theorem kw_69 : (Cond.selects "BackVillageModel" ⟨"BackVillageModel", "haveIn", "(II)I"⟩ ⟨"BackVillageModel", "haveIn", "(II)I"⟩) ∈ GW := gwp_5 (q := (⟨"BackVillageModel", "haveIn", "(II)I"⟩, 37)) (i := 5) (by decide +kernel)
theorem kw_70 : (Cond.selects "BackVillageModel" ⟨"BackVillageModel", "noticeIn", "(II)I"⟩ ⟨"BackVillageModel", "noticeIn", "(II)I"⟩) ∈ GW := gwp_5 (q := (⟨"BackVillageModel", "noticeIn", "(II)I"⟩, 37)) (i := 6) (by decide +kernel)
theorem kw_71 : (Cond.selects "BackVillageModel" ⟨"BackVillageModel", "isSo", "(I)Z"⟩ ⟨"BackVillageModel", "isSo", "(I)Z"⟩) ∈ GW := gwp_5 (q := (⟨"BackVillageModel", "isSo", "(I)Z"⟩, 37)) (i := 7) (by decide +kernel)
theorem kw_72 : (Cond.selects "BackVillageModel" ⟨"BackVillageModel", "here", "()I"⟩ ⟨"BackVillageModel", "here", "()I"⟩) ∈ GW := gwp_5 (q := (⟨"BackVillageModel", "here", "()I"⟩, 37)) (i := 8) (by decide +kernel)
theorem kw_73 : (Cond.selects "BackVillageModel" ⟨"BackVillageModel", "drops", "()V"⟩ ⟨"BackVillageModel", "drops", "()V"⟩) ∈ GW := gwp_5 (q := (⟨"BackVillageModel", "drops", "()V"⟩, 37)) (i := 9) (by decide +kernel)
theorem kw_74 : (Cond.selects "BackVillageModel" ⟨"BackVillageModel", "readAlike", "(Z)Z"⟩ ⟨"BackVillageModel", "readAlike", "(Z)Z"⟩) ∈ GW := gwp_5 (q := (⟨"BackVillageModel", "readAlike", "(Z)Z"⟩, 37)) (i := 10) (by decide +kernel)
theorem kw_75 : (Cond.selects "BackVillageModel" ⟨"BackVillageModel", "readTwo", "()Z"⟩ ⟨"BackVillageModel", "readTwo", "()Z"⟩) ∈ GW := gwp_5 (q := (⟨"BackVillageModel", "readTwo", "()Z"⟩, 37)) (i := 11) (by decide +kernel)
theorem kw_76 : (Cond.selects "BackVillageModel" ⟨"BackVillageModel", "personTold", "()I"⟩ ⟨"BackVillageModel", "personTold", "()I"⟩) ∈ GW := gwp_5 (q := (⟨"BackVillageModel", "personTold", "()I"⟩, 37)) (i := 12) (by decide +kernel)
theorem kw_77 : (Cond.selects "BackVillageModel" ⟨"BackVillageModel", "seesFrom", "(II)V"⟩ ⟨"BackVillageModel", "seesFrom", "(II)V"⟩) ∈ GW := gwp_5 (q := (⟨"BackVillageModel", "seesFrom", "(II)V"⟩, 37)) (i := 13) (by decide +kernel)
theorem kw_78 : (Cond.selects "BackVillageModel" ⟨"BackVillageModel", "noticesCome", "(I)V"⟩ ⟨"BackVillageModel", "noticesCome", "(I)V"⟩) ∈ GW := gwp_5 (q := (⟨"BackVillageModel", "noticesCome", "(I)V"⟩, 37)) (i := 14) (by decide +kernel)
theorem kw_79 : (Cond.selects "BackVillageModel" ⟨"BackVillageModel", "parts", "(I)V"⟩ ⟨"BackVillageModel", "parts", "(I)V"⟩) ∈ GW := gwp_5 (q := (⟨"BackVillageModel", "parts", "(I)V"⟩, 37)) (i := 15) (by decide +kernel)
theorem kw_80 : (Cond.selects "BackVillageModel" ⟨"BackVillageModel", "isLeft", "(I)Z"⟩ ⟨"BackVillageModel", "isLeft", "(I)Z"⟩) ∈ GW := gwp_6 (q := (⟨"BackVillageModel", "isLeft", "(I)Z"⟩, 37)) (i := 0) (by decide +kernel)
theorem kw_81 : (Cond.selects "BackVillageModel" ⟨"BackVillageModel", "label", "(II)I"⟩ ⟨"BackVillageModel", "label", "(II)I"⟩) ∈ GW := gwp_6 (q := (⟨"BackVillageModel", "label", "(II)I"⟩, 37)) (i := 1) (by decide +kernel)
theorem kw_82 : (Cond.selects "BackVillageModel" ⟨"BackVillageModel", "readLawLine", "(I)Z"⟩ ⟨"BackVillageModel", "readLawLine", "(I)Z"⟩) ∈ GW := gwp_6 (q := (⟨"BackVillageModel", "readLawLine", "(I)Z"⟩, 37)) (i := 2) (by decide +kernel)
theorem kw_83 : (Cond.selects "BackVillageModel" ⟨"BackVillageModel", "passes", "(Ljava/lang/String;)Z"⟩ ⟨"BackVillageModel", "passes", "(Ljava/lang/String;)Z"⟩) ∈ GW := gwp_6 (q := (⟨"BackVillageModel", "passes", "(Ljava/lang/String;)Z"⟩, 37)) (i := 3) (by decide +kernel)
theorem kw_84 : (Cond.selects "BackVillageModel" ⟨"BackVillageModel", "readCond", "()Z"⟩ ⟨"BackVillageModel", "readCond", "()Z"⟩) ∈ GW := gwp_6 (q := (⟨"BackVillageModel", "readCond", "()Z"⟩, 37)) (i := 4) (by decide +kernel)
theorem kw_85 : (Cond.selects "BackVillageModel" ⟨"BackVillageModel", "readAllOf", "()Z"⟩ ⟨"BackVillageModel", "readAllOf", "()Z"⟩) ∈ GW := gwp_6 (q := (⟨"BackVillageModel", "readAllOf", "()Z"⟩, 37)) (i := 5) (by decide +kernel)
theorem kw_86 : (Cond.selects "BackVillageModel" ⟨"BackVillageModel", "readAtom", "()Z"⟩ ⟨"BackVillageModel", "readAtom", "()Z"⟩) ∈ GW := gwp_6 (q := (⟨"BackVillageModel", "readAtom", "()Z"⟩, 37)) (i := 6) (by decide +kernel)
theorem kw_87 : (Cond.selects "BackVillageModel" ⟨"BackVillageModel", "sign", "(I)Z"⟩ ⟨"BackVillageModel", "sign", "(I)Z"⟩) ∈ GW := gwp_6 (q := (⟨"BackVillageModel", "sign", "(I)Z"⟩, 37)) (i := 7) (by decide +kernel)
theorem kw_88 : (Cond.selects "BackVillageModel" ⟨"BackVillageModel", "emits", "(II)V"⟩ ⟨"BackVillageModel", "emits", "(II)V"⟩) ∈ GW := gwp_6 (q := (⟨"BackVillageModel", "emits", "(II)V"⟩, 37)) (i := 8) (by decide +kernel)
theorem kw_89 : (Cond.selects "BackVillageModel" ⟨"BackVillageModel", "readSum", "()Z"⟩ ⟨"BackVillageModel", "readSum", "()Z"⟩) ∈ GW := gwp_6 (q := (⟨"BackVillageModel", "readSum", "()Z"⟩, 37)) (i := 9) (by decide +kernel)
theorem kw_90 : (Cond.selects "BackVillageModel" ⟨"BackVillageModel", "readPart", "()Z"⟩ ⟨"BackVillageModel", "readPart", "()Z"⟩) ∈ GW := gwp_6 (q := (⟨"BackVillageModel", "readPart", "()Z"⟩, 37)) (i := 10) (by decide +kernel)
theorem kw_91 : (Cond.selects "BackVillageModel" ⟨"BackVillageModel", "throwsIf", "(ZI)Z"⟩ ⟨"BackVillageModel", "throwsIf", "(ZI)Z"⟩) ∈ GW := gwp_6 (q := (⟨"BackVillageModel", "throwsIf", "(ZI)Z"⟩, 37)) (i := 11) (by decide +kernel)
theorem kw_92 : (Cond.selects "BackVillageModel" ⟨"BackVillageModel", "noPerson", "(I)Z"⟩ ⟨"BackVillageModel", "noPerson", "(I)Z"⟩) ∈ GW := gwp_6 (q := (⟨"BackVillageModel", "noPerson", "(I)Z"⟩, 37)) (i := 12) (by decide +kernel)
theorem kw_93 : (Cond.selects "BackVillageModel" ⟨"BackVillageModel", "isSeeing", "(II)Z"⟩ ⟨"BackVillageModel", "isSeeing", "(II)Z"⟩) ∈ GW := gwp_6 (q := (⟨"BackVillageModel", "isSeeing", "(II)Z"⟩, 37)) (i := 13) (by decide +kernel)
theorem kw_94 : (Cond.selects "BackVillageModel" ⟨"BackVillageModel", "remembers", "()V"⟩ ⟨"BackVillageModel", "remembers", "()V"⟩) ∈ GW := gwp_6 (q := (⟨"BackVillageModel", "remembers", "()V"⟩, 37)) (i := 14) (by decide +kernel)
theorem kw_95 : (Cond.selects "BackVillageModel" ⟨"BackVillageModel", "treats", "(IIZ)I"⟩ ⟨"BackVillageModel", "treats", "(IIZ)I"⟩) ∈ GW := gwp_6 (q := (⟨"BackVillageModel", "treats", "(IIZ)I"⟩, 37)) (i := 15) (by decide +kernel)
theorem kw_96 : (Cond.selects "BackVillageModel" ⟨"BackVillageModel", "mannerIn", "(III)I"⟩ ⟨"BackVillageModel", "mannerIn", "(III)I"⟩) ∈ GW := gwp_7 (q := (⟨"BackVillageModel", "mannerIn", "(III)I"⟩, 37)) (i := 0) (by decide +kernel)
theorem kw_97 : (Cond.selects "BackVillageModel" ⟨"BackVillageModel", "isSure", "(II)Z"⟩ ⟨"BackVillageModel", "isSure", "(II)Z"⟩) ∈ GW := gwp_7 (q := (⟨"BackVillageModel", "isSure", "(II)Z"⟩, 37)) (i := 1) (by decide +kernel)
theorem kw_98 : (Cond.selects "BackVillageModel" ⟨"BackVillageModel", "possibleOf", "(III)I"⟩ ⟨"BackVillageModel", "possibleOf", "(III)I"⟩) ∈ GW := gwp_7 (q := (⟨"BackVillageModel", "possibleOf", "(III)I"⟩, 37)) (i := 2) (by decide +kernel)
theorem kw_99 : (Cond.selects "BackVillageModel" ⟨"BackVillageModel", "lays", "(II)V"⟩ ⟨"BackVillageModel", "lays", "(II)V"⟩) ∈ GW := gwp_7 (q := (⟨"BackVillageModel", "lays", "(II)V"⟩, 37)) (i := 3) (by decide +kernel)
theorem kw_100 : (Cond.selects "BackVillageModel" ⟨"BackVillageModel", "mannerBy", "(IIIZ)I"⟩ ⟨"BackVillageModel", "mannerBy", "(IIIZ)I"⟩) ∈ GW := gwp_7 (q := (⟨"BackVillageModel", "mannerBy", "(IIIZ)I"⟩, 37)) (i := 4) (by decide +kernel)
theorem kw_101 : (Cond.selects "BackVillageModel" ⟨"BackVillageModel", "holdsLine", "(IIIIZ)Z"⟩ ⟨"BackVillageModel", "holdsLine", "(IIIIZ)Z"⟩) ∈ GW := gwp_7 (q := (⟨"BackVillageModel", "holdsLine", "(IIIIZ)Z"⟩, 37)) (i := 5) (by decide +kernel)
theorem kw_102 : (Cond.selects "BackVillageModel" ⟨"BackVillageModel", "factOf", "(IIIIIZ)I"⟩ ⟨"BackVillageModel", "factOf", "(IIIIIZ)I"⟩) ∈ GW := gwp_7 (q := (⟨"BackVillageModel", "factOf", "(IIIIIZ)I"⟩, 37)) (i := 6) (by decide +kernel)
theorem kw_103 : (Cond.selects "BackVillageModel" ⟨"BackVillageModel", "mannersCome", "(II)V"⟩ ⟨"BackVillageModel", "mannersCome", "(II)V"⟩) ∈ GW := gwp_7 (q := (⟨"BackVillageModel", "mannersCome", "(II)V"⟩, 37)) (i := 7) (by decide +kernel)
theorem kw_104 : (Cond.selects "BackVillageModel" ⟨"BackVillageModel", "tells", "(IIII)V"⟩ ⟨"BackVillageModel", "tells", "(IIII)V"⟩) ∈ GW := gwp_7 (q := (⟨"BackVillageModel", "tells", "(IIII)V"⟩, 37)) (i := 8) (by decide +kernel)
theorem kw_105 : (Cond.selects "BackVillageModel" ⟨"BackVillageModel", "sureOnes", "(I)I"⟩ ⟨"BackVillageModel", "sureOnes", "(I)I"⟩) ∈ GW := gwp_7 (q := (⟨"BackVillageModel", "sureOnes", "(I)I"⟩, 37)) (i := 9) (by decide +kernel)
theorem kw_106 : (Cond.selects "BackVillageModel" ⟨"BackVillageModel", "notice", "(I)I"⟩ ⟨"BackVillageModel", "notice", "(I)I"⟩) ∈ GW := gwp_7 (q := (⟨"BackVillageModel", "notice", "(I)I"⟩, 37)) (i := 10) (by decide +kernel)
theorem kw_107 : (Cond.selects "BackVillageModel" ⟨"BackVillageModel", "says", "()I"⟩ ⟨"BackVillageModel", "says", "()I"⟩) ∈ GW := gwp_7 (q := (⟨"BackVillageModel", "says", "()I"⟩, 37)) (i := 11) (by decide +kernel)
theorem kw_108 : (Cond.selects "BackVillageModel" ⟨"BackVillageModel", "readsOut", "(I)V"⟩ ⟨"BackVillageModel", "readsOut", "(I)V"⟩) ∈ GW := gwp_7 (q := (⟨"BackVillageModel", "readsOut", "(I)V"⟩, 37)) (i := 12) (by decide +kernel)
theorem kw_109 : (Cond.selects "BackVillageModel" ⟨"BackVillageModel", "answersCome", "(III)V"⟩ ⟨"BackVillageModel", "answersCome", "(III)V"⟩) ∈ GW := gwp_7 (q := (⟨"BackVillageModel", "answersCome", "(III)V"⟩, 37)) (i := 13) (by decide +kernel)
theorem kw_110 : (Cond.selects "BackVillageModel" ⟨"BackVillageModel", "strolls", "(I)I"⟩ ⟨"BackVillageModel", "strolls", "(I)I"⟩) ∈ GW := gwp_7 (q := (⟨"BackVillageModel", "strolls", "(I)I"⟩, 37)) (i := 14) (by decide +kernel)
theorem kw_111 : (Cond.selects "BackVillageModel" ⟨"BackVillageModel", "draw", "(I)I"⟩ ⟨"BackVillageModel", "draw", "(I)I"⟩) ∈ GW := gwp_7 (q := (⟨"BackVillageModel", "draw", "(I)I"⟩, 37)) (i := 15) (by decide +kernel)
theorem kw_112 : (Cond.selects "BackVillageModel" ⟨"BackVillageModel", "seenBy", "(I)I"⟩ ⟨"BackVillageModel", "seenBy", "(I)I"⟩) ∈ GW := gwp_8 (q := (⟨"BackVillageModel", "seenBy", "(I)I"⟩, 37)) (i := 0) (by decide +kernel)
theorem kw_113 : (Cond.selects "BackVillageModel" ⟨"BackVillageModel", "holds", "(II)I"⟩ ⟨"BackVillageModel", "holds", "(II)I"⟩) ∈ GW := gwp_8 (q := (⟨"BackVillageModel", "holds", "(II)I"⟩, 37)) (i := 1) (by decide +kernel)
theorem kw_114 : (Cond.selects "BackVillageModel" ⟨"BackVillageModel", "allKnown", "(I)I"⟩ ⟨"BackVillageModel", "allKnown", "(I)I"⟩) ∈ GW := gwp_8 (q := (⟨"BackVillageModel", "allKnown", "(I)I"⟩, 37)) (i := 2) (by decide +kernel)
theorem kw_115 : (Cond.selects "BackVillageModel" ⟨"BackVillageModel", "noWorld", "(I)Z"⟩ ⟨"BackVillageModel", "noWorld", "(I)Z"⟩) ∈ GW := gwp_8 (q := (⟨"BackVillageModel", "noWorld", "(I)Z"⟩, 37)) (i := 3) (by decide +kernel)
theorem kw_116 : (Cond.selects "BackVillageModel" ⟨"BackVillageModel", "comes", "(I)Z"⟩ ⟨"BackVillageModel", "comes", "(I)Z"⟩) ∈ GW := gwp_8 (q := (⟨"BackVillageModel", "comes", "(I)Z"⟩, 37)) (i := 4) (by decide +kernel)
theorem kw_117 : (Cond.selects "BackVillageModel" ⟨"BackVillageModel", "keepsLeft", "()V"⟩ ⟨"BackVillageModel", "keepsLeft", "()V"⟩) ∈ GW := gwp_8 (q := (⟨"BackVillageModel", "keepsLeft", "()V"⟩, 37)) (i := 5) (by decide +kernel)
theorem kw_118 : (Cond.selects "BackVillageModel" ⟨"BackVillageModel", "bringsLeft", "()V"⟩ ⟨"BackVillageModel", "bringsLeft", "()V"⟩) ∈ GW := gwp_8 (q := (⟨"BackVillageModel", "bringsLeft", "()V"⟩, 37)) (i := 6) (by decide +kernel)
theorem kw_119 : (Cond.selects "BackVillageModel" ⟨"BackVillageModel", "readsAll", "(I)V"⟩ ⟨"BackVillageModel", "readsAll", "(I)V"⟩) ∈ GW := gwp_8 (q := (⟨"BackVillageModel", "readsAll", "(I)V"⟩, 37)) (i := 7) (by decide +kernel)
theorem kw_120 : (Cond.selects "BackVillageModel" ⟨"BackVillageModel", "laysMore", "(I)V"⟩ ⟨"BackVillageModel", "laysMore", "(I)V"⟩) ∈ GW := gwp_8 (q := (⟨"BackVillageModel", "laysMore", "(I)V"⟩, 37)) (i := 8) (by decide +kernel)
theorem kw_121 : (Cond.selects "BackVillageModel" ⟨"BackVillageModel", "maskAt", "(II)I"⟩ ⟨"BackVillageModel", "maskAt", "(II)I"⟩) ∈ GW := gwp_8 (q := (⟨"BackVillageModel", "maskAt", "(II)I"⟩, 37)) (i := 9) (by decide +kernel)
theorem kw_122 : (Cond.selects "BackVillageModel" ⟨"BackVillageModel", "questionFor", "(I)I"⟩ ⟨"BackVillageModel", "questionFor", "(I)I"⟩) ∈ GW := gwp_8 (q := (⟨"BackVillageModel", "questionFor", "(I)I"⟩, 37)) (i := 10) (by decide +kernel)
theorem kw_123 : (Cond.selects "BackVillageModel" ⟨"BackVillageModel", "spills", "(I)I"⟩ ⟨"BackVillageModel", "spills", "(I)I"⟩) ∈ GW := gwp_8 (q := (⟨"BackVillageModel", "spills", "(I)I"⟩, 37)) (i := 11) (by decide +kernel)
theorem kw_124 : (Cond.selects "BackVillageModel" ⟨"BackVillageModel", "bestOf", "(II)I"⟩ ⟨"BackVillageModel", "bestOf", "(II)I"⟩) ∈ GW := gwp_8 (q := (⟨"BackVillageModel", "bestOf", "(II)I"⟩, 37)) (i := 12) (by decide +kernel)
theorem kw_125 : (Cond.selects "BackVillageModel" ⟨"BackVillageModel", "winBy", "(II)I"⟩ ⟨"BackVillageModel", "winBy", "(II)I"⟩) ∈ GW := gwp_8 (q := (⟨"BackVillageModel", "winBy", "(II)I"⟩, 37)) (i := 13) (by decide +kernel)
theorem kw_126 : (Cond.selects "BackVillageModel" ⟨"BackVillageModel", "keepsAll", "()V"⟩ ⟨"BackVillageModel", "keepsAll", "()V"⟩) ∈ GW := gwp_8 (q := (⟨"BackVillageModel", "keepsAll", "()V"⟩, 37)) (i := 14) (by decide +kernel)
theorem kw_127 : (Cond.selects "BackVillageModel" ⟨"BackVillageModel", "bringsBack", "()V"⟩ ⟨"BackVillageModel", "bringsBack", "()V"⟩) ∈ GW := gwp_8 (q := (⟨"BackVillageModel", "bringsBack", "()V"⟩, 37)) (i := 15) (by decide +kernel)
theorem kw_128 : (Cond.selects "BackVillageModel" ⟨"BackVillageModel", "laysVotes", "(I)V"⟩ ⟨"BackVillageModel", "laysVotes", "(I)V"⟩) ∈ GW := gwp_9 (q := (⟨"BackVillageModel", "laysVotes", "(I)V"⟩, 37)) (i := 0) (by decide +kernel)
theorem kw_129 : (Cond.selects "BackVillageModel" ⟨"BackVillageModel", "guessOf", "(II)I"⟩ ⟨"BackVillageModel", "guessOf", "(II)I"⟩) ∈ GW := gwp_9 (q := (⟨"BackVillageModel", "guessOf", "(II)I"⟩, 37)) (i := 1) (by decide +kernel)
theorem kw_130 : (Cond.selects "BackVillageModel" ⟨"BackVillageModel", "readThrees", "(IZ)Z"⟩ ⟨"BackVillageModel", "readThrees", "(IZ)Z"⟩) ∈ GW := gwp_9 (q := (⟨"BackVillageModel", "readThrees", "(IZ)Z"⟩, 37)) (i := 2) (by decide +kernel)
theorem kw_131 : (Cond.selects "BackVillageModel" ⟨"BackVillageModel", "canStand", "(II)Z"⟩ ⟨"BackVillageModel", "canStand", "(II)Z"⟩) ∈ GW := gwp_9 (q := (⟨"BackVillageModel", "canStand", "(II)Z"⟩, 37)) (i := 3) (by decide +kernel)
theorem kw_132 : (Cond.selects "BackVillageModel" ⟨"BackVillageModel", "liarsIn", "(I)I"⟩ ⟨"BackVillageModel", "liarsIn", "(I)I"⟩) ∈ GW := gwp_9 (q := (⟨"BackVillageModel", "liarsIn", "(I)I"⟩, 37)) (i := 4) (by decide +kernel)
theorem kw_133 : (Cond.selects "BackVillageModel" ⟨"BackVillageModel", "marries", "()V"⟩ ⟨"BackVillageModel", "marries", "()V"⟩) ∈ GW := gwp_9 (q := (⟨"BackVillageModel", "marries", "()V"⟩, 37)) (i := 5) (by decide +kernel)
theorem kw_134 : (Cond.selects "BackVillageModel" ⟨"BackVillageModel", "pairOf", "(III)I"⟩ ⟨"BackVillageModel", "pairOf", "(III)I"⟩) ∈ GW := gwp_9 (q := (⟨"BackVillageModel", "pairOf", "(III)I"⟩, 37)) (i := 6) (by decide +kernel)
theorem kw_135 : (Cond.selects "BackVillageModel" ⟨"BackVillageModel", "possibleAll", "(I)I"⟩ ⟨"BackVillageModel", "possibleAll", "(I)I"⟩) ∈ GW := gwp_9 (q := (⟨"BackVillageModel", "possibleAll", "(I)I"⟩, 37)) (i := 7) (by decide +kernel)
theorem kw_140 : (Cond.initialized "java/lang/Math") ∈ GW := gw_1 (i := 4) (by decide +kernel) rfl
theorem kw_148 : (Cond.initialized "BackVillageModel") ∈ GW := gw_1 (i := 12) (by decide +kernel) rfl
theorem kw_151 : (Cond.initialized "java/lang/String") ∈ GW := gw_1 (i := 15) (by decide +kernel) rfl
theorem kw_152 : (Cond.initialized "java/lang/StringLatin1") ∈ GW := gw_1 (i := 16) (by decide +kernel) rfl
theorem kw_153 : (Cond.initialized "jdk/internal/util/Preconditions") ∈ GW := gw_1 (i := 17) (by decide +kernel) rfl
theorem kw_163 : (Cond.initialized "java/lang/Integer") ∈ GW := gw_1 (i := 27) (by decide +kernel) rfl
theorem kw_191 : (Cond.static ⟨"java/lang/Math", "max", "(II)I"⟩) ∈ GW := gw_1 (i := 55) (by decide +kernel) rfl
theorem kw_192 : (Cond.code ⟨"java/lang/Math", "max", "(II)I"⟩ prog_26_method_65_code 2 (some .int)) ∈ GW := gw_1 (i := 56) (by decide +kernel) rfl
theorem kw_560 : (Cond.static ⟨"java/lang/Math", "min", "(II)I"⟩) ∈ GW := gw_2 (i := 184) (by decide +kernel) rfl
theorem kw_561 : (Cond.code ⟨"java/lang/Math", "min", "(II)I"⟩ prog_26_method_69_code 2 (some .int)) ∈ GW := gw_2 (i := 185) (by decide +kernel) rfl
theorem kw_730 : (Cond.fieldLink "java/lang/String" 1053 "jdk/internal/util/Preconditions" "SIOOBE_FORMATTER" "Ljava/util/function/BiFunction;") ∈ GW := gw_3 (i := 114) (by decide +kernel) rfl
theorem kw_745 : (Cond.instanceMethod ⟨"java/lang/String", "length", "()I"⟩) ∈ GW := gw_3 (i := 129) (by decide +kernel) rfl
theorem kw_746 : (Cond.selects "java/lang/String" ⟨"java/lang/String", "length", "()I"⟩ ⟨"java/lang/String", "length", "()I"⟩) ∈ GW := gw_3 (i := 130) (by decide +kernel) rfl
theorem kw_747 : (Cond.code ⟨"java/lang/String", "length", "()I"⟩ prog_29_method_54_code 1 (some .int)) ∈ GW := gw_3 (i := 131) (by decide +kernel) rfl
theorem kw_748 : (Cond.methodLink "java/lang/String" 335 ⟨"java/lang/String", "coder", "()B"⟩) ∈ GW := gw_3 (i := 132) (by decide +kernel) rfl
theorem kw_749 : (Cond.instanceMethod ⟨"java/lang/String", "coder", "()B"⟩) ∈ GW := gw_3 (i := 133) (by decide +kernel) rfl
theorem kw_750 : (Cond.selects "java/lang/String" ⟨"java/lang/String", "coder", "()B"⟩ ⟨"java/lang/String", "coder", "()B"⟩) ∈ GW := gw_3 (i := 134) (by decide +kernel) rfl
theorem kw_751 : (Cond.code ⟨"java/lang/String", "coder", "()B"⟩ prog_29_method_152_code 1 (some .byte)) ∈ GW := gw_3 (i := 135) (by decide +kernel) rfl
theorem kw_752 : (Cond.fieldLink "java/lang/String" 38 "java/lang/String" "COMPACT_STRINGS" "Z") ∈ GW := gw_3 (i := 136) (by decide +kernel) rfl
theorem kw_889 : (Cond.fieldLink "java/lang/String" 9 "java/lang/String" "value" "[B") ∈ GW := gw_4 (i := 33) (by decide +kernel) rfl
theorem kw_890 : (Cond.fieldLink "java/lang/String" 15 "java/lang/String" "coder" "B") ∈ GW := gw_4 (i := 34) (by decide +kernel) rfl
theorem kw_958 : (Cond.static ⟨"java/lang/Integer", "bitCount", "(I)I"⟩) ∈ GW := gw_4 (i := 102) (by decide +kernel) rfl
theorem kw_959 : (Cond.code ⟨"java/lang/Integer", "bitCount", "(I)I"⟩ prog_25_method_49_code 1 (some .int)) ∈ GW := gw_4 (i := 103) (by decide +kernel) rfl
theorem kw_960 : (Cond.constant "java/lang/Integer" 265 1431655765) ∈ GW := gw_4 (i := 104) (by decide +kernel) rfl
theorem kw_961 : (Cond.constant "java/lang/Integer" 266 858993459) ∈ GW := gw_4 (i := 105) (by decide +kernel) rfl
theorem kw_962 : (Cond.constant "java/lang/Integer" 267 252645135) ∈ GW := gw_4 (i := 106) (by decide +kernel) rfl
theorem kw_964 : (Cond.static ⟨"java/lang/Integer", "numberOfTrailingZeros", "(I)I"⟩) ∈ GW := gw_4 (i := 108) (by decide +kernel) rfl
theorem kw_965 : (Cond.code ⟨"java/lang/Integer", "numberOfTrailingZeros", "(I)I"⟩ prog_25_method_48_code 2 (some .int)) ∈ GW := gw_4 (i := 109) (by decide +kernel) rfl
theorem kw_966 : (Cond.constant "java/lang/Integer" 264 65536) ∈ GW := gw_4 (i := 110) (by decide +kernel) rfl
theorem kw_1124 : (Cond.instanceMethod ⟨"java/lang/String", "charAt", "(I)C"⟩) ∈ GW := gw_5 (i := 28) (by decide +kernel) rfl
theorem kw_1125 : (Cond.selects "java/lang/String" ⟨"java/lang/String", "charAt", "(I)C"⟩ ⟨"java/lang/String", "charAt", "(I)C"⟩) ∈ GW := gw_5 (i := 29) (by decide +kernel) rfl
theorem kw_1126 : (Cond.code ⟨"java/lang/String", "charAt", "(I)C"⟩ prog_29_method_56_code 2 (some .char)) ∈ GW := gw_5 (i := 30) (by decide +kernel) rfl
theorem kw_1127 : (Cond.methodLink "java/lang/String" 492 ⟨"java/lang/String", "isLatin1", "()Z"⟩) ∈ GW := gw_5 (i := 31) (by decide +kernel) rfl
theorem kw_1128 : (Cond.instanceMethod ⟨"java/lang/String", "isLatin1", "()Z"⟩) ∈ GW := gw_5 (i := 32) (by decide +kernel) rfl
theorem kw_1129 : (Cond.selects "java/lang/String" ⟨"java/lang/String", "isLatin1", "()Z"⟩ ⟨"java/lang/String", "isLatin1", "()Z"⟩) ∈ GW := gw_5 (i := 33) (by decide +kernel) rfl
theorem kw_1130 : (Cond.code ⟨"java/lang/String", "isLatin1", "()Z"⟩ prog_29_method_154_code 1 (some .boolean)) ∈ GW := gw_5 (i := 34) (by decide +kernel) rfl
theorem kw_1131 : (Cond.methodLink "java/lang/String" 495 ⟨"java/lang/StringLatin1", "charAt", "([BI)C"⟩) ∈ GW := gw_5 (i := 35) (by decide +kernel) rfl
theorem kw_1132 : (Cond.static ⟨"java/lang/StringLatin1", "charAt", "([BI)C"⟩) ∈ GW := gw_5 (i := 36) (by decide +kernel) rfl
theorem kw_1133 : (Cond.code ⟨"java/lang/StringLatin1", "charAt", "([BI)C"⟩ prog_31_method_2_code 2 (some .char)) ∈ GW := gw_5 (i := 37) (by decide +kernel) rfl
theorem kw_1134 : (Cond.methodLink "java/lang/StringLatin1" 9 ⟨"java/lang/String", "checkIndex", "(II)V"⟩) ∈ GW := gw_5 (i := 38) (by decide +kernel) rfl
theorem kw_1135 : (Cond.static ⟨"java/lang/String", "checkIndex", "(II)V"⟩) ∈ GW := gw_5 (i := 39) (by decide +kernel) rfl
theorem kw_1136 : (Cond.code ⟨"java/lang/String", "checkIndex", "(II)V"⟩ prog_29_method_155_code 2 none) ∈ GW := gw_5 (i := 40) (by decide +kernel) rfl
theorem kw_1137 : (Cond.methodLink "java/lang/String" 1059 ⟨"jdk/internal/util/Preconditions", "checkIndex", "(IILjava/util/function/BiFunction;)I"⟩) ∈ GW := gw_5 (i := 41) (by decide +kernel) rfl
theorem kw_1138 : (Cond.static ⟨"jdk/internal/util/Preconditions", "checkIndex", "(IILjava/util/function/BiFunction;)I"⟩) ∈ GW := gw_5 (i := 42) (by decide +kernel) rfl
theorem kw_1139 : (Cond.code ⟨"jdk/internal/util/Preconditions", "checkIndex", "(IILjava/util/function/BiFunction;)I"⟩ prog_41_method_11_code 3 (some .int)) ∈ GW := gw_5 (i := 43) (by decide +kernel) rfl
theorem kw_2027 : (Cond.fieldLink "BackVillageModel" 3 "BackVillageModel" "thrown" "I") ∈ GW := gw_8 (i := 211) (by decide +kernel) rfl
theorem kw_2028 : (Cond.fieldLink "BackVillageModel" 13 "BackVillageModel" "world" "[I") ∈ GW := gw_8 (i := 212) (by decide +kernel) rfl
theorem kw_2029 : (Cond.fieldLink "BackVillageModel" 17 "BackVillageModel" "image" "[I") ∈ GW := gw_8 (i := 213) (by decide +kernel) rfl
theorem kw_2030 : (Cond.fieldLink "BackVillageModel" 20 "BackVillageModel" "before" "[I") ∈ GW := gw_8 (i := 214) (by decide +kernel) rfl
theorem kw_2031 : (Cond.fieldLink "BackVillageModel" 23 "BackVillageModel" "trial" "[I") ∈ GW := gw_8 (i := 215) (by decide +kernel) rfl
theorem kw_2032 : (Cond.fieldLink "BackVillageModel" 27 "BackVillageModel" "acts" "[I") ∈ GW := gw_8 (i := 216) (by decide +kernel) rfl
theorem kw_2033 : (Cond.fieldLink "BackVillageModel" 95 "BackVillageModel" "hasImage" "Z") ∈ GW := gw_8 (i := 217) (by decide +kernel) rfl
theorem kw_2034 : (Cond.fieldLink "BackVillageModel" 99 "BackVillageModel" "remembered" "I") ∈ GW := gw_8 (i := 218) (by decide +kernel) rfl
theorem kw_2035 : (Cond.fieldLink "BackVillageModel" 30 "BackVillageModel" "mask" "[I") ∈ GW := gw_8 (i := 219) (by decide +kernel) rfl
theorem kw_2036 : (Cond.fieldLink "BackVillageModel" 33 "BackVillageModel" "came" "[I") ∈ GW := gw_8 (i := 220) (by decide +kernel) rfl
theorem kw_2037 : (Cond.fieldLink "BackVillageModel" 36 "BackVillageModel" "renewed" "[I") ∈ GW := gw_8 (i := 221) (by decide +kernel) rfl
theorem kw_2038 : (Cond.fieldLink "BackVillageModel" 39 "BackVillageModel" "tape" "[B") ∈ GW := gw_8 (i := 222) (by decide +kernel) rfl
theorem kw_2039 : (Cond.fieldLink "BackVillageModel" 156 "BackVillageModel" "taped" "I") ∈ GW := gw_8 (i := 223) (by decide +kernel) rfl
theorem kw_2040 : (Cond.fieldLink "BackVillageModel" 159 "BackVillageModel" "point" "I") ∈ GW := gw_8 (i := 224) (by decide +kernel) rfl
theorem kw_2041 : (Cond.fieldLink "BackVillageModel" 162 "BackVillageModel" "end" "I") ∈ GW := gw_8 (i := 225) (by decide +kernel) rfl
theorem kw_2042 : (Cond.fieldLink "BackVillageModel" 168 "BackVillageModel" "begin" "I") ∈ GW := gw_8 (i := 226) (by decide +kernel) rfl
theorem kw_2043 : (Cond.fieldLink "BackVillageModel" 273 "BackVillageModel" "deep" "I") ∈ GW := gw_8 (i := 227) (by decide +kernel) rfl
theorem kw_2044 : (Cond.fieldLink "BackVillageModel" 43 "BackVillageModel" "faultAt" "I") ∈ GW := gw_8 (i := 228) (by decide +kernel) rfl
theorem kw_2045 : (Cond.fieldLink "BackVillageModel" 46 "BackVillageModel" "five" "[I") ∈ GW := gw_8 (i := 229) (by decide +kernel) rfl
theorem kw_2046 : (Cond.fieldLink "BackVillageModel" 200 "BackVillageModel" "one" "I") ∈ GW := gw_8 (i := 230) (by decide +kernel) rfl
theorem kw_2047 : (Cond.fieldLink "BackVillageModel" 203 "BackVillageModel" "two" "I") ∈ GW := gw_8 (i := 231) (by decide +kernel) rfl
theorem kw_2048 : (Cond.fieldLink "BackVillageModel" 253 "BackVillageModel" "steps" "I") ∈ GW := gw_8 (i := 232) (by decide +kernel) rfl
theorem kw_2049 : (Cond.fieldLink "BackVillageModel" 49 "BackVillageModel" "value" "[I") ∈ GW := gw_8 (i := 233) (by decide +kernel) rfl
theorem kw_2050 : (Cond.fieldLink "BackVillageModel" 52 "BackVillageModel" "manners" "[I") ∈ GW := gw_8 (i := 234) (by decide +kernel) rfl
theorem kw_2051 : (Cond.fieldLink "BackVillageModel" 55 "BackVillageModel" "alikes" "[I") ∈ GW := gw_8 (i := 235) (by decide +kernel) rfl
theorem kw_2052 : (Cond.fieldLink "BackVillageModel" 58 "BackVillageModel" "come" "[Z") ∈ GW := gw_8 (i := 236) (by decide +kernel) rfl
theorem kw_2053 : (Cond.fieldLink "BackVillageModel" 62 "BackVillageModel" "gone" "[Z") ∈ GW := gw_8 (i := 237) (by decide +kernel) rfl
theorem kw_2054 : (Cond.fieldLink "BackVillageModel" 65 "BackVillageModel" "leftOne" "[I") ∈ GW := gw_8 (i := 238) (by decide +kernel) rfl
theorem kw_2055 : (Cond.fieldLink "BackVillageModel" 68 "BackVillageModel" "leftTwo" "[I") ∈ GW := gw_8 (i := 239) (by decide +kernel) rfl
theorem kw_2056 : (Cond.fieldLink "BackVillageModel" 71 "BackVillageModel" "masks" "[I") ∈ GW := gw_9 (i := 0) (by decide +kernel) rfl
theorem kw_2057 : (Cond.fieldLink "BackVillageModel" 74 "BackVillageModel" "ends" "[Z") ∈ GW := gw_9 (i := 1) (by decide +kernel) rfl
theorem kw_2058 : (Cond.fieldLink "BackVillageModel" 77 "BackVillageModel" "wins" "[I") ∈ GW := gw_9 (i := 2) (by decide +kernel) rfl
theorem kw_2059 : (Cond.fieldLink "BackVillageModel" 80 "BackVillageModel" "votes" "[I") ∈ GW := gw_9 (i := 3) (by decide +kernel) rfl
theorem kw_2060 : (Cond.fieldLink "BackVillageModel" 83 "BackVillageModel" "ahead" "[I") ∈ GW := gw_9 (i := 4) (by decide +kernel) rfl
theorem kw_2061 : (Cond.fieldLink "BackVillageModel" 86 "BackVillageModel" "orders" "[I") ∈ GW := gw_9 (i := 5) (by decide +kernel) rfl
theorem kw_2062 : (Cond.fieldLink "BackVillageModel" 89 "BackVillageModel" "knowing" "[I") ∈ GW := gw_9 (i := 6) (by decide +kernel) rfl
theorem kw_2063 : (Cond.fieldLink "BackVillageModel" 92 "BackVillageModel" "pairs" "[I") ∈ GW := gw_9 (i := 7) (by decide +kernel) rfl
theorem kw_2064 : (Cond.lays "BackVillageModel" "BackVillageModel" "thrown" "I") ∈ GW := gw_9 (i := 8) (by decide +kernel) rfl
theorem kw_2066 : (Cond.laysFinal "BackVillageModel" "BackVillageModel" "world" "[I") ∈ GW := gw_9 (i := 10) (by decide +kernel) rfl
theorem kw_2068 : (Cond.laysFinal "BackVillageModel" "BackVillageModel" "image" "[I") ∈ GW := gw_9 (i := 12) (by decide +kernel) rfl
theorem kw_2070 : (Cond.laysFinal "BackVillageModel" "BackVillageModel" "before" "[I") ∈ GW := gw_9 (i := 14) (by decide +kernel) rfl
theorem kw_2072 : (Cond.laysFinal "BackVillageModel" "BackVillageModel" "trial" "[I") ∈ GW := gw_9 (i := 16) (by decide +kernel) rfl
theorem kw_2074 : (Cond.laysFinal "BackVillageModel" "BackVillageModel" "acts" "[I") ∈ GW := gw_9 (i := 18) (by decide +kernel) rfl
theorem kw_2076 : (Cond.lays "BackVillageModel" "BackVillageModel" "hasImage" "Z") ∈ GW := gw_9 (i := 20) (by decide +kernel) rfl
theorem kw_2078 : (Cond.lays "BackVillageModel" "BackVillageModel" "remembered" "I") ∈ GW := gw_9 (i := 22) (by decide +kernel) rfl
theorem kw_2080 : (Cond.laysFinal "BackVillageModel" "BackVillageModel" "mask" "[I") ∈ GW := gw_9 (i := 24) (by decide +kernel) rfl
theorem kw_2082 : (Cond.laysFinal "BackVillageModel" "BackVillageModel" "came" "[I") ∈ GW := gw_9 (i := 26) (by decide +kernel) rfl
theorem kw_2084 : (Cond.laysFinal "BackVillageModel" "BackVillageModel" "renewed" "[I") ∈ GW := gw_9 (i := 28) (by decide +kernel) rfl
theorem kw_2086 : (Cond.laysFinal "BackVillageModel" "BackVillageModel" "tape" "[B") ∈ GW := gw_9 (i := 30) (by decide +kernel) rfl
theorem kw_2088 : (Cond.lays "BackVillageModel" "BackVillageModel" "taped" "I") ∈ GW := gw_9 (i := 32) (by decide +kernel) rfl
theorem kw_2090 : (Cond.lays "BackVillageModel" "BackVillageModel" "point" "I") ∈ GW := gw_9 (i := 34) (by decide +kernel) rfl
theorem kw_2092 : (Cond.lays "BackVillageModel" "BackVillageModel" "end" "I") ∈ GW := gw_9 (i := 36) (by decide +kernel) rfl
theorem kw_2094 : (Cond.lays "BackVillageModel" "BackVillageModel" "begin" "I") ∈ GW := gw_9 (i := 38) (by decide +kernel) rfl
theorem kw_2096 : (Cond.lays "BackVillageModel" "BackVillageModel" "deep" "I") ∈ GW := gw_9 (i := 40) (by decide +kernel) rfl
theorem kw_2098 : (Cond.lays "BackVillageModel" "BackVillageModel" "faultAt" "I") ∈ GW := gw_9 (i := 42) (by decide +kernel) rfl
theorem kw_2100 : (Cond.laysFinal "BackVillageModel" "BackVillageModel" "five" "[I") ∈ GW := gw_9 (i := 44) (by decide +kernel) rfl
theorem kw_2102 : (Cond.lays "BackVillageModel" "BackVillageModel" "one" "I") ∈ GW := gw_9 (i := 46) (by decide +kernel) rfl
theorem kw_2104 : (Cond.lays "BackVillageModel" "BackVillageModel" "two" "I") ∈ GW := gw_9 (i := 48) (by decide +kernel) rfl
theorem kw_2106 : (Cond.lays "BackVillageModel" "BackVillageModel" "steps" "I") ∈ GW := gw_9 (i := 50) (by decide +kernel) rfl
theorem kw_2108 : (Cond.laysFinal "BackVillageModel" "BackVillageModel" "value" "[I") ∈ GW := gw_9 (i := 52) (by decide +kernel) rfl
theorem kw_2110 : (Cond.laysFinal "BackVillageModel" "BackVillageModel" "manners" "[I") ∈ GW := gw_9 (i := 54) (by decide +kernel) rfl
theorem kw_2112 : (Cond.laysFinal "BackVillageModel" "BackVillageModel" "alikes" "[I") ∈ GW := gw_9 (i := 56) (by decide +kernel) rfl
theorem kw_2114 : (Cond.laysFinal "BackVillageModel" "BackVillageModel" "come" "[Z") ∈ GW := gw_9 (i := 58) (by decide +kernel) rfl
theorem kw_2116 : (Cond.laysFinal "BackVillageModel" "BackVillageModel" "gone" "[Z") ∈ GW := gw_9 (i := 60) (by decide +kernel) rfl
theorem kw_2118 : (Cond.laysFinal "BackVillageModel" "BackVillageModel" "leftOne" "[I") ∈ GW := gw_9 (i := 62) (by decide +kernel) rfl
theorem kw_2120 : (Cond.laysFinal "BackVillageModel" "BackVillageModel" "leftTwo" "[I") ∈ GW := gw_9 (i := 64) (by decide +kernel) rfl
theorem kw_2122 : (Cond.laysFinal "BackVillageModel" "BackVillageModel" "masks" "[I") ∈ GW := gw_9 (i := 66) (by decide +kernel) rfl
theorem kw_2124 : (Cond.laysFinal "BackVillageModel" "BackVillageModel" "ends" "[Z") ∈ GW := gw_9 (i := 68) (by decide +kernel) rfl
theorem kw_2126 : (Cond.laysFinal "BackVillageModel" "BackVillageModel" "wins" "[I") ∈ GW := gw_9 (i := 70) (by decide +kernel) rfl
theorem kw_2128 : (Cond.laysFinal "BackVillageModel" "BackVillageModel" "votes" "[I") ∈ GW := gw_9 (i := 72) (by decide +kernel) rfl
theorem kw_2130 : (Cond.laysFinal "BackVillageModel" "BackVillageModel" "ahead" "[I") ∈ GW := gw_9 (i := 74) (by decide +kernel) rfl
theorem kw_2132 : (Cond.laysFinal "BackVillageModel" "BackVillageModel" "orders" "[I") ∈ GW := gw_9 (i := 76) (by decide +kernel) rfl
theorem kw_2134 : (Cond.laysFinal "BackVillageModel" "BackVillageModel" "knowing" "[I") ∈ GW := gw_9 (i := 78) (by decide +kernel) rfl
theorem kw_2136 : (Cond.laysFinal "BackVillageModel" "BackVillageModel" "pairs" "[I") ∈ GW := gw_9 (i := 80) (by decide +kernel) rfl
theorem kw_2168 : (Cond.methodLink "BackVillageModel" 318 ⟨"BackVillageModel", "readAll", "(Z)I"⟩) ∈ GW := gw_9 (i := 112) (by decide +kernel) rfl
theorem kw_2170 : (Cond.instanceMethod ⟨"BackVillageModel", "readAll", "(Z)I"⟩) ∈ GW := gw_9 (i := 114) (by decide +kernel) rfl
theorem kw_2171 : (Cond.code ⟨"BackVillageModel", "readAll", "(Z)I"⟩ prog_13_method_60_code 3 (some .int)) ∈ GW := gw_9 (i := 115) (by decide +kernel) rfl
theorem kw_2172 : (Cond.methodLink "BackVillageModel" 311 ⟨"BackVillageModel", "uses", "()V"⟩) ∈ GW := gw_9 (i := 116) (by decide +kernel) rfl
theorem kw_2174 : (Cond.instanceMethod ⟨"BackVillageModel", "uses", "()V"⟩) ∈ GW := gw_9 (i := 118) (by decide +kernel) rfl
theorem kw_2175 : (Cond.code ⟨"BackVillageModel", "uses", "()V"⟩ prog_13_method_41_code 1 none) ∈ GW := gw_9 (i := 119) (by decide +kernel) rfl
theorem kw_2176 : (Cond.methodLink "BackVillageModel" 171 ⟨"BackVillageModel", "blanks", "()V"⟩) ∈ GW := gw_9 (i := 120) (by decide +kernel) rfl
theorem kw_2178 : (Cond.instanceMethod ⟨"BackVillageModel", "blanks", "()V"⟩) ∈ GW := gw_9 (i := 122) (by decide +kernel) rfl
theorem kw_2179 : (Cond.code ⟨"BackVillageModel", "blanks", "()V"⟩ prog_13_method_33_code 1 none) ∈ GW := gw_9 (i := 123) (by decide +kernel) rfl
theorem kw_2180 : (Cond.methodLink "BackVillageModel" 165 ⟨"BackVillageModel", "isAt", "(II)Z"⟩) ∈ GW := gw_9 (i := 124) (by decide +kernel) rfl
theorem kw_2182 : (Cond.instanceMethod ⟨"BackVillageModel", "isAt", "(II)Z"⟩) ∈ GW := gw_9 (i := 126) (by decide +kernel) rfl
theorem kw_2183 : (Cond.code ⟨"BackVillageModel", "isAt", "(II)Z"⟩ prog_13_method_32_code 3 (some .boolean)) ∈ GW := gw_9 (i := 127) (by decide +kernel) rfl
theorem kw_2184 : (Cond.methodLink "BackVillageModel" 314 ⟨"BackVillageModel", "readLine", "(ZI)Z"⟩) ∈ GW := gw_9 (i := 128) (by decide +kernel) rfl
theorem kw_2186 : (Cond.instanceMethod ⟨"BackVillageModel", "readLine", "(ZI)Z"⟩) ∈ GW := gw_9 (i := 130) (by decide +kernel) rfl
theorem kw_2187 : (Cond.code ⟨"BackVillageModel", "readLine", "(ZI)Z"⟩ prog_13_method_59_code 3 (some .boolean)) ∈ GW := gw_9 (i := 131) (by decide +kernel) rfl
theorem kw_2188 : (Cond.methodLink "BackVillageModel" 183 ⟨"BackVillageModel", "letters", "()V"⟩) ∈ GW := gw_9 (i := 132) (by decide +kernel) rfl
theorem kw_2190 : (Cond.instanceMethod ⟨"BackVillageModel", "letters", "()V"⟩) ∈ GW := gw_9 (i := 134) (by decide +kernel) rfl
theorem kw_2191 : (Cond.code ⟨"BackVillageModel", "letters", "()V"⟩ prog_13_method_34_code 1 none) ∈ GW := gw_9 (i := 135) (by decide +kernel) rfl
theorem kw_2192 : (Cond.methodLink "BackVillageModel" 305 ⟨"BackVillageModel", "readVillageLine", "()Z"⟩) ∈ GW := gw_9 (i := 136) (by decide +kernel) rfl
theorem kw_2194 : (Cond.instanceMethod ⟨"BackVillageModel", "readVillageLine", "()Z"⟩) ∈ GW := gw_9 (i := 138) (by decide +kernel) rfl
theorem kw_2195 : (Cond.code ⟨"BackVillageModel", "readVillageLine", "()Z"⟩ prog_13_method_51_code 5 (some .boolean)) ∈ GW := gw_9 (i := 139) (by decide +kernel) rfl
theorem kw_2197 : (Cond.methodLink "BackVillageModel" 186 ⟨"BackVillageModel", "isWord", "(Ljava/lang/String;)Z"⟩) ∈ GW := gw_9 (i := 141) (by decide +kernel) rfl
theorem kw_2199 : (Cond.instanceMethod ⟨"BackVillageModel", "isWord", "(Ljava/lang/String;)Z"⟩) ∈ GW := gw_9 (i := 143) (by decide +kernel) rfl
theorem kw_2200 : (Cond.code ⟨"BackVillageModel", "isWord", "(Ljava/lang/String;)Z"⟩ prog_13_method_35_code 4 (some .boolean)) ∈ GW := gw_9 (i := 144) (by decide +kernel) rfl
theorem kw_2201 : (Cond.methodLink "BackVillageModel" 174 ⟨"java/lang/String", "length", "()I"⟩) ∈ GW := gw_9 (i := 145) (by decide +kernel) rfl
theorem kw_2202 : (Cond.methodLink "BackVillageModel" 179 ⟨"java/lang/String", "charAt", "(I)C"⟩) ∈ GW := gw_9 (i := 146) (by decide +kernel) rfl
theorem kw_2203 : (Cond.methodLink "BackVillageModel" 225 ⟨"BackVillageModel", "readValues", "()Z"⟩) ∈ GW := gw_9 (i := 147) (by decide +kernel) rfl
theorem kw_2205 : (Cond.instanceMethod ⟨"BackVillageModel", "readValues", "()Z"⟩) ∈ GW := gw_9 (i := 149) (by decide +kernel) rfl
theorem kw_2206 : (Cond.code ⟨"BackVillageModel", "readValues", "()Z"⟩ prog_13_method_44_code 2 (some .boolean)) ∈ GW := gw_9 (i := 150) (by decide +kernel) rfl
theorem kw_2207 : (Cond.methodLink "BackVillageModel" 193 ⟨"BackVillageModel", "isEarly", "()Z"⟩) ∈ GW := gw_9 (i := 151) (by decide +kernel) rfl
theorem kw_2209 : (Cond.instanceMethod ⟨"BackVillageModel", "isEarly", "()Z"⟩) ∈ GW := gw_9 (i := 153) (by decide +kernel) rfl
theorem kw_2210 : (Cond.code ⟨"BackVillageModel", "isEarly", "()Z"⟩ prog_13_method_43_code 1 (some .boolean)) ∈ GW := gw_9 (i := 154) (by decide +kernel) rfl
theorem kw_2211 : (Cond.methodLink "BackVillageModel" 107 ⟨"BackVillageModel", "people", "()I"⟩) ∈ GW := gw_9 (i := 155) (by decide +kernel) rfl
theorem kw_2213 : (Cond.instanceMethod ⟨"BackVillageModel", "people", "()I"⟩) ∈ GW := gw_9 (i := 157) (by decide +kernel) rfl
theorem kw_2214 : (Cond.code ⟨"BackVillageModel", "people", "()I"⟩ prog_13_method_11_code 1 (some .int)) ∈ GW := gw_9 (i := 158) (by decide +kernel) rfl
theorem kw_2215 : (Cond.methodLink "BackVillageModel" 190 ⟨"BackVillageModel", "number", "(II)I"⟩) ∈ GW := gw_9 (i := 159) (by decide +kernel) rfl
theorem kw_2217 : (Cond.instanceMethod ⟨"BackVillageModel", "number", "(II)I"⟩) ∈ GW := gw_9 (i := 161) (by decide +kernel) rfl
theorem kw_2218 : (Cond.code ⟨"BackVillageModel", "number", "(II)I"⟩ prog_13_method_38_code 4 (some .int)) ∈ GW := gw_9 (i := 162) (by decide +kernel) rfl
theorem kw_2220 : (Cond.methodLink "BackVillageModel" 230 ⟨"BackVillageModel", "readPerson", "()Z"⟩) ∈ GW := gw_9 (i := 164) (by decide +kernel) rfl
theorem kw_2222 : (Cond.instanceMethod ⟨"BackVillageModel", "readPerson", "()Z"⟩) ∈ GW := gw_9 (i := 166) (by decide +kernel) rfl
theorem kw_2223 : (Cond.code ⟨"BackVillageModel", "readPerson", "()Z"⟩ prog_13_method_45_code 3 (some .boolean)) ∈ GW := gw_9 (i := 167) (by decide +kernel) rfl
theorem kw_2224 : (Cond.methodLink "BackVillageModel" 115 ⟨"BackVillageModel", "worlds", "()I"⟩) ∈ GW := gw_9 (i := 168) (by decide +kernel) rfl
theorem kw_2226 : (Cond.instanceMethod ⟨"BackVillageModel", "worlds", "()I"⟩) ∈ GW := gw_9 (i := 170) (by decide +kernel) rfl
theorem kw_2227 : (Cond.code ⟨"BackVillageModel", "worlds", "()I"⟩ prog_13_method_12_code 1 (some .int)) ∈ GW := gw_9 (i := 171) (by decide +kernel) rfl
theorem kw_2228 : (Cond.methodLink "BackVillageModel" 118 ⟨"BackVillageModel", "values", "()I"⟩) ∈ GW := gw_9 (i := 172) (by decide +kernel) rfl
theorem kw_2230 : (Cond.instanceMethod ⟨"BackVillageModel", "values", "()I"⟩) ∈ GW := gw_9 (i := 174) (by decide +kernel) rfl
theorem kw_2231 : (Cond.code ⟨"BackVillageModel", "values", "()I"⟩ prog_13_method_10_code 1 (some .int)) ∈ GW := gw_9 (i := 175) (by decide +kernel) rfl
theorem kw_2237 : (Cond.methodLink "BackVillageModel" 243 ⟨"BackVillageModel", "readMany", "(Z)Z"⟩) ∈ GW := gw_9 (i := 181) (by decide +kernel) rfl
theorem kw_2239 : (Cond.instanceMethod ⟨"BackVillageModel", "readMany", "(Z)Z"⟩) ∈ GW := gw_9 (i := 183) (by decide +kernel) rfl
theorem kw_2240 : (Cond.code ⟨"BackVillageModel", "readMany", "(Z)Z"⟩ prog_13_method_49_code 6 (some .boolean)) ∈ GW := gw_9 (i := 184) (by decide +kernel) rfl
theorem kw_2242 : (Cond.methodLink "BackVillageModel" 211 ⟨"BackVillageModel", "after", "(Ljava/lang/String;II)I"⟩) ∈ GW := gw_9 (i := 186) (by decide +kernel) rfl
theorem kw_2244 : (Cond.instanceMethod ⟨"BackVillageModel", "after", "(Ljava/lang/String;II)I"⟩) ∈ GW := gw_9 (i := 188) (by decide +kernel) rfl
theorem kw_2245 : (Cond.code ⟨"BackVillageModel", "after", "(Ljava/lang/String;II)I"⟩ prog_13_method_39_code 4 (some .int)) ∈ GW := gw_9 (i := 189) (by decide +kernel) rfl
theorem kw_2246 : (Cond.methodLink "BackVillageModel" 215 ⟨"BackVillageModel", "haveIn", "(II)I"⟩) ∈ GW := gw_9 (i := 190) (by decide +kernel) rfl
theorem kw_2248 : (Cond.instanceMethod ⟨"BackVillageModel", "haveIn", "(II)I"⟩) ∈ GW := gw_9 (i := 192) (by decide +kernel) rfl
theorem kw_2249 : (Cond.code ⟨"BackVillageModel", "haveIn", "(II)I"⟩ prog_13_method_47_code 5 (some .int)) ∈ GW := gw_9 (i := 193) (by decide +kernel) rfl
theorem kw_2250 : (Cond.methodLink "BackVillageModel" 124 ⟨"BackVillageModel", "noticeIn", "(II)I"⟩) ∈ GW := gw_9 (i := 194) (by decide +kernel) rfl
theorem kw_2252 : (Cond.instanceMethod ⟨"BackVillageModel", "noticeIn", "(II)I"⟩) ∈ GW := gw_9 (i := 196) (by decide +kernel) rfl
theorem kw_2253 : (Cond.code ⟨"BackVillageModel", "noticeIn", "(II)I"⟩ prog_13_method_19_code 5 (some .int)) ∈ GW := gw_9 (i := 197) (by decide +kernel) rfl
theorem kw_2254 : (Cond.methodLink "BackVillageModel" 218 ⟨"BackVillageModel", "isSo", "(I)Z"⟩) ∈ GW := gw_9 (i := 198) (by decide +kernel) rfl
theorem kw_2256 : (Cond.instanceMethod ⟨"BackVillageModel", "isSo", "(I)Z"⟩) ∈ GW := gw_9 (i := 200) (by decide +kernel) rfl
theorem kw_2257 : (Cond.code ⟨"BackVillageModel", "isSo", "(I)Z"⟩ prog_13_method_48_code 2 (some .boolean)) ∈ GW := gw_9 (i := 201) (by decide +kernel) rfl
theorem kw_2258 : (Cond.methodLink "BackVillageModel" 121 ⟨"BackVillageModel", "here", "()I"⟩) ∈ GW := gw_9 (i := 202) (by decide +kernel) rfl
theorem kw_2260 : (Cond.instanceMethod ⟨"BackVillageModel", "here", "()I"⟩) ∈ GW := gw_9 (i := 204) (by decide +kernel) rfl
theorem kw_2261 : (Cond.code ⟨"BackVillageModel", "here", "()I"⟩ prog_13_method_13_code 1 (some .int)) ∈ GW := gw_9 (i := 205) (by decide +kernel) rfl
theorem kw_2262 : (Cond.methodLink "BackVillageModel" 206 ⟨"BackVillageModel", "drops", "()V"⟩) ∈ GW := gw_9 (i := 206) (by decide +kernel) rfl
theorem kw_2264 : (Cond.instanceMethod ⟨"BackVillageModel", "drops", "()V"⟩) ∈ GW := gw_9 (i := 208) (by decide +kernel) rfl
theorem kw_2265 : (Cond.code ⟨"BackVillageModel", "drops", "()V"⟩ prog_13_method_27_code 2 none) ∈ GW := gw_9 (i := 209) (by decide +kernel) rfl
theorem kw_2266 : (Cond.methodLink "BackVillageModel" 247 ⟨"BackVillageModel", "readAlike", "(Z)Z"⟩) ∈ GW := gw_9 (i := 210) (by decide +kernel) rfl
theorem kw_2268 : (Cond.instanceMethod ⟨"BackVillageModel", "readAlike", "(Z)Z"⟩) ∈ GW := gw_9 (i := 212) (by decide +kernel) rfl
theorem kw_2269 : (Cond.code ⟨"BackVillageModel", "readAlike", "(Z)Z"⟩ prog_13_method_50_code 4 (some .boolean)) ∈ GW := gw_9 (i := 213) (by decide +kernel) rfl
theorem kw_2270 : (Cond.methodLink "BackVillageModel" 221 ⟨"BackVillageModel", "readTwo", "()Z"⟩) ∈ GW := gw_9 (i := 214) (by decide +kernel) rfl
theorem kw_2272 : (Cond.instanceMethod ⟨"BackVillageModel", "readTwo", "()Z"⟩) ∈ GW := gw_9 (i := 216) (by decide +kernel) rfl
theorem kw_2273 : (Cond.code ⟨"BackVillageModel", "readTwo", "()Z"⟩ prog_13_method_46_code 1 (some .boolean)) ∈ GW := gw_9 (i := 217) (by decide +kernel) rfl
theorem kw_2274 : (Cond.methodLink "BackVillageModel" 197 ⟨"BackVillageModel", "personTold", "()I"⟩) ∈ GW := gw_9 (i := 218) (by decide +kernel) rfl
theorem kw_2276 : (Cond.instanceMethod ⟨"BackVillageModel", "personTold", "()I"⟩) ∈ GW := gw_9 (i := 220) (by decide +kernel) rfl
theorem kw_2277 : (Cond.code ⟨"BackVillageModel", "personTold", "()I"⟩ prog_13_method_42_code 1 (some .int)) ∈ GW := gw_9 (i := 221) (by decide +kernel) rfl
theorem kw_2278 : (Cond.methodLink "BackVillageModel" 250 ⟨"BackVillageModel", "seesFrom", "(II)V"⟩) ∈ GW := gw_9 (i := 222) (by decide +kernel) rfl
theorem kw_2280 : (Cond.instanceMethod ⟨"BackVillageModel", "seesFrom", "(II)V"⟩) ∈ GW := gw_9 (i := 224) (by decide +kernel) rfl
theorem kw_2281 : (Cond.code ⟨"BackVillageModel", "seesFrom", "(II)V"⟩ prog_13_method_29_code 3 none) ∈ GW := gw_9 (i := 225) (by decide +kernel) rfl
theorem kw_2282 : (Cond.methodLink "BackVillageModel" 149 ⟨"BackVillageModel", "noticesCome", "(I)V"⟩) ∈ GW := gw_9 (i := 226) (by decide +kernel) rfl
theorem kw_2284 : (Cond.instanceMethod ⟨"BackVillageModel", "noticesCome", "(I)V"⟩) ∈ GW := gw_9 (i := 228) (by decide +kernel) rfl
theorem kw_2285 : (Cond.code ⟨"BackVillageModel", "noticesCome", "(I)V"⟩ prog_13_method_28_code 3 none) ∈ GW := gw_9 (i := 229) (by decide +kernel) rfl
theorem kw_2286 : (Cond.methodLink "BackVillageModel" 153 ⟨"BackVillageModel", "parts", "(I)V"⟩) ∈ GW := gw_9 (i := 230) (by decide +kernel) rfl
theorem kw_2288 : (Cond.instanceMethod ⟨"BackVillageModel", "parts", "(I)V"⟩) ∈ GW := gw_9 (i := 232) (by decide +kernel) rfl
theorem kw_2289 : (Cond.code ⟨"BackVillageModel", "parts", "(I)V"⟩ prog_13_method_26_code 5 none) ∈ GW := gw_9 (i := 233) (by decide +kernel) rfl
theorem kw_2290 : (Cond.methodLink "BackVillageModel" 128 ⟨"BackVillageModel", "isLeft", "(I)Z"⟩) ∈ GW := gw_9 (i := 234) (by decide +kernel) rfl
theorem kw_2292 : (Cond.instanceMethod ⟨"BackVillageModel", "isLeft", "(I)Z"⟩) ∈ GW := gw_9 (i := 236) (by decide +kernel) rfl
theorem kw_2293 : (Cond.code ⟨"BackVillageModel", "isLeft", "(I)Z"⟩ prog_13_method_14_code 2 (some .boolean)) ∈ GW := gw_9 (i := 237) (by decide +kernel) rfl
theorem kw_2294 : (Cond.methodLink "BackVillageModel" 132 ⟨"BackVillageModel", "label", "(II)I"⟩) ∈ GW := gw_9 (i := 238) (by decide +kernel) rfl
theorem kw_2296 : (Cond.instanceMethod ⟨"BackVillageModel", "label", "(II)I"⟩) ∈ GW := gw_10 (i := 0) (by decide +kernel) rfl
theorem kw_2297 : (Cond.code ⟨"BackVillageModel", "label", "(II)I"⟩ prog_13_method_15_code 3 (some .int)) ∈ GW := gw_10 (i := 1) (by decide +kernel) rfl
theorem kw_2298 : (Cond.methodLink "BackVillageModel" 308 ⟨"BackVillageModel", "readLawLine", "(I)Z"⟩) ∈ GW := gw_10 (i := 2) (by decide +kernel) rfl
theorem kw_2300 : (Cond.instanceMethod ⟨"BackVillageModel", "readLawLine", "(I)Z"⟩) ∈ GW := gw_10 (i := 4) (by decide +kernel) rfl
theorem kw_2301 : (Cond.code ⟨"BackVillageModel", "readLawLine", "(I)Z"⟩ prog_13_method_58_code 3 (some .boolean)) ∈ GW := gw_10 (i := 5) (by decide +kernel) rfl
theorem kw_2304 : (Cond.methodLink "BackVillageModel" 281 ⟨"BackVillageModel", "passes", "(Ljava/lang/String;)Z"⟩) ∈ GW := gw_10 (i := 8) (by decide +kernel) rfl
theorem kw_2306 : (Cond.instanceMethod ⟨"BackVillageModel", "passes", "(Ljava/lang/String;)Z"⟩) ∈ GW := gw_10 (i := 10) (by decide +kernel) rfl
theorem kw_2307 : (Cond.code ⟨"BackVillageModel", "passes", "(Ljava/lang/String;)Z"⟩ prog_13_method_36_code 2 (some .boolean)) ∈ GW := gw_10 (i := 11) (by decide +kernel) rfl
theorem kw_2308 : (Cond.methodLink "BackVillageModel" 276 ⟨"BackVillageModel", "readCond", "()Z"⟩) ∈ GW := gw_10 (i := 12) (by decide +kernel) rfl
theorem kw_2310 : (Cond.instanceMethod ⟨"BackVillageModel", "readCond", "()Z"⟩) ∈ GW := gw_10 (i := 14) (by decide +kernel) rfl
theorem kw_2311 : (Cond.code ⟨"BackVillageModel", "readCond", "()Z"⟩ prog_13_method_57_code 1 (some .boolean)) ∈ GW := gw_10 (i := 15) (by decide +kernel) rfl
theorem kw_2312 : (Cond.methodLink "BackVillageModel" 296 ⟨"BackVillageModel", "readAllOf", "()Z"⟩) ∈ GW := gw_10 (i := 16) (by decide +kernel) rfl
theorem kw_2314 : (Cond.instanceMethod ⟨"BackVillageModel", "readAllOf", "()Z"⟩) ∈ GW := gw_10 (i := 18) (by decide +kernel) rfl
theorem kw_2315 : (Cond.code ⟨"BackVillageModel", "readAllOf", "()Z"⟩ prog_13_method_56_code 1 (some .boolean)) ∈ GW := gw_10 (i := 19) (by decide +kernel) rfl
theorem kw_2316 : (Cond.methodLink "BackVillageModel" 284 ⟨"BackVillageModel", "readAtom", "()Z"⟩) ∈ GW := gw_10 (i := 20) (by decide +kernel) rfl
theorem kw_2318 : (Cond.instanceMethod ⟨"BackVillageModel", "readAtom", "()Z"⟩) ∈ GW := gw_10 (i := 22) (by decide +kernel) rfl
theorem kw_2319 : (Cond.code ⟨"BackVillageModel", "readAtom", "()Z"⟩ prog_13_method_55_code 3 (some .boolean)) ∈ GW := gw_10 (i := 23) (by decide +kernel) rfl
theorem kw_2320 : (Cond.methodLink "BackVillageModel" 270 ⟨"BackVillageModel", "sign", "(I)Z"⟩) ∈ GW := gw_10 (i := 24) (by decide +kernel) rfl
theorem kw_2322 : (Cond.instanceMethod ⟨"BackVillageModel", "sign", "(I)Z"⟩) ∈ GW := gw_10 (i := 26) (by decide +kernel) rfl
theorem kw_2323 : (Cond.code ⟨"BackVillageModel", "sign", "(I)Z"⟩ prog_13_method_37_code 2 (some .boolean)) ∈ GW := gw_10 (i := 27) (by decide +kernel) rfl
theorem kw_2325 : (Cond.methodLink "BackVillageModel" 256 ⟨"BackVillageModel", "emits", "(II)V"⟩) ∈ GW := gw_10 (i := 29) (by decide +kernel) rfl
theorem kw_2327 : (Cond.instanceMethod ⟨"BackVillageModel", "emits", "(II)V"⟩) ∈ GW := gw_10 (i := 31) (by decide +kernel) rfl
theorem kw_2328 : (Cond.code ⟨"BackVillageModel", "emits", "(II)V"⟩ prog_13_method_52_code 3 none) ∈ GW := gw_10 (i := 32) (by decide +kernel) rfl
theorem kw_2331 : (Cond.methodLink "BackVillageModel" 291 ⟨"BackVillageModel", "readSum", "()Z"⟩) ∈ GW := gw_10 (i := 35) (by decide +kernel) rfl
theorem kw_2333 : (Cond.instanceMethod ⟨"BackVillageModel", "readSum", "()Z"⟩) ∈ GW := gw_10 (i := 37) (by decide +kernel) rfl
theorem kw_2334 : (Cond.code ⟨"BackVillageModel", "readSum", "()Z"⟩ prog_13_method_54_code 1 (some .boolean)) ∈ GW := gw_10 (i := 38) (by decide +kernel) rfl
theorem kw_2335 : (Cond.methodLink "BackVillageModel" 267 ⟨"BackVillageModel", "readPart", "()Z"⟩) ∈ GW := gw_10 (i := 39) (by decide +kernel) rfl
theorem kw_2337 : (Cond.instanceMethod ⟨"BackVillageModel", "readPart", "()Z"⟩) ∈ GW := gw_10 (i := 41) (by decide +kernel) rfl
theorem kw_2338 : (Cond.code ⟨"BackVillageModel", "readPart", "()Z"⟩ prog_13_method_53_code 2 (some .boolean)) ∈ GW := gw_10 (i := 42) (by decide +kernel) rfl
theorem kw_2345 : (Cond.methodLink "BackVillageModel" 322 ⟨"BackVillageModel", "throwsIf", "(ZI)Z"⟩) ∈ GW := gw_10 (i := 49) (by decide +kernel) rfl
theorem kw_2347 : (Cond.instanceMethod ⟨"BackVillageModel", "throwsIf", "(ZI)Z"⟩) ∈ GW := gw_10 (i := 51) (by decide +kernel) rfl
theorem kw_2348 : (Cond.code ⟨"BackVillageModel", "throwsIf", "(ZI)Z"⟩ prog_13_method_2_code 3 (some .boolean)) ∈ GW := gw_10 (i := 52) (by decide +kernel) rfl
theorem kw_2357 : (Cond.methodLink "BackVillageModel" 359 ⟨"BackVillageModel", "noPerson", "(I)Z"⟩) ∈ GW := gw_10 (i := 61) (by decide +kernel) rfl
theorem kw_2359 : (Cond.instanceMethod ⟨"BackVillageModel", "noPerson", "(I)Z"⟩) ∈ GW := gw_10 (i := 63) (by decide +kernel) rfl
theorem kw_2360 : (Cond.code ⟨"BackVillageModel", "noPerson", "(I)Z"⟩ prog_13_method_17_code 2 (some .boolean)) ∈ GW := gw_10 (i := 64) (by decide +kernel) rfl
theorem kw_2361 : (Cond.methodLink "BackVillageModel" 111 ⟨"BackVillageModel", "in", "(III)Z"⟩) ∈ GW := gw_10 (i := 65) (by decide +kernel) rfl
theorem kw_2362 : (Cond.static ⟨"BackVillageModel", "in", "(III)Z"⟩) ∈ GW := gw_10 (i := 66) (by decide +kernel) rfl
theorem kw_2363 : (Cond.code ⟨"BackVillageModel", "in", "(III)Z"⟩ prog_13_method_3_code 3 (some .boolean)) ∈ GW := gw_10 (i := 67) (by decide +kernel) rfl
theorem kw_2364 : (Cond.methodLink "BackVillageModel" 325 ⟨"BackVillageModel", "isSeeing", "(II)Z"⟩) ∈ GW := gw_10 (i := 68) (by decide +kernel) rfl
theorem kw_2366 : (Cond.instanceMethod ⟨"BackVillageModel", "isSeeing", "(II)Z"⟩) ∈ GW := gw_10 (i := 70) (by decide +kernel) rfl
theorem kw_2367 : (Cond.code ⟨"BackVillageModel", "isSeeing", "(II)Z"⟩ prog_13_method_16_code 3 (some .boolean)) ∈ GW := gw_10 (i := 71) (by decide +kernel) rfl
theorem kw_2368 : (Cond.methodLink "BackVillageModel" 103 ⟨"BackVillageModel", "has", "(II)Z"⟩) ∈ GW := gw_10 (i := 72) (by decide +kernel) rfl
theorem kw_2369 : (Cond.static ⟨"BackVillageModel", "has", "(II)Z"⟩) ∈ GW := gw_10 (i := 73) (by decide +kernel) rfl
theorem kw_2370 : (Cond.code ⟨"BackVillageModel", "has", "(II)Z"⟩ prog_13_method_4_code 2 (some .boolean)) ∈ GW := gw_10 (i := 74) (by decide +kernel) rfl
theorem kw_2371 : (Cond.methodLink "BackVillageModel" 362 ⟨"BackVillageModel", "remembers", "()V"⟩) ∈ GW := gw_10 (i := 75) (by decide +kernel) rfl
theorem kw_2373 : (Cond.instanceMethod ⟨"BackVillageModel", "remembers", "()V"⟩) ∈ GW := gw_10 (i := 77) (by decide +kernel) rfl
theorem kw_2374 : (Cond.code ⟨"BackVillageModel", "remembers", "()V"⟩ prog_13_method_8_code 2 none) ∈ GW := gw_10 (i := 78) (by decide +kernel) rfl
theorem kw_2375 : (Cond.constant "BackVillageModel" 102 38080) ∈ GW := gw_10 (i := 79) (by decide +kernel) rfl
theorem kw_2376 : (Cond.methodLink "BackVillageModel" 365 ⟨"BackVillageModel", "treats", "(IIZ)I"⟩) ∈ GW := gw_10 (i := 80) (by decide +kernel) rfl
theorem kw_2378 : (Cond.instanceMethod ⟨"BackVillageModel", "treats", "(IIZ)I"⟩) ∈ GW := gw_10 (i := 82) (by decide +kernel) rfl
theorem kw_2379 : (Cond.code ⟨"BackVillageModel", "treats", "(IIZ)I"⟩ prog_13_method_69_code 6 (some .int)) ∈ GW := gw_10 (i := 83) (by decide +kernel) rfl
theorem kw_2380 : (Cond.methodLink "BackVillageModel" 349 ⟨"BackVillageModel", "mannerIn", "(III)I"⟩) ∈ GW := gw_10 (i := 84) (by decide +kernel) rfl
theorem kw_2382 : (Cond.instanceMethod ⟨"BackVillageModel", "mannerIn", "(III)I"⟩) ∈ GW := gw_10 (i := 86) (by decide +kernel) rfl
theorem kw_2383 : (Cond.code ⟨"BackVillageModel", "mannerIn", "(III)I"⟩ prog_13_method_67_code 4 (some .int)) ∈ GW := gw_10 (i := 87) (by decide +kernel) rfl
theorem kw_2384 : (Cond.methodLink "BackVillageModel" 146 ⟨"BackVillageModel", "isSure", "(II)Z"⟩) ∈ GW := gw_10 (i := 88) (by decide +kernel) rfl
theorem kw_2386 : (Cond.instanceMethod ⟨"BackVillageModel", "isSure", "(II)Z"⟩) ∈ GW := gw_10 (i := 90) (by decide +kernel) rfl
theorem kw_2387 : (Cond.code ⟨"BackVillageModel", "isSure", "(II)Z"⟩ prog_13_method_24_code 3 (some .boolean)) ∈ GW := gw_10 (i := 91) (by decide +kernel) rfl
theorem kw_2388 : (Cond.methodLink "BackVillageModel" 139 ⟨"BackVillageModel", "possibleOf", "(III)I"⟩) ∈ GW := gw_10 (i := 92) (by decide +kernel) rfl
theorem kw_2390 : (Cond.instanceMethod ⟨"BackVillageModel", "possibleOf", "(III)I"⟩) ∈ GW := gw_10 (i := 94) (by decide +kernel) rfl
theorem kw_2391 : (Cond.code ⟨"BackVillageModel", "possibleOf", "(III)I"⟩ prog_13_method_22_code 4 (some .int)) ∈ GW := gw_10 (i := 95) (by decide +kernel) rfl
theorem kw_2392 : (Cond.methodLink "BackVillageModel" 135 ⟨"BackVillageModel", "lays", "(II)V"⟩) ∈ GW := gw_10 (i := 96) (by decide +kernel) rfl
theorem kw_2394 : (Cond.instanceMethod ⟨"BackVillageModel", "lays", "(II)V"⟩) ∈ GW := gw_10 (i := 98) (by decide +kernel) rfl
theorem kw_2395 : (Cond.code ⟨"BackVillageModel", "lays", "(II)V"⟩ prog_13_method_21_code 4 none) ∈ GW := gw_10 (i := 99) (by decide +kernel) rfl
theorem kw_2396 : (Cond.methodLink "BackVillageModel" 143 ⟨"BackVillageModel", "isOne", "(I)Z"⟩) ∈ GW := gw_10 (i := 100) (by decide +kernel) rfl
theorem kw_2397 : (Cond.static ⟨"BackVillageModel", "isOne", "(I)Z"⟩) ∈ GW := gw_10 (i := 101) (by decide +kernel) rfl
theorem kw_2398 : (Cond.code ⟨"BackVillageModel", "isOne", "(I)Z"⟩ prog_13_method_23_code 1 (some .boolean)) ∈ GW := gw_10 (i := 102) (by decide +kernel) rfl
theorem kw_2399 : (Cond.methodLink "BackVillageModel" 336 ⟨"BackVillageModel", "mannerBy", "(IIIZ)I"⟩) ∈ GW := gw_10 (i := 103) (by decide +kernel) rfl
theorem kw_2401 : (Cond.instanceMethod ⟨"BackVillageModel", "mannerBy", "(IIIZ)I"⟩) ∈ GW := gw_10 (i := 105) (by decide +kernel) rfl
theorem kw_2402 : (Cond.code ⟨"BackVillageModel", "mannerBy", "(IIIZ)I"⟩ prog_13_method_65_code 7 (some .int)) ∈ GW := gw_10 (i := 106) (by decide +kernel) rfl
theorem kw_2403 : (Cond.methodLink "BackVillageModel" 332 ⟨"BackVillageModel", "holdsLine", "(IIIIZ)Z"⟩) ∈ GW := gw_10 (i := 107) (by decide +kernel) rfl
theorem kw_2405 : (Cond.instanceMethod ⟨"BackVillageModel", "holdsLine", "(IIIIZ)Z"⟩) ∈ GW := gw_10 (i := 109) (by decide +kernel) rfl
theorem kw_2406 : (Cond.code ⟨"BackVillageModel", "holdsLine", "(IIIIZ)Z"⟩ prog_13_method_64_code 13 (some .boolean)) ∈ GW := gw_10 (i := 110) (by decide +kernel) rfl
theorem kw_2407 : (Cond.methodLink "BackVillageModel" 328 ⟨"BackVillageModel", "factOf", "(IIIIIZ)I"⟩) ∈ GW := gw_10 (i := 111) (by decide +kernel) rfl
theorem kw_2409 : (Cond.instanceMethod ⟨"BackVillageModel", "factOf", "(IIIIIZ)I"⟩) ∈ GW := gw_10 (i := 113) (by decide +kernel) rfl
theorem kw_2410 : (Cond.code ⟨"BackVillageModel", "factOf", "(IIIIIZ)I"⟩ prog_13_method_63_code 7 (some .int)) ∈ GW := gw_10 (i := 114) (by decide +kernel) rfl
theorem kw_2411 : (Cond.methodLink "BackVillageModel" 352 ⟨"BackVillageModel", "mannersCome", "(II)V"⟩) ∈ GW := gw_10 (i := 115) (by decide +kernel) rfl
theorem kw_2413 : (Cond.instanceMethod ⟨"BackVillageModel", "mannersCome", "(II)V"⟩) ∈ GW := gw_10 (i := 117) (by decide +kernel) rfl
theorem kw_2414 : (Cond.code ⟨"BackVillageModel", "mannersCome", "(II)V"⟩ prog_13_method_66_code 4 none) ∈ GW := gw_10 (i := 118) (by decide +kernel) rfl
theorem kw_2415 : (Cond.methodLink "BackVillageModel" 355 ⟨"BackVillageModel", "tells", "(IIII)V"⟩) ∈ GW := gw_10 (i := 119) (by decide +kernel) rfl
theorem kw_2417 : (Cond.instanceMethod ⟨"BackVillageModel", "tells", "(IIII)V"⟩) ∈ GW := gw_10 (i := 121) (by decide +kernel) rfl
theorem kw_2418 : (Cond.code ⟨"BackVillageModel", "tells", "(IIII)V"⟩ prog_13_method_68_code 6 none) ∈ GW := gw_10 (i := 122) (by decide +kernel) rfl
theorem kw_2419 : (Cond.methodLink "BackVillageModel" 340 ⟨"BackVillageModel", "sureOnes", "(I)I"⟩) ∈ GW := gw_10 (i := 123) (by decide +kernel) rfl
theorem kw_2421 : (Cond.instanceMethod ⟨"BackVillageModel", "sureOnes", "(I)I"⟩) ∈ GW := gw_10 (i := 125) (by decide +kernel) rfl
theorem kw_2422 : (Cond.code ⟨"BackVillageModel", "sureOnes", "(I)I"⟩ prog_13_method_25_code 4 (some .int)) ∈ GW := gw_10 (i := 126) (by decide +kernel) rfl
theorem kw_2423 : (Cond.methodLink "BackVillageModel" 344 ⟨"java/lang/Math", "min", "(II)I"⟩) ∈ GW := gw_10 (i := 127) (by decide +kernel) rfl
theorem kw_2428 : (Cond.methodLink "BackVillageModel" 369 ⟨"BackVillageModel", "notice", "(I)I"⟩) ∈ GW := gw_10 (i := 132) (by decide +kernel) rfl
theorem kw_2430 : (Cond.instanceMethod ⟨"BackVillageModel", "notice", "(I)I"⟩) ∈ GW := gw_10 (i := 134) (by decide +kernel) rfl
theorem kw_2431 : (Cond.code ⟨"BackVillageModel", "notice", "(I)I"⟩ prog_13_method_20_code 2 (some .int)) ∈ GW := gw_10 (i := 135) (by decide +kernel) rfl
theorem kw_2440 : (Cond.methodLink "BackVillageModel" 372 ⟨"BackVillageModel", "says", "()I"⟩) ∈ GW := gw_10 (i := 144) (by decide +kernel) rfl
theorem kw_2442 : (Cond.instanceMethod ⟨"BackVillageModel", "says", "()I"⟩) ∈ GW := gw_10 (i := 146) (by decide +kernel) rfl
theorem kw_2443 : (Cond.code ⟨"BackVillageModel", "says", "()I"⟩ prog_13_method_73_code 3 (some .int)) ∈ GW := gw_10 (i := 147) (by decide +kernel) rfl
theorem kw_2448 : (Cond.methodLink "BackVillageModel" 375 ⟨"BackVillageModel", "readsOut", "(I)V"⟩) ∈ GW := gw_10 (i := 152) (by decide +kernel) rfl
theorem kw_2450 : (Cond.instanceMethod ⟨"BackVillageModel", "readsOut", "(I)V"⟩) ∈ GW := gw_10 (i := 154) (by decide +kernel) rfl
theorem kw_2451 : (Cond.code ⟨"BackVillageModel", "readsOut", "(I)V"⟩ prog_13_method_75_code 2 none) ∈ GW := gw_10 (i := 155) (by decide +kernel) rfl
theorem kw_2460 : (Cond.methodLink "BackVillageModel" 378 ⟨"BackVillageModel", "answersCome", "(III)V"⟩) ∈ GW := gw_10 (i := 164) (by decide +kernel) rfl
theorem kw_2462 : (Cond.instanceMethod ⟨"BackVillageModel", "answersCome", "(III)V"⟩) ∈ GW := gw_10 (i := 166) (by decide +kernel) rfl
theorem kw_2463 : (Cond.code ⟨"BackVillageModel", "answersCome", "(III)V"⟩ prog_13_method_78_code 6 none) ∈ GW := gw_10 (i := 167) (by decide +kernel) rfl
theorem kw_2468 : (Cond.methodLink "BackVillageModel" 386 ⟨"BackVillageModel", "strolls", "(I)I"⟩) ∈ GW := gw_10 (i := 172) (by decide +kernel) rfl
theorem kw_2470 : (Cond.instanceMethod ⟨"BackVillageModel", "strolls", "(I)I"⟩) ∈ GW := gw_10 (i := 174) (by decide +kernel) rfl
theorem kw_2471 : (Cond.code ⟨"BackVillageModel", "strolls", "(I)I"⟩ prog_13_method_80_code 6 (some .int)) ∈ GW := gw_10 (i := 175) (by decide +kernel) rfl
theorem kw_2472 : (Cond.methodLink "BackVillageModel" 382 ⟨"BackVillageModel", "draw", "(I)I"⟩) ∈ GW := gw_10 (i := 176) (by decide +kernel) rfl
theorem kw_2474 : (Cond.instanceMethod ⟨"BackVillageModel", "draw", "(I)I"⟩) ∈ GW := gw_10 (i := 178) (by decide +kernel) rfl
theorem kw_2475 : (Cond.code ⟨"BackVillageModel", "draw", "(I)I"⟩ prog_13_method_81_code 2 (some .int)) ∈ GW := gw_10 (i := 179) (by decide +kernel) rfl
theorem kw_2476 : (Cond.constant "BackVillageModel" 385 1103515245) ∈ GW := gw_10 (i := 180) (by decide +kernel) rfl
theorem kw_2481 : (Cond.methodLink "BackVillageModel" 389 ⟨"BackVillageModel", "seenBy", "(I)I"⟩) ∈ GW := gw_10 (i := 185) (by decide +kernel) rfl
theorem kw_2483 : (Cond.instanceMethod ⟨"BackVillageModel", "seenBy", "(I)I"⟩) ∈ GW := gw_10 (i := 187) (by decide +kernel) rfl
theorem kw_2484 : (Cond.code ⟨"BackVillageModel", "seenBy", "(I)I"⟩ prog_13_method_83_code 4 (some .int)) ∈ GW := gw_10 (i := 188) (by decide +kernel) rfl
theorem kw_2485 : (Cond.methodLink "BackVillageModel" 392 ⟨"BackVillageModel", "holds", "(II)I"⟩) ∈ GW := gw_10 (i := 189) (by decide +kernel) rfl
theorem kw_2487 : (Cond.instanceMethod ⟨"BackVillageModel", "holds", "(II)I"⟩) ∈ GW := gw_10 (i := 191) (by decide +kernel) rfl
theorem kw_2488 : (Cond.code ⟨"BackVillageModel", "holds", "(II)I"⟩ prog_13_method_84_code 5 (some .int)) ∈ GW := gw_10 (i := 192) (by decide +kernel) rfl
theorem kw_2489 : (Cond.methodLink "BackVillageModel" 395 ⟨"BackVillageModel", "allKnown", "(I)I"⟩) ∈ GW := gw_10 (i := 193) (by decide +kernel) rfl
theorem kw_2491 : (Cond.instanceMethod ⟨"BackVillageModel", "allKnown", "(I)I"⟩) ∈ GW := gw_10 (i := 195) (by decide +kernel) rfl
theorem kw_2492 : (Cond.code ⟨"BackVillageModel", "allKnown", "(I)I"⟩ prog_13_method_85_code 4 (some .int)) ∈ GW := gw_10 (i := 196) (by decide +kernel) rfl
theorem kw_2497 : (Cond.methodLink "BackVillageModel" 398 ⟨"BackVillageModel", "noWorld", "(I)Z"⟩) ∈ GW := gw_10 (i := 201) (by decide +kernel) rfl
theorem kw_2499 : (Cond.instanceMethod ⟨"BackVillageModel", "noWorld", "(I)Z"⟩) ∈ GW := gw_10 (i := 203) (by decide +kernel) rfl
theorem kw_2500 : (Cond.code ⟨"BackVillageModel", "noWorld", "(I)Z"⟩ prog_13_method_18_code 2 (some .boolean)) ∈ GW := gw_10 (i := 204) (by decide +kernel) rfl
theorem kw_2521 : (Cond.methodLink "BackVillageModel" 406 ⟨"BackVillageModel", "onlyOne", "(I)I"⟩) ∈ GW := gw_10 (i := 225) (by decide +kernel) rfl
theorem kw_2522 : (Cond.static ⟨"BackVillageModel", "onlyOne", "(I)I"⟩) ∈ GW := gw_10 (i := 226) (by decide +kernel) rfl
theorem kw_2523 : (Cond.code ⟨"BackVillageModel", "onlyOne", "(I)I"⟩ prog_13_method_92_code 1 (some .int)) ∈ GW := gw_10 (i := 227) (by decide +kernel) rfl
theorem kw_2524 : (Cond.methodLink "BackVillageModel" 401 ⟨"java/lang/Integer", "numberOfTrailingZeros", "(I)I"⟩) ∈ GW := gw_10 (i := 228) (by decide +kernel) rfl
theorem kw_2533 : (Cond.methodLink "BackVillageModel" 409 ⟨"BackVillageModel", "comes", "(I)Z"⟩) ∈ GW := gw_10 (i := 237) (by decide +kernel) rfl
theorem kw_2535 : (Cond.instanceMethod ⟨"BackVillageModel", "comes", "(I)Z"⟩) ∈ GW := gw_10 (i := 239) (by decide +kernel) rfl
theorem kw_2536 : (Cond.code ⟨"BackVillageModel", "comes", "(I)Z"⟩ prog_13_method_95_code 4 (some .boolean)) ∈ GW := gw_11 (i := 0) (by decide +kernel) rfl
theorem kw_2541 : (Cond.methodLink "BackVillageModel" 412 ⟨"BackVillageModel", "keepsLeft", "()V"⟩) ∈ GW := gw_11 (i := 5) (by decide +kernel) rfl
theorem kw_2543 : (Cond.instanceMethod ⟨"BackVillageModel", "keepsLeft", "()V"⟩) ∈ GW := gw_11 (i := 7) (by decide +kernel) rfl
theorem kw_2544 : (Cond.code ⟨"BackVillageModel", "keepsLeft", "()V"⟩ prog_13_method_99_code 2 none) ∈ GW := gw_11 (i := 8) (by decide +kernel) rfl
theorem kw_2545 : (Cond.methodLink "BackVillageModel" 415 ⟨"BackVillageModel", "bringsLeft", "()V"⟩) ∈ GW := gw_11 (i := 9) (by decide +kernel) rfl
theorem kw_2547 : (Cond.instanceMethod ⟨"BackVillageModel", "bringsLeft", "()V"⟩) ∈ GW := gw_11 (i := 11) (by decide +kernel) rfl
theorem kw_2548 : (Cond.code ⟨"BackVillageModel", "bringsLeft", "()V"⟩ prog_13_method_100_code 2 none) ∈ GW := gw_11 (i := 12) (by decide +kernel) rfl
theorem kw_2553 : (Cond.methodLink "BackVillageModel" 418 ⟨"java/lang/Integer", "bitCount", "(I)I"⟩) ∈ GW := gw_11 (i := 17) (by decide +kernel) rfl
theorem kw_2554 : (Cond.methodLink "BackVillageModel" 421 ⟨"BackVillageModel", "readsAll", "(I)V"⟩) ∈ GW := gw_11 (i := 18) (by decide +kernel) rfl
theorem kw_2556 : (Cond.instanceMethod ⟨"BackVillageModel", "readsAll", "(I)V"⟩) ∈ GW := gw_11 (i := 20) (by decide +kernel) rfl
theorem kw_2557 : (Cond.code ⟨"BackVillageModel", "readsAll", "(I)V"⟩ prog_13_method_102_code 3 none) ∈ GW := gw_11 (i := 21) (by decide +kernel) rfl
theorem kw_2562 : (Cond.methodLink "BackVillageModel" 427 ⟨"BackVillageModel", "laysMore", "(I)V"⟩) ∈ GW := gw_11 (i := 26) (by decide +kernel) rfl
theorem kw_2564 : (Cond.instanceMethod ⟨"BackVillageModel", "laysMore", "(I)V"⟩) ∈ GW := gw_11 (i := 28) (by decide +kernel) rfl
theorem kw_2565 : (Cond.code ⟨"BackVillageModel", "laysMore", "(I)V"⟩ prog_13_method_105_code 3 none) ∈ GW := gw_11 (i := 29) (by decide +kernel) rfl
theorem kw_2566 : (Cond.methodLink "BackVillageModel" 424 ⟨"BackVillageModel", "maskAt", "(II)I"⟩) ∈ GW := gw_11 (i := 30) (by decide +kernel) rfl
theorem kw_2568 : (Cond.instanceMethod ⟨"BackVillageModel", "maskAt", "(II)I"⟩) ∈ GW := gw_11 (i := 32) (by decide +kernel) rfl
theorem kw_2569 : (Cond.code ⟨"BackVillageModel", "maskAt", "(II)I"⟩ prog_13_method_104_code 3 (some .int)) ∈ GW := gw_11 (i := 33) (by decide +kernel) rfl
theorem kw_2578 : (Cond.methodLink "BackVillageModel" 430 ⟨"BackVillageModel", "questionFor", "(I)I"⟩) ∈ GW := gw_11 (i := 42) (by decide +kernel) rfl
theorem kw_2580 : (Cond.instanceMethod ⟨"BackVillageModel", "questionFor", "(I)I"⟩) ∈ GW := gw_11 (i := 44) (by decide +kernel) rfl
theorem kw_2581 : (Cond.code ⟨"BackVillageModel", "questionFor", "(I)I"⟩ prog_13_method_108_code 7 (some .int)) ∈ GW := gw_11 (i := 45) (by decide +kernel) rfl
theorem kw_2590 : (Cond.methodLink "BackVillageModel" 433 ⟨"BackVillageModel", "spills", "(I)I"⟩) ∈ GW := gw_11 (i := 54) (by decide +kernel) rfl
theorem kw_2592 : (Cond.instanceMethod ⟨"BackVillageModel", "spills", "(I)I"⟩) ∈ GW := gw_11 (i := 56) (by decide +kernel) rfl
theorem kw_2593 : (Cond.code ⟨"BackVillageModel", "spills", "(I)I"⟩ prog_13_method_111_code 4 (some .int)) ∈ GW := gw_11 (i := 57) (by decide +kernel) rfl
theorem kw_2602 : (Cond.methodLink "BackVillageModel" 439 ⟨"BackVillageModel", "bestOf", "(II)I"⟩) ∈ GW := gw_11 (i := 66) (by decide +kernel) rfl
theorem kw_2604 : (Cond.instanceMethod ⟨"BackVillageModel", "bestOf", "(II)I"⟩) ∈ GW := gw_11 (i := 68) (by decide +kernel) rfl
theorem kw_2605 : (Cond.code ⟨"BackVillageModel", "bestOf", "(II)I"⟩ prog_13_method_115_code 5 (some .int)) ∈ GW := gw_11 (i := 69) (by decide +kernel) rfl
theorem kw_2606 : (Cond.methodLink "BackVillageModel" 436 ⟨"BackVillageModel", "winBy", "(II)I"⟩) ∈ GW := gw_11 (i := 70) (by decide +kernel) rfl
theorem kw_2608 : (Cond.instanceMethod ⟨"BackVillageModel", "winBy", "(II)I"⟩) ∈ GW := gw_11 (i := 72) (by decide +kernel) rfl
theorem kw_2609 : (Cond.code ⟨"BackVillageModel", "winBy", "(II)I"⟩ prog_13_method_114_code 3 (some .int)) ∈ GW := gw_11 (i := 73) (by decide +kernel) rfl
theorem kw_2618 : (Cond.methodLink "BackVillageModel" 442 ⟨"BackVillageModel", "keepsAll", "()V"⟩) ∈ GW := gw_11 (i := 82) (by decide +kernel) rfl
theorem kw_2620 : (Cond.instanceMethod ⟨"BackVillageModel", "keepsAll", "()V"⟩) ∈ GW := gw_11 (i := 84) (by decide +kernel) rfl
theorem kw_2621 : (Cond.code ⟨"BackVillageModel", "keepsAll", "()V"⟩ prog_13_method_97_code 2 none) ∈ GW := gw_11 (i := 85) (by decide +kernel) rfl
theorem kw_2622 : (Cond.methodLink "BackVillageModel" 445 ⟨"BackVillageModel", "bringsBack", "()V"⟩) ∈ GW := gw_11 (i := 86) (by decide +kernel) rfl
theorem kw_2624 : (Cond.instanceMethod ⟨"BackVillageModel", "bringsBack", "()V"⟩) ∈ GW := gw_11 (i := 88) (by decide +kernel) rfl
theorem kw_2625 : (Cond.code ⟨"BackVillageModel", "bringsBack", "()V"⟩ prog_13_method_98_code 2 none) ∈ GW := gw_11 (i := 89) (by decide +kernel) rfl
theorem kw_2630 : (Cond.methodLink "BackVillageModel" 448 ⟨"java/lang/Math", "max", "(II)I"⟩) ∈ GW := gw_11 (i := 94) (by decide +kernel) rfl
theorem kw_2639 : (Cond.methodLink "BackVillageModel" 451 ⟨"BackVillageModel", "laysVotes", "(I)V"⟩) ∈ GW := gw_11 (i := 103) (by decide +kernel) rfl
theorem kw_2641 : (Cond.instanceMethod ⟨"BackVillageModel", "laysVotes", "(I)V"⟩) ∈ GW := gw_11 (i := 105) (by decide +kernel) rfl
theorem kw_2642 : (Cond.code ⟨"BackVillageModel", "laysVotes", "(I)V"⟩ prog_13_method_121_code 3 none) ∈ GW := gw_11 (i := 106) (by decide +kernel) rfl
theorem kw_2643 : (Cond.methodLink "BackVillageModel" 454 ⟨"BackVillageModel", "guessOf", "(II)I"⟩) ∈ GW := gw_11 (i := 107) (by decide +kernel) rfl
theorem kw_2645 : (Cond.instanceMethod ⟨"BackVillageModel", "guessOf", "(II)I"⟩) ∈ GW := gw_11 (i := 109) (by decide +kernel) rfl
theorem kw_2646 : (Cond.code ⟨"BackVillageModel", "guessOf", "(II)I"⟩ prog_13_method_122_code 6 (some .int)) ∈ GW := gw_11 (i := 110) (by decide +kernel) rfl
theorem kw_2655 : (Cond.methodLink "BackVillageModel" 457 ⟨"BackVillageModel", "readThrees", "(IZ)Z"⟩) ∈ GW := gw_11 (i := 119) (by decide +kernel) rfl
theorem kw_2657 : (Cond.instanceMethod ⟨"BackVillageModel", "readThrees", "(IZ)Z"⟩) ∈ GW := gw_11 (i := 121) (by decide +kernel) rfl
theorem kw_2658 : (Cond.code ⟨"BackVillageModel", "readThrees", "(IZ)Z"⟩ prog_13_method_125_code 5 (some .boolean)) ∈ GW := gw_11 (i := 122) (by decide +kernel) rfl
theorem kw_2659 : (Cond.methodLink "BackVillageModel" 461 ⟨"BackVillageModel", "canStand", "(II)Z"⟩) ∈ GW := gw_11 (i := 123) (by decide +kernel) rfl
theorem kw_2661 : (Cond.instanceMethod ⟨"BackVillageModel", "canStand", "(II)Z"⟩) ∈ GW := gw_11 (i := 125) (by decide +kernel) rfl
theorem kw_2662 : (Cond.code ⟨"BackVillageModel", "canStand", "(II)Z"⟩ prog_13_method_126_code 3 (some .boolean)) ∈ GW := gw_11 (i := 126) (by decide +kernel) rfl
theorem kw_2667 : (Cond.methodLink "BackVillageModel" 464 ⟨"BackVillageModel", "liarsIn", "(I)I"⟩) ∈ GW := gw_11 (i := 131) (by decide +kernel) rfl
theorem kw_2669 : (Cond.instanceMethod ⟨"BackVillageModel", "liarsIn", "(I)I"⟩) ∈ GW := gw_11 (i := 133) (by decide +kernel) rfl
theorem kw_2670 : (Cond.code ⟨"BackVillageModel", "liarsIn", "(I)I"⟩ prog_13_method_128_code 4 (some .int)) ∈ GW := gw_11 (i := 134) (by decide +kernel) rfl
theorem kw_2675 : (Cond.methodLink "BackVillageModel" 470 ⟨"BackVillageModel", "marries", "()V"⟩) ∈ GW := gw_11 (i := 139) (by decide +kernel) rfl
theorem kw_2677 : (Cond.instanceMethod ⟨"BackVillageModel", "marries", "()V"⟩) ∈ GW := gw_11 (i := 141) (by decide +kernel) rfl
theorem kw_2678 : (Cond.code ⟨"BackVillageModel", "marries", "()V"⟩ prog_13_method_131_code 4 none) ∈ GW := gw_11 (i := 142) (by decide +kernel) rfl
theorem kw_2679 : (Cond.methodLink "BackVillageModel" 467 ⟨"BackVillageModel", "pairOf", "(III)I"⟩) ∈ GW := gw_11 (i := 143) (by decide +kernel) rfl
theorem kw_2681 : (Cond.instanceMethod ⟨"BackVillageModel", "pairOf", "(III)I"⟩) ∈ GW := gw_11 (i := 145) (by decide +kernel) rfl
theorem kw_2682 : (Cond.code ⟨"BackVillageModel", "pairOf", "(III)I"⟩ prog_13_method_130_code 4 (some .int)) ∈ GW := gw_11 (i := 146) (by decide +kernel) rfl
theorem kw_2695 : (Cond.methodLink "BackVillageModel" 473 ⟨"BackVillageModel", "possibleAll", "(I)I"⟩) ∈ GW := gw_11 (i := 159) (by decide +kernel) rfl
theorem kw_2697 : (Cond.instanceMethod ⟨"BackVillageModel", "possibleAll", "(I)I"⟩) ∈ GW := gw_11 (i := 161) (by decide +kernel) rfl
theorem kw_2698 : (Cond.code ⟨"BackVillageModel", "possibleAll", "(I)I"⟩ prog_13_method_135_code 4 (some .int)) ∈ GW := gw_11 (i := 162) (by decide +kernel) rfl
