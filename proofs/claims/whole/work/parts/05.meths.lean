/-! PV: methods (printed) -/
def pv_m0 : pv_M := (⟨"ScheduleDeskLaw", "law", "([I)Z"⟩, code, 4, some .boolean, 1)
def pv_m1 : pv_M := (⟨"ScheduleDesk", "<init>", "()V"⟩, prog_1_method_1_code, 1, none, 0)
def pv_m2 : pv_M := (⟨"ScheduleDesk$Ledger", "<init>", "()V"⟩, prog_3_method_1_code, 1, none, 0)
def pv_m3 : pv_M := (⟨"ScheduleDesk$Tally", "<init>", "()V"⟩, prog_7_method_1_code, 1, none, 0)
def pv_m4 : pv_M := (⟨"ScheduleDesk$Equations", "<init>", "(LScheduleDesk$Tally;)V"⟩, prog_2_method_1_code, 2, none, 1)
def pv_m5 : pv_M := (⟨"ScheduleDesk$Standings", "<init>", "()V"⟩, prog_6_method_1_code, 1, none, 0)
def pv_m6 : pv_M := (⟨"ScheduleDesk$Tape", "<init>", "()V"⟩, prog_8_method_1_code, 1, none, 0)
def pv_m7 : pv_M := (⟨"ScheduleDesk$Sheet", "<init>", "()V"⟩, prog_4_method_1_code, 1, none, 0)
def pv_m8 : pv_M := (⟨"ScheduleDesk$Shelf", "<init>", "()V"⟩, prog_5_method_1_code, 1, none, 0)
def pv_m9 : pv_M := (⟨"ScheduleDesk$Ledger", "open", "(I)V"⟩, prog_3_method_2_code, 2, none, 1)
def pv_m10 : pv_M := (⟨"ScheduleDesk", "teams", "(I)I"⟩, prog_1_method_2_code, 3, some .int, 1)
def pv_m11 : pv_M := (⟨"ScheduleDesk", "game", "(IIJJII)I"⟩, prog_1_method_3_code, 10, some .int, 6)
def pv_m12 : pv_M := (⟨"ScheduleDesk$Ledger", "areTwo", "(II)Z"⟩, prog_3_method_6_code, 3, some .boolean, 2)
def pv_m13 : pv_M := (⟨"ScheduleDesk$Ledger", "hasTeam", "(I)Z"⟩, prog_3_method_5_code, 2, some .boolean, 1)
def pv_m14 : pv_M := (⟨"ScheduleDesk", "isScore", "(J)Z"⟩, prog_1_method_44_code, 2, some .boolean, 1)
def pv_m15 : pv_M := (⟨"ScheduleDesk", "isDay", "(I)Z"⟩, prog_1_method_43_code, 1, some .boolean, 1)
def pv_m16 : pv_M := (⟨"ScheduleDesk", "isWeight", "(I)Z"⟩, prog_1_method_45_code, 1, some .boolean, 1)
def pv_m17 : pv_M := (⟨"ScheduleDesk$Ledger", "put", "(IIIJJII)V"⟩, prog_3_method_4_code, 10, none, 7)
def pv_m18 : pv_M := (⟨"ScheduleDesk", "of", "(II)J"⟩, prog_1_method_4_code, 3, some .long, 2)
def pv_m19 : pv_M := (⟨"ScheduleDesk$Ledger", "hasGame", "(I)Z"⟩, prog_3_method_7_code, 2, some .boolean, 1)
def pv_m20 : pv_M := (⟨"ScheduleDesk$Ledger", "valueOf", "(II)J"⟩, prog_3_method_13_code, 3, some .long, 2)
def pv_m21 : pv_M := (⟨"ScheduleDesk$Ledger", "marginOf", "(I)J"⟩, prog_3_method_10_code, 4, some .long, 1)
def pv_m22 : pv_M := (⟨"ScheduleDesk$Ledger", "outcomeOf", "(I)I"⟩, prog_3_method_11_code, 2, some .int, 1)
def pv_m23 : pv_M := (⟨"ScheduleDesk", "voids", "(II)I"⟩, prog_1_method_5_code, 4, some .int, 2)
def pv_m24 : pv_M := (⟨"ScheduleDesk", "isChoice", "(I)Z"⟩, prog_1_method_46_code, 1, some .boolean, 1)
def pv_m25 : pv_M := (⟨"ScheduleDesk", "cap", "(J)J"⟩, prog_1_method_6_code, 5, some .long, 1)
def pv_m26 : pv_M := (⟨"ScheduleDesk", "drop", "()I"⟩, prog_1_method_7_code, 1, some .int, 0)
def pv_m27 : pv_M := (⟨"ScheduleDesk", "matrix", "(IIII)J"⟩, prog_1_method_8_code, 5, some .long, 4)
def pv_m28 : pv_M := (⟨"ScheduleDesk", "isAsked", "(II)Z"⟩, prog_1_method_42_code, 2, some .boolean, 2)
def pv_m29 : pv_M := (⟨"ScheduleDesk", "gatherAsOf", "(II)V"⟩, prog_1_method_48_code, 3, none, 2)
def pv_m30 : pv_M := (⟨"ScheduleDesk$Equations", "gather", "(LScheduleDesk$Ledger;IIIZ)V"⟩, prog_2_method_2_code, 8, none, 5)
def pv_m31 : pv_M := (⟨"ScheduleDesk$Ledger", "counts", "(II)Z"⟩, prog_3_method_8_code, 3, some .boolean, 2)
def pv_m32 : pv_M := (⟨"ScheduleDesk$Equations", "enter", "(LScheduleDesk$Ledger;II)V"⟩, prog_2_method_3_code, 9, none, 3)
def pv_m33 : pv_M := (⟨"ScheduleDesk$Equations", "layOut", "(I)V"⟩, prog_2_method_4_code, 4, none, 1)
def pv_m34 : pv_M := (⟨"ScheduleDesk", "right", "(III)J"⟩, prog_1_method_9_code, 4, some .long, 3)
def pv_m35 : pv_M := (⟨"ScheduleDesk", "det", "(II)J"⟩, prog_1_method_10_code, 3, some .long, 2)
def pv_m36 : pv_M := (⟨"ScheduleDesk$Equations", "determinant", "()J"⟩, prog_2_method_5_code, 1, some .long, 0)
def pv_m37 : pv_M := (⟨"ScheduleDesk$Equations", "minorWithout", "(III)J"⟩, prog_2_method_7_code, 12, some .long, 3)
def pv_m38 : pv_M := (⟨"java/lang/Integer", "bitCount", "(I)I"⟩, prog_11_method_49_code, 1, some .int, 1)
def pv_m39 : pv_M := (⟨"ScheduleDesk", "cofactor", "(IIII)J"⟩, prog_1_method_11_code, 5, some .long, 4)
def pv_m40 : pv_M := (⟨"ScheduleDesk$Equations", "cofactorAt", "(II)J"⟩, prog_2_method_6_code, 5, some .long, 2)
def pv_m41 : pv_M := (⟨"ScheduleDesk", "rating", "(IIII)J"⟩, prog_1_method_12_code, 5, some .long, 4)
def pv_m42 : pv_M := (⟨"ScheduleDesk$Equations", "ratingPart", "(II)J"⟩, prog_2_method_11_code, 5, some .long, 2)
def pv_m43 : pv_M := (⟨"ScheduleDesk$Equations", "findTop", "(I)Z"⟩, prog_2_method_8_code, 3, some .boolean, 1)
def pv_m44 : pv_M := (⟨"ScheduleDesk$Tally", "start", "()V"⟩, prog_7_method_2_code, 1, none, 0)
def pv_m45 : pv_M := (⟨"ScheduleDesk$Tally", "addProduct", "(JJ)V"⟩, prog_7_method_3_code, 9, none, 2)
def pv_m46 : pv_M := (⟨"ScheduleDesk", "partOf", "(JJI)J"⟩, prog_1_method_50_code, 12, some .long, 3)
def pv_m47 : pv_M := (⟨"ScheduleDesk", "rank", "(III)I"⟩, prog_1_method_13_code, 5, some .int, 3)
def pv_m48 : pv_M := (⟨"ScheduleDesk", "solveAsOf", "(II)I"⟩, prog_1_method_49_code, 3, some .int, 2)
def pv_m49 : pv_M := (⟨"ScheduleDesk$Equations", "solve", "()I"⟩, prog_2_method_9_code, 3, some .int, 0)
def pv_m50 : pv_M := (⟨"ScheduleDesk$Standings", "byRatings", "(LScheduleDesk$Equations;)V"⟩, prog_6_method_2_code, 4, none, 1)
def pv_m51 : pv_M := (⟨"ScheduleDesk$Standings", "swapWithFormer", "(I)V"⟩, prog_6_method_4_code, 3, none, 1)
def pv_m52 : pv_M := (⟨"ScheduleDesk", "schedule", "(IIII)J"⟩, prog_1_method_14_code, 5, some .long, 4)
def pv_m53 : pv_M := (⟨"ScheduleDesk$Equations", "schedulePart", "(II)J"⟩, prog_2_method_12_code, 6, some .long, 2)
def pv_m54 : pv_M := (⟨"ScheduleDesk", "predict", "(IIII)I"⟩, prog_1_method_15_code, 5, some .int, 4)
def pv_m55 : pv_M := (⟨"ScheduleDesk$Equations", "greater", "(II)I"⟩, prog_2_method_10_code, 3, some .int, 2)
def pv_m56 : pv_M := (⟨"ScheduleDesk", "upsets", "(II)I"⟩, prog_1_method_16_code, 6, some .int, 2)
def pv_m57 : pv_M := (⟨"ScheduleDesk$Ledger", "loserOf", "(I)I"⟩, prog_3_method_12_code, 3, some .int, 1)
def pv_m58 : pv_M := (⟨"ScheduleDesk", "guess", "(IIJJ)I"⟩, prog_1_method_17_code, 7, some .int, 4)
def pv_m59 : pv_M := (⟨"ScheduleDesk", "would", "(IIII)J"⟩, prog_1_method_18_code, 5, some .long, 4)
def pv_m60 : pv_M := (⟨"ScheduleDesk", "without", "(IIIII)J"⟩, prog_1_method_19_code, 6, some .long, 5)
def pv_m61 : pv_M := (⟨"ScheduleDesk", "upturns", "(III)I"⟩, prog_1_method_20_code, 7, some .int, 3)
def pv_m62 : pv_M := (⟨"ScheduleDesk", "duel", "(II)I"⟩, prog_1_method_21_code, 7, some .int, 2)
def pv_m63 : pv_M := (⟨"ScheduleDesk$Ledger", "beginsDuel", "(I)Z"⟩, prog_3_method_16_code, 3, some .boolean, 1)
def pv_m64 : pv_M := (⟨"ScheduleDesk$Ledger", "isBetween", "(III)Z"⟩, prog_3_method_9_code, 4, some .boolean, 3)
def pv_m65 : pv_M := (⟨"ScheduleDesk$Ledger", "gamesBetween", "(IIZ)I"⟩, prog_3_method_17_code, 6, some .int, 3)
def pv_m66 : pv_M := (⟨"ScheduleDesk", "beaten", "(III)I"⟩, prog_1_method_22_code, 5, some .int, 3)
def pv_m67 : pv_M := (⟨"ScheduleDesk$Ledger", "leadOf", "(III)I"⟩, prog_3_method_18_code, 7, some .int, 3)
def pv_m68 : pv_M := (⟨"ScheduleDesk", "rings", "(I)I"⟩, prog_1_method_23_code, 6, some .int, 1)
def pv_m69 : pv_M := (⟨"ScheduleDesk$Ledger", "isRing", "(IIII)Z"⟩, prog_3_method_19_code, 5, some .boolean, 4)
def pv_m70 : pv_M := (⟨"ScheduleDesk", "fixture", "(II)I"⟩, prog_1_method_24_code, 3, some .int, 2)
def pv_m71 : pv_M := (⟨"ScheduleDesk", "clears", "()I"⟩, prog_1_method_25_code, 2, some .int, 0)
def pv_m72 : pv_M := (⟨"ScheduleDesk", "score", "(III)I"⟩, prog_1_method_26_code, 5, some .int, 3)
def pv_m73 : pv_M := (⟨"ScheduleDesk$Standings", "tellScores", "(LScheduleDesk$Ledger;LScheduleDesk$Equations;I)V"⟩, prog_6_method_5_code, 8, none, 3)
def pv_m74 : pv_M := (⟨"java/lang/Long", "compare", "(JJ)I"⟩, prog_12_method_42_code, 4, some .int, 2)
def pv_m75 : pv_M := (⟨"ScheduleDesk", "place", "(III)I"⟩, prog_1_method_27_code, 5, some .int, 3)
def pv_m76 : pv_M := (⟨"ScheduleDesk$Standings", "byScores", "(LScheduleDesk$Ledger;LScheduleDesk$Equations;I)V"⟩, prog_6_method_3_code, 6, none, 3)
def pv_m77 : pv_M := (⟨"ScheduleDesk", "feed", "(I)I"⟩, prog_1_method_28_code, 2, some .int, 1)
def pv_m78 : pv_M := (⟨"ScheduleDesk", "clear", "()I"⟩, prog_1_method_29_code, 2, some .int, 0)
def pv_m79 : pv_M := (⟨"ScheduleDesk", "results", "()I"⟩, prog_1_method_30_code, 4, some .int, 0)
def pv_m80 : pv_M := (⟨"ScheduleDesk$Tape", "rewind", "()V"⟩, prog_8_method_2_code, 1, none, 0)
def pv_m81 : pv_M := (⟨"ScheduleDesk", "readGame", "(I)V"⟩, prog_1_method_51_code, 8, none, 1)
def pv_m82 : pv_M := (⟨"ScheduleDesk$Tape", "failAt", "(I)V"⟩, prog_8_method_4_code, 2, none, 1)
def pv_m83 : pv_M := (⟨"ScheduleDesk$Tape", "failed", "()Z"⟩, prog_8_method_3_code, 1, some .boolean, 0)
def pv_m84 : pv_M := (⟨"ScheduleDesk", "readTeam", "(I)I"⟩, prog_1_method_52_code, 4, some .int, 1)
def pv_m85 : pv_M := (⟨"ScheduleDesk$Tape", "number", "(I)I"⟩, prog_8_method_10_code, 4, some .int, 1)
def pv_m86 : pv_M := (⟨"ScheduleDesk$Tape", "isFigureAhead", "()Z"⟩, prog_8_method_6_code, 1, some .boolean, 0)
def pv_m87 : pv_M := (⟨"ScheduleDesk$Tape", "ahead", "()I"⟩, prog_8_method_5_code, 1, some .int, 0)
def pv_m88 : pv_M := (⟨"ScheduleDesk$Tape", "need", "(C)V"⟩, prog_8_method_8_code, 2, none, 1)
def pv_m89 : pv_M := (⟨"ScheduleDesk$Tape", "skips", "(C)Z"⟩, prog_8_method_7_code, 2, some .boolean, 1)
def pv_m90 : pv_M := (⟨"ScheduleDesk", "readWeight", "()I"⟩, prog_1_method_53_code, 3, some .int, 0)
def pv_m91 : pv_M := (⟨"ScheduleDesk$Tape", "endsWell", "()Z"⟩, prog_8_method_9_code, 1, some .boolean, 0)
def pv_m92 : pv_M := (⟨"ScheduleDesk", "pick", "()I"⟩, prog_1_method_31_code, 2, some .int, 0)
def pv_m93 : pv_M := (⟨"ScheduleDesk", "readEither", "(I)I"⟩, prog_1_method_54_code, 4, some .int, 1)
def pv_m94 : pv_M := (⟨"ScheduleDesk", "readBoth", "(I)I"⟩, prog_1_method_55_code, 4, some .int, 1)
def pv_m95 : pv_M := (⟨"ScheduleDesk", "readOne", "(I)I"⟩, prog_1_method_56_code, 3, some .int, 1)
def pv_m96 : pv_M := (⟨"ScheduleDesk$Ledger", "everyGame", "()I"⟩, prog_3_method_14_code, 1, some .int, 0)
def pv_m97 : pv_M := (⟨"ScheduleDesk", "readComparison", "()I"⟩, prog_1_method_57_code, 5, some .int, 0)
def pv_m98 : pv_M := (⟨"ScheduleDesk$Tape", "word", "()I"⟩, prog_8_method_12_code, 3, some .int, 0)
def pv_m99 : pv_M := (⟨"ScheduleDesk$Tape", "wordFrom", "(I)I"⟩, prog_8_method_13_code, 2, some .int, 1)
def pv_m100 : pv_M := (⟨"ScheduleDesk$Tape", "isWord", "(ILjava/lang/String;)Z"⟩, prog_8_method_14_code, 4, some .boolean, 2)
def pv_m101 : pv_M := (⟨"ScheduleDesk$Tape", "comparer", "()I"⟩, prog_8_method_11_code, 2, some .int, 0)
def pv_m102 : pv_M := (⟨"ScheduleDesk$Ledger", "gamesWith", "(III)I"⟩, prog_3_method_15_code, 7, some .int, 3)
def pv_m103 : pv_M := (⟨"ScheduleDesk", "voidAll", "(I)I"⟩, prog_1_method_32_code, 5, some .int, 1)
def pv_m104 : pv_M := (⟨"ScheduleDesk", "spell", "()I"⟩, prog_1_method_33_code, 2, some .int, 0)
def pv_m105 : pv_M := (⟨"ScheduleDesk$Sheet", "writeGame", "(LScheduleDesk$Ledger;I)V"⟩, prog_4_method_2_code, 3, none, 2)
def pv_m106 : pv_M := (⟨"ScheduleDesk$Sheet", "write", "(I)V"⟩, prog_4_method_4_code, 2, none, 1)
def pv_m107 : pv_M := (⟨"ScheduleDesk$Sheet", "writeNumber", "(I)V"⟩, prog_4_method_3_code, 3, none, 1)
def pv_m108 : pv_M := (⟨"ScheduleDesk", "paper", "(I)I"⟩, prog_1_method_34_code, 2, some .int, 1)
def pv_m109 : pv_M := (⟨"ScheduleDesk", "told", "(I)I"⟩, prog_1_method_35_code, 2, some .int, 1)
def pv_m110 : pv_M := (⟨"ScheduleDesk$Ledger", "countVoided", "()I"⟩, prog_3_method_20_code, 3, some .int, 0)
def pv_m111 : pv_M := (⟨"ScheduleDesk$Ledger", "countDays", "()I"⟩, prog_3_method_21_code, 5, some .int, 0)
def pv_m112 : pv_M := (⟨"ScheduleDesk$Ledger", "greatestDay", "()I"⟩, prog_3_method_22_code, 3, some .int, 0)
def pv_m113 : pv_M := (⟨"ScheduleDesk", "list", "(II)I"⟩, prog_1_method_36_code, 3, some .int, 2)
def pv_m114 : pv_M := (⟨"ScheduleDesk", "isList", "(I)Z"⟩, prog_1_method_47_code, 1, some .boolean, 1)
def pv_m115 : pv_M := (⟨"ScheduleDesk$Shelf", "hold", "(II)V"⟩, prog_5_method_3_code, 4, none, 2)
def pv_m116 : pv_M := (⟨"ScheduleDesk", "set", "(IIJ)I"⟩, prog_1_method_37_code, 5, some .int, 3)
def pv_m117 : pv_M := (⟨"ScheduleDesk$Shelf", "hasPlace", "(II)Z"⟩, prog_5_method_2_code, 3, some .boolean, 2)
def pv_m118 : pv_M := (⟨"ScheduleDesk", "get", "(II)J"⟩, prog_1_method_38_code, 3, some .long, 2)
def pv_m119 : pv_M := (⟨"ScheduleDesk", "judge", "(IIII)I"⟩, prog_1_method_39_code, 5, some .int, 4)
def pv_m120 : pv_M := (⟨"ScheduleDesk$Equations", "firstWrongRow", "([JI)I"⟩, prog_2_method_13_code, 9, some .int, 2)
def pv_m121 : pv_M := (⟨"ScheduleDesk", "image", "()I"⟩, prog_1_method_40_code, 1, some .int, 0)
def pv_m122 : pv_M := (⟨"ScheduleDesk$Ledger", "copyFrom", "(LScheduleDesk$Ledger;)V"⟩, prog_3_method_3_code, 3, none, 1)
def pv_m123 : pv_M := (⟨"ScheduleDesk", "undo", "()I"⟩, prog_1_method_41_code, 1, some .int, 0)
def pv_m124 : pv_M := (⟨"ScheduleDeskModel", "<init>", "()V"⟩, prog_10_method_1_code, 1, none, 0)
def pv_m125 : pv_M := (⟨"ScheduleDeskModel", "teams", "(I)I"⟩, prog_10_method_9_code, 3, some .int, 1)
def pv_m126 : pv_M := (⟨"ScheduleDeskModel", "isIn", "(JJJ)Z"⟩, prog_10_method_2_code, 6, some .boolean, 3)
def pv_m127 : pv_M := (⟨"ScheduleDeskModel", "game", "(IIJJII)I"⟩, prog_10_method_11_code, 9, some .int, 6)
def pv_m128 : pv_M := (⟨"ScheduleDeskModel", "areTeams", "(II)Z"⟩, prog_10_method_4_code, 3, some .boolean, 2)
def pv_m129 : pv_M := (⟨"ScheduleDeskModel", "isTeam", "(I)Z"⟩, prog_10_method_3_code, 2, some .boolean, 1)
def pv_m130 : pv_M := (⟨"ScheduleDeskModel", "isScore", "(J)Z"⟩, prog_10_method_8_code, 2, some .boolean, 1)
def pv_m131 : pv_M := (⟨"ScheduleDeskModel", "isDay", "(I)Z"⟩, prog_10_method_6_code, 1, some .boolean, 1)
def pv_m132 : pv_M := (⟨"ScheduleDeskModel", "puts", "(IIIJJII)V"⟩, prog_10_method_10_code, 10, none, 7)
def pv_m133 : pv_M := (⟨"ScheduleDeskModel", "of", "(II)J"⟩, prog_10_method_14_code, 3, some .long, 2)
def pv_m134 : pv_M := (⟨"ScheduleDeskModel", "isGame", "(I)Z"⟩, prog_10_method_5_code, 2, some .boolean, 1)
def pv_m135 : pv_M := (⟨"ScheduleDeskModel", "marginOf", "(I)J"⟩, prog_10_method_12_code, 4, some .long, 1)
def pv_m136 : pv_M := (⟨"ScheduleDeskModel", "voids", "(II)I"⟩, prog_10_method_15_code, 4, some .int, 2)
def pv_m137 : pv_M := (⟨"ScheduleDeskModel", "cap", "(J)J"⟩, prog_10_method_16_code, 5, some .long, 1)
def pv_m138 : pv_M := (⟨"ScheduleDeskModel", "drop", "()I"⟩, prog_10_method_17_code, 1, some .int, 0)
def pv_m139 : pv_M := (⟨"ScheduleDeskModel", "matrix", "(IIII)J"⟩, prog_10_method_31_code, 5, some .long, 4)
def pv_m140 : pv_M := (⟨"ScheduleDeskModel", "isAsked", "(II)Z"⟩, prog_10_method_7_code, 2, some .boolean, 2)
def pv_m141 : pv_M := (⟨"ScheduleDeskModel", "lays", "(IIIZ)V"⟩, prog_10_method_23_code, 7, none, 4)
def pv_m142 : pv_M := (⟨"ScheduleDeskModel", "counts", "(IIIZ)Z"⟩, prog_10_method_20_code, 5, some .boolean, 4)
def pv_m143 : pv_M := (⟨"ScheduleDeskModel", "laysGame", "(II)V"⟩, prog_10_method_21_code, 8, none, 2)
def pv_m144 : pv_M := (⟨"ScheduleDeskModel", "wonBy", "(I)I"⟩, prog_10_method_13_code, 2, some .int, 1)
def pv_m145 : pv_M := (⟨"ScheduleDeskModel", "manyOf", "(I)J"⟩, prog_10_method_22_code, 5, some .long, 1)
def pv_m146 : pv_M := (⟨"ScheduleDeskModel", "right", "(III)J"⟩, prog_10_method_32_code, 4, some .long, 3)
def pv_m147 : pv_M := (⟨"ScheduleDeskModel", "det", "(II)J"⟩, prog_10_method_33_code, 3, some .long, 2)
def pv_m148 : pv_M := (⟨"ScheduleDeskModel", "minor", "(II)J"⟩, prog_10_method_25_code, 13, some .long, 2)
def pv_m149 : pv_M := (⟨"ScheduleDeskModel", "bits", "(I)I"⟩, prog_10_method_24_code, 3, some .int, 1)
def pv_m150 : pv_M := (⟨"ScheduleDeskModel", "cofactor", "(IIII)J"⟩, prog_10_method_34_code, 5, some .long, 4)
def pv_m151 : pv_M := (⟨"ScheduleDeskModel", "cofactor", "(II)J"⟩, prog_10_method_26_code, 5, some .long, 2)
def pv_m152 : pv_M := (⟨"ScheduleDeskModel", "rating", "(IIII)J"⟩, prog_10_method_36_code, 5, some .long, 4)
def pv_m153 : pv_M := (⟨"ScheduleDeskModel", "solves", "(IIIZ)V"⟩, prog_10_method_27_code, 11, none, 4)
def pv_m154 : pv_M := (⟨"ScheduleDeskModel", "times", "(JJ)J"⟩, prog_10_method_18_code, 8, some .long, 2)
def pv_m155 : pv_M := (⟨"ScheduleDeskModel", "plus", "(JJ)J"⟩, prog_10_method_19_code, 7, some .long, 2)
def pv_m156 : pv_M := (⟨"ScheduleDeskModel", "rated", "(II)J"⟩, prog_10_method_35_code, 3, some .long, 2)
def pv_m157 : pv_M := (⟨"ScheduleDeskModel", "part", "(JJI)J"⟩, prog_10_method_30_code, 11, some .long, 3)
def pv_m158 : pv_M := (⟨"ScheduleDeskModel", "rank", "(III)I"⟩, prog_10_method_40_code, 5, some .int, 3)
def pv_m159 : pv_M := (⟨"ScheduleDeskModel", "against", "()I"⟩, prog_10_method_29_code, 1, some .int, 0)
def pv_m160 : pv_M := (⟨"ScheduleDeskModel", "isAnyOver", "()Z"⟩, prog_10_method_28_code, 3, some .boolean, 0)
def pv_m161 : pv_M := (⟨"ScheduleDeskModel", "ranked", "(I)I"⟩, prog_10_method_39_code, 4, some .int, 1)
def pv_m162 : pv_M := (⟨"ScheduleDeskModel", "placeByRank", "(I)I"⟩, prog_10_method_38_code, 4, some .int, 1)
def pv_m163 : pv_M := (⟨"ScheduleDeskModel", "isAhead", "(II)Z"⟩, prog_10_method_37_code, 3, some .boolean, 2)
def pv_m164 : pv_M := (⟨"ScheduleDeskModel", "schedule", "(IIII)J"⟩, prog_10_method_41_code, 14, some .long, 4)
def pv_m165 : pv_M := (⟨"ScheduleDeskModel", "predict", "(IIII)I"⟩, prog_10_method_42_code, 5, some .int, 4)
def pv_m166 : pv_M := (⟨"ScheduleDeskModel", "upsets", "(II)I"⟩, prog_10_method_43_code, 8, some .int, 2)
def pv_m167 : pv_M := (⟨"ScheduleDeskModel", "guess", "(IIJJ)I"⟩, prog_10_method_44_code, 7, some .int, 4)
def pv_m168 : pv_M := (⟨"ScheduleDeskModel", "would", "(IIII)J"⟩, prog_10_method_45_code, 5, some .long, 4)
def pv_m169 : pv_M := (⟨"ScheduleDeskModel", "without", "(IIIII)J"⟩, prog_10_method_46_code, 6, some .long, 5)
def pv_m170 : pv_M := (⟨"ScheduleDeskModel", "upturns", "(III)I"⟩, prog_10_method_47_code, 7, some .int, 3)
def pv_m171 : pv_M := (⟨"ScheduleDeskModel", "duel", "(II)I"⟩, prog_10_method_50_code, 5, some .int, 2)
def pv_m172 : pv_M := (⟨"ScheduleDeskModel", "isFirstBetween", "(I)Z"⟩, prog_10_method_49_code, 3, some .boolean, 1)
def pv_m173 : pv_M := (⟨"ScheduleDeskModel", "isBetween", "(III)Z"⟩, prog_10_method_48_code, 4, some .boolean, 3)
def pv_m174 : pv_M := (⟨"ScheduleDeskModel", "ofDuel", "(II)I"⟩, prog_10_method_51_code, 7, some .int, 2)
def pv_m175 : pv_M := (⟨"ScheduleDeskModel", "beaten", "(III)I"⟩, prog_10_method_53_code, 5, some .int, 3)
def pv_m176 : pv_M := (⟨"ScheduleDeskModel", "aheadBy", "(III)I"⟩, prog_10_method_52_code, 7, some .int, 3)
def pv_m177 : pv_M := (⟨"ScheduleDeskModel", "rings", "(I)I"⟩, prog_10_method_54_code, 9, some .int, 1)
def pv_m178 : pv_M := (⟨"ScheduleDeskModel", "fixture", "(II)I"⟩, prog_10_method_55_code, 3, some .int, 2)
def pv_m179 : pv_M := (⟨"ScheduleDeskModel", "clears", "()I"⟩, prog_10_method_56_code, 2, some .int, 0)
def pv_m180 : pv_M := (⟨"ScheduleDeskModel", "score", "(III)I"⟩, prog_10_method_58_code, 5, some .int, 3)
def pv_m181 : pv_M := (⟨"ScheduleDeskModel", "scoreOf", "(II)I"⟩, prog_10_method_57_code, 8, some .int, 2)
def pv_m182 : pv_M := (⟨"ScheduleDeskModel", "place", "(III)I"⟩, prog_10_method_59_code, 11, some .int, 3)
def pv_m183 : pv_M := (⟨"ScheduleDeskModel", "feed", "(I)I"⟩, prog_10_method_60_code, 2, some .int, 1)
def pv_m184 : pv_M := (⟨"ScheduleDeskModel", "clear", "()I"⟩, prog_10_method_61_code, 2, some .int, 0)
def pv_m185 : pv_M := (⟨"ScheduleDeskModel", "results", "()I"⟩, prog_10_method_67_code, 2, some .int, 0)
def pv_m186 : pv_M := (⟨"ScheduleDeskModel", "readsGame", "()V"⟩, prog_10_method_66_code, 8, none, 0)
def pv_m187 : pv_M := (⟨"ScheduleDeskModel", "fails", "(I)V"⟩, prog_10_method_63_code, 2, none, 1)
def pv_m188 : pv_M := (⟨"ScheduleDeskModel", "number", "(III)I"⟩, prog_10_method_65_code, 6, some .int, 3)
def pv_m189 : pv_M := (⟨"ScheduleDeskModel", "here", "()I"⟩, prog_10_method_62_code, 1, some .int, 0)
def pv_m190 : pv_M := (⟨"ScheduleDeskModel", "sign", "(I)V"⟩, prog_10_method_64_code, 2, none, 1)
def pv_m191 : pv_M := (⟨"ScheduleDeskModel", "pick", "()I"⟩, prog_10_method_75_code, 2, some .int, 0)
def pv_m192 : pv_M := (⟨"ScheduleDeskModel", "conditioned", "()I"⟩, prog_10_method_74_code, 2, some .int, 0)
def pv_m193 : pv_M := (⟨"ScheduleDeskModel", "any", "(I)I"⟩, prog_10_method_73_code, 3, some .int, 1)
def pv_m194 : pv_M := (⟨"ScheduleDeskModel", "both", "(I)I"⟩, prog_10_method_72_code, 3, some .int, 1)
def pv_m195 : pv_M := (⟨"ScheduleDeskModel", "one", "(I)I"⟩, prog_10_method_71_code, 4, some .int, 1)
def pv_m196 : pv_M := (⟨"ScheduleDeskModel", "test", "()I"⟩, prog_10_method_70_code, 11, some .int, 0)
def pv_m197 : pv_M := (⟨"ScheduleDeskModel", "word", "()I"⟩, prog_10_method_68_code, 6, some .int, 0)
def pv_m198 : pv_M := (⟨"ScheduleDeskModel", "valueOf", "(II)J"⟩, prog_10_method_69_code, 3, some .long, 2)
def pv_m199 : pv_M := (⟨"ScheduleDeskModel", "voidAll", "(I)I"⟩, prog_10_method_76_code, 5, some .int, 1)
def pv_m200 : pv_M := (⟨"ScheduleDeskModel", "spell", "()I"⟩, prog_10_method_79_code, 2, some .int, 0)
def pv_m201 : pv_M := (⟨"ScheduleDeskModel", "writes", "(I)V"⟩, prog_10_method_77_code, 2, none, 1)
def pv_m202 : pv_M := (⟨"ScheduleDeskModel", "writesNumber", "(J)V"⟩, prog_10_method_78_code, 3, none, 1)
def pv_m203 : pv_M := (⟨"ScheduleDeskModel", "paper", "(I)I"⟩, prog_10_method_80_code, 2, some .int, 1)
def pv_m204 : pv_M := (⟨"ScheduleDeskModel", "told", "(I)I"⟩, prog_10_method_83_code, 2, some .int, 1)
def pv_m205 : pv_M := (⟨"ScheduleDeskModel", "told7", "(I)I"⟩, prog_10_method_82_code, 5, some .int, 1)
def pv_m206 : pv_M := (⟨"ScheduleDeskModel", "unlikeDays", "()I"⟩, prog_10_method_81_code, 5, some .int, 0)
def pv_m207 : pv_M := (⟨"ScheduleDeskModel", "list", "(II)I"⟩, prog_10_method_85_code, 4, some .int, 2)
def pv_m208 : pv_M := (⟨"ScheduleDeskModel", "isList", "(I)Z"⟩, prog_10_method_84_code, 1, some .boolean, 1)
def pv_m209 : pv_M := (⟨"ScheduleDeskModel", "set", "(IIJ)I"⟩, prog_10_method_86_code, 5, some .int, 3)
def pv_m210 : pv_M := (⟨"ScheduleDeskModel", "get", "(II)J"⟩, prog_10_method_87_code, 3, some .long, 2)
def pv_m211 : pv_M := (⟨"ScheduleDeskModel", "judge", "(IIII)I"⟩, prog_10_method_88_code, 12, some .int, 4)
def pv_m212 : pv_M := (⟨"ScheduleDeskModel", "image", "()I"⟩, prog_10_method_92_code, 2, some .int, 0)
def pv_m213 : pv_M := (⟨"ScheduleDeskModel", "keeps", "(Z)V"⟩, prog_10_method_91_code, 4, none, 1)
def pv_m214 : pv_M := (⟨"ScheduleDeskModel", "keepsRow", "([IIZ)V"⟩, prog_10_method_89_code, 6, none, 3)
def pv_m215 : pv_M := (⟨"ScheduleDeskModel", "keepsLongs", "([JIZ)V"⟩, prog_10_method_90_code, 6, none, 3)
def pv_m216 : pv_M := (⟨"ScheduleDeskModel", "undo", "()I"⟩, prog_10_method_93_code, 2, some .int, 0)
def pv_MI (k : Nat) : Option pv_M := bif Nat.blt k 217 then (bif Nat.blt k 108 then (bif Nat.blt k 54 then (bif Nat.blt k 27 then (bif Nat.blt k 13 then (bif Nat.blt k 6 then (bif Nat.blt k 3 then (bif Nat.blt k 1 then some pv_m0 else (bif Nat.blt k 2 then some pv_m1 else some pv_m2)) else (bif Nat.blt k 4 then some pv_m3 else (bif Nat.blt k 5 then some pv_m4 else some pv_m5))) else (bif Nat.blt k 9 then (bif Nat.blt k 7 then some pv_m6 else (bif Nat.blt k 8 then some pv_m7 else some pv_m8)) else (bif Nat.blt k 11 then (bif Nat.blt k 10 then some pv_m9 else some pv_m10) else (bif Nat.blt k 12 then some pv_m11 else some pv_m12)))) else (bif Nat.blt k 20 then (bif Nat.blt k 16 then (bif Nat.blt k 14 then some pv_m13 else (bif Nat.blt k 15 then some pv_m14 else some pv_m15)) else (bif Nat.blt k 18 then (bif Nat.blt k 17 then some pv_m16 else some pv_m17) else (bif Nat.blt k 19 then some pv_m18 else some pv_m19))) else (bif Nat.blt k 23 then (bif Nat.blt k 21 then some pv_m20 else (bif Nat.blt k 22 then some pv_m21 else some pv_m22)) else (bif Nat.blt k 25 then (bif Nat.blt k 24 then some pv_m23 else some pv_m24) else (bif Nat.blt k 26 then some pv_m25 else some pv_m26))))) else (bif Nat.blt k 40 then (bif Nat.blt k 33 then (bif Nat.blt k 30 then (bif Nat.blt k 28 then some pv_m27 else (bif Nat.blt k 29 then some pv_m28 else some pv_m29)) else (bif Nat.blt k 31 then some pv_m30 else (bif Nat.blt k 32 then some pv_m31 else some pv_m32))) else (bif Nat.blt k 36 then (bif Nat.blt k 34 then some pv_m33 else (bif Nat.blt k 35 then some pv_m34 else some pv_m35)) else (bif Nat.blt k 38 then (bif Nat.blt k 37 then some pv_m36 else some pv_m37) else (bif Nat.blt k 39 then some pv_m38 else some pv_m39)))) else (bif Nat.blt k 47 then (bif Nat.blt k 43 then (bif Nat.blt k 41 then some pv_m40 else (bif Nat.blt k 42 then some pv_m41 else some pv_m42)) else (bif Nat.blt k 45 then (bif Nat.blt k 44 then some pv_m43 else some pv_m44) else (bif Nat.blt k 46 then some pv_m45 else some pv_m46))) else (bif Nat.blt k 50 then (bif Nat.blt k 48 then some pv_m47 else (bif Nat.blt k 49 then some pv_m48 else some pv_m49)) else (bif Nat.blt k 52 then (bif Nat.blt k 51 then some pv_m50 else some pv_m51) else (bif Nat.blt k 53 then some pv_m52 else some pv_m53)))))) else (bif Nat.blt k 81 then (bif Nat.blt k 67 then (bif Nat.blt k 60 then (bif Nat.blt k 57 then (bif Nat.blt k 55 then some pv_m54 else (bif Nat.blt k 56 then some pv_m55 else some pv_m56)) else (bif Nat.blt k 58 then some pv_m57 else (bif Nat.blt k 59 then some pv_m58 else some pv_m59))) else (bif Nat.blt k 63 then (bif Nat.blt k 61 then some pv_m60 else (bif Nat.blt k 62 then some pv_m61 else some pv_m62)) else (bif Nat.blt k 65 then (bif Nat.blt k 64 then some pv_m63 else some pv_m64) else (bif Nat.blt k 66 then some pv_m65 else some pv_m66)))) else (bif Nat.blt k 74 then (bif Nat.blt k 70 then (bif Nat.blt k 68 then some pv_m67 else (bif Nat.blt k 69 then some pv_m68 else some pv_m69)) else (bif Nat.blt k 72 then (bif Nat.blt k 71 then some pv_m70 else some pv_m71) else (bif Nat.blt k 73 then some pv_m72 else some pv_m73))) else (bif Nat.blt k 77 then (bif Nat.blt k 75 then some pv_m74 else (bif Nat.blt k 76 then some pv_m75 else some pv_m76)) else (bif Nat.blt k 79 then (bif Nat.blt k 78 then some pv_m77 else some pv_m78) else (bif Nat.blt k 80 then some pv_m79 else some pv_m80))))) else (bif Nat.blt k 94 then (bif Nat.blt k 87 then (bif Nat.blt k 84 then (bif Nat.blt k 82 then some pv_m81 else (bif Nat.blt k 83 then some pv_m82 else some pv_m83)) else (bif Nat.blt k 85 then some pv_m84 else (bif Nat.blt k 86 then some pv_m85 else some pv_m86))) else (bif Nat.blt k 90 then (bif Nat.blt k 88 then some pv_m87 else (bif Nat.blt k 89 then some pv_m88 else some pv_m89)) else (bif Nat.blt k 92 then (bif Nat.blt k 91 then some pv_m90 else some pv_m91) else (bif Nat.blt k 93 then some pv_m92 else some pv_m93)))) else (bif Nat.blt k 101 then (bif Nat.blt k 97 then (bif Nat.blt k 95 then some pv_m94 else (bif Nat.blt k 96 then some pv_m95 else some pv_m96)) else (bif Nat.blt k 99 then (bif Nat.blt k 98 then some pv_m97 else some pv_m98) else (bif Nat.blt k 100 then some pv_m99 else some pv_m100))) else (bif Nat.blt k 104 then (bif Nat.blt k 102 then some pv_m101 else (bif Nat.blt k 103 then some pv_m102 else some pv_m103)) else (bif Nat.blt k 106 then (bif Nat.blt k 105 then some pv_m104 else some pv_m105) else (bif Nat.blt k 107 then some pv_m106 else some pv_m107))))))) else (bif Nat.blt k 162 then (bif Nat.blt k 135 then (bif Nat.blt k 121 then (bif Nat.blt k 114 then (bif Nat.blt k 111 then (bif Nat.blt k 109 then some pv_m108 else (bif Nat.blt k 110 then some pv_m109 else some pv_m110)) else (bif Nat.blt k 112 then some pv_m111 else (bif Nat.blt k 113 then some pv_m112 else some pv_m113))) else (bif Nat.blt k 117 then (bif Nat.blt k 115 then some pv_m114 else (bif Nat.blt k 116 then some pv_m115 else some pv_m116)) else (bif Nat.blt k 119 then (bif Nat.blt k 118 then some pv_m117 else some pv_m118) else (bif Nat.blt k 120 then some pv_m119 else some pv_m120)))) else (bif Nat.blt k 128 then (bif Nat.blt k 124 then (bif Nat.blt k 122 then some pv_m121 else (bif Nat.blt k 123 then some pv_m122 else some pv_m123)) else (bif Nat.blt k 126 then (bif Nat.blt k 125 then some pv_m124 else some pv_m125) else (bif Nat.blt k 127 then some pv_m126 else some pv_m127))) else (bif Nat.blt k 131 then (bif Nat.blt k 129 then some pv_m128 else (bif Nat.blt k 130 then some pv_m129 else some pv_m130)) else (bif Nat.blt k 133 then (bif Nat.blt k 132 then some pv_m131 else some pv_m132) else (bif Nat.blt k 134 then some pv_m133 else some pv_m134))))) else (bif Nat.blt k 148 then (bif Nat.blt k 141 then (bif Nat.blt k 138 then (bif Nat.blt k 136 then some pv_m135 else (bif Nat.blt k 137 then some pv_m136 else some pv_m137)) else (bif Nat.blt k 139 then some pv_m138 else (bif Nat.blt k 140 then some pv_m139 else some pv_m140))) else (bif Nat.blt k 144 then (bif Nat.blt k 142 then some pv_m141 else (bif Nat.blt k 143 then some pv_m142 else some pv_m143)) else (bif Nat.blt k 146 then (bif Nat.blt k 145 then some pv_m144 else some pv_m145) else (bif Nat.blt k 147 then some pv_m146 else some pv_m147)))) else (bif Nat.blt k 155 then (bif Nat.blt k 151 then (bif Nat.blt k 149 then some pv_m148 else (bif Nat.blt k 150 then some pv_m149 else some pv_m150)) else (bif Nat.blt k 153 then (bif Nat.blt k 152 then some pv_m151 else some pv_m152) else (bif Nat.blt k 154 then some pv_m153 else some pv_m154))) else (bif Nat.blt k 158 then (bif Nat.blt k 156 then some pv_m155 else (bif Nat.blt k 157 then some pv_m156 else some pv_m157)) else (bif Nat.blt k 160 then (bif Nat.blt k 159 then some pv_m158 else some pv_m159) else (bif Nat.blt k 161 then some pv_m160 else some pv_m161)))))) else (bif Nat.blt k 189 then (bif Nat.blt k 175 then (bif Nat.blt k 168 then (bif Nat.blt k 165 then (bif Nat.blt k 163 then some pv_m162 else (bif Nat.blt k 164 then some pv_m163 else some pv_m164)) else (bif Nat.blt k 166 then some pv_m165 else (bif Nat.blt k 167 then some pv_m166 else some pv_m167))) else (bif Nat.blt k 171 then (bif Nat.blt k 169 then some pv_m168 else (bif Nat.blt k 170 then some pv_m169 else some pv_m170)) else (bif Nat.blt k 173 then (bif Nat.blt k 172 then some pv_m171 else some pv_m172) else (bif Nat.blt k 174 then some pv_m173 else some pv_m174)))) else (bif Nat.blt k 182 then (bif Nat.blt k 178 then (bif Nat.blt k 176 then some pv_m175 else (bif Nat.blt k 177 then some pv_m176 else some pv_m177)) else (bif Nat.blt k 180 then (bif Nat.blt k 179 then some pv_m178 else some pv_m179) else (bif Nat.blt k 181 then some pv_m180 else some pv_m181))) else (bif Nat.blt k 185 then (bif Nat.blt k 183 then some pv_m182 else (bif Nat.blt k 184 then some pv_m183 else some pv_m184)) else (bif Nat.blt k 187 then (bif Nat.blt k 186 then some pv_m185 else some pv_m186) else (bif Nat.blt k 188 then some pv_m187 else some pv_m188))))) else (bif Nat.blt k 203 then (bif Nat.blt k 196 then (bif Nat.blt k 192 then (bif Nat.blt k 190 then some pv_m189 else (bif Nat.blt k 191 then some pv_m190 else some pv_m191)) else (bif Nat.blt k 194 then (bif Nat.blt k 193 then some pv_m192 else some pv_m193) else (bif Nat.blt k 195 then some pv_m194 else some pv_m195))) else (bif Nat.blt k 199 then (bif Nat.blt k 197 then some pv_m196 else (bif Nat.blt k 198 then some pv_m197 else some pv_m198)) else (bif Nat.blt k 201 then (bif Nat.blt k 200 then some pv_m199 else some pv_m200) else (bif Nat.blt k 202 then some pv_m201 else some pv_m202)))) else (bif Nat.blt k 210 then (bif Nat.blt k 206 then (bif Nat.blt k 204 then some pv_m203 else (bif Nat.blt k 205 then some pv_m204 else some pv_m205)) else (bif Nat.blt k 208 then (bif Nat.blt k 207 then some pv_m206 else some pv_m207) else (bif Nat.blt k 209 then some pv_m208 else some pv_m209))) else (bif Nat.blt k 213 then (bif Nat.blt k 211 then some pv_m210 else (bif Nat.blt k 212 then some pv_m211 else some pv_m212)) else (bif Nat.blt k 215 then (bif Nat.blt k 214 then some pv_m213 else some pv_m214) else (bif Nat.blt k 216 then some pv_m215 else some pv_m216)))))))) else none
theorem pv_pl0 : ∀ k, k < 217 → (pv_MI k).all (fun M => plainName M.1.cls) = true := by decide +kernel
theorem pv_MI_out {k : Nat} (h : ¬ k < 217) : pv_MI k = none := by
  unfold pv_MI
  cases hb : Nat.blt k 217 with
  | true => exact absurd (Nat.le_of_ble_eq_true hb) h
  | false => rfl
theorem pv_pl (k : Nat) (M : pv_M) (h : pv_MI k = some M) : plainName M.1.cls = true := by
  by_cases hk : k < 217
  · have h1 := pv_pl0 k hk
    rw [h] at h1
    exact h1
  · rw [pv_MI_out hk] at h
    cases h
theorem pv_k1 : pv_mOk pv_GW pv_m1 := ⟨by decide +kernel, pv_gw (n := 21) (by decide +kernel) rfl, ⟨by decide +kernel, by decide +kernel, by decide +kernel⟩, Nat.le_of_ble_eq_true rfl⟩
theorem pv_k2 : pv_mOk pv_GW pv_m2 := ⟨by decide +kernel, pv_gw (n := 29) (by decide +kernel) rfl, ⟨by decide +kernel, by decide +kernel, by decide +kernel⟩, Nat.le_of_ble_eq_true rfl⟩
theorem pv_k3 : pv_mOk pv_GW pv_m3 := ⟨by decide +kernel, pv_gw (n := 110) (by decide +kernel) rfl, ⟨by decide +kernel, by decide +kernel, by decide +kernel⟩, Nat.le_of_ble_eq_true rfl⟩
theorem pv_k4 : pv_mOk pv_GW pv_m4 := ⟨by decide +kernel, pv_gw (n := 125) (by decide +kernel) rfl, ⟨by decide +kernel, by decide +kernel, by decide +kernel⟩, Nat.le_of_ble_eq_true rfl⟩
theorem pv_k5 : pv_mOk pv_GW pv_m5 := ⟨by decide +kernel, pv_gw (n := 167) (by decide +kernel) rfl, ⟨by decide +kernel, by decide +kernel, by decide +kernel⟩, Nat.le_of_ble_eq_true rfl⟩
theorem pv_k6 : pv_mOk pv_GW pv_m6 := ⟨by decide +kernel, pv_gw (n := 182) (by decide +kernel) rfl, ⟨by decide +kernel, by decide +kernel, by decide +kernel⟩, Nat.le_of_ble_eq_true rfl⟩
theorem pv_k7 : pv_mOk pv_GW pv_m7 := ⟨by decide +kernel, pv_gw (n := 206) (by decide +kernel) rfl, ⟨by decide +kernel, by decide +kernel, by decide +kernel⟩, Nat.le_of_ble_eq_true rfl⟩
theorem pv_k8 : pv_mOk pv_GW pv_m8 := ⟨by decide +kernel, pv_gw (n := 221) (by decide +kernel) rfl, ⟨by decide +kernel, by decide +kernel, by decide +kernel⟩, Nat.le_of_ble_eq_true rfl⟩
theorem pv_k9 : pv_mOk pv_GW pv_m9 := ⟨by decide +kernel, pv_gw (n := 236) (by decide +kernel) rfl, ⟨by decide +kernel, by decide +kernel, by decide +kernel⟩, Nat.le_of_ble_eq_true rfl⟩
theorem pv_k10 : pv_mOk pv_GW pv_m10 := ⟨by decide +kernel, pv_gw (n := 269) (by decide +kernel) rfl, ⟨by decide +kernel, by decide +kernel, by decide +kernel⟩, Nat.le_of_ble_eq_true rfl⟩
theorem pv_k11 : pv_mOk pv_GW pv_m11 := ⟨by decide +kernel, pv_gw (n := 273) (by decide +kernel) rfl, ⟨by decide +kernel, by decide +kernel, by decide +kernel⟩, Nat.le_of_ble_eq_true rfl⟩
theorem pv_k12 : pv_mOk pv_GW pv_m12 := ⟨by decide +kernel, pv_gw (n := 277) (by decide +kernel) rfl, ⟨by decide +kernel, by decide +kernel, by decide +kernel⟩, Nat.le_of_ble_eq_true rfl⟩
theorem pv_k13 : pv_mOk pv_GW pv_m13 := ⟨by decide +kernel, pv_gw (n := 281) (by decide +kernel) rfl, ⟨by decide +kernel, by decide +kernel, by decide +kernel⟩, Nat.le_of_ble_eq_true rfl⟩
theorem pv_k14 : pv_mOk pv_GW pv_m14 := ⟨by decide +kernel, pv_gw (n := 284) (by decide +kernel) rfl, ⟨by decide +kernel, by decide +kernel, by decide +kernel⟩, Nat.le_of_ble_eq_true rfl⟩
theorem pv_k15 : pv_mOk pv_GW pv_m15 := ⟨by decide +kernel, pv_gw (n := 288) (by decide +kernel) rfl, ⟨by decide +kernel, by decide +kernel, by decide +kernel⟩, Nat.le_of_ble_eq_true rfl⟩
theorem pv_k16 : pv_mOk pv_GW pv_m16 := ⟨by decide +kernel, pv_gw (n := 291) (by decide +kernel) rfl, ⟨by decide +kernel, by decide +kernel, by decide +kernel⟩, Nat.le_of_ble_eq_true rfl⟩
theorem pv_k17 : pv_mOk pv_GW pv_m17 := ⟨by decide +kernel, pv_gw (n := 295) (by decide +kernel) rfl, ⟨by decide +kernel, by decide +kernel, by decide +kernel⟩, Nat.le_of_ble_eq_true rfl⟩
theorem pv_k18 : pv_mOk pv_GW pv_m18 := ⟨by decide +kernel, pv_gw (n := 299) (by decide +kernel) rfl, ⟨by decide +kernel, by decide +kernel, by decide +kernel⟩, Nat.le_of_ble_eq_true rfl⟩
theorem pv_k19 : pv_mOk pv_GW pv_m19 := ⟨by decide +kernel, pv_gw (n := 303) (by decide +kernel) rfl, ⟨by decide +kernel, by decide +kernel, by decide +kernel⟩, Nat.le_of_ble_eq_true rfl⟩
theorem pv_k20 : pv_mOk pv_GW pv_m20 := ⟨by decide +kernel, pv_gw (n := 308) (by decide +kernel) rfl, ⟨by decide +kernel, by decide +kernel, by decide +kernel⟩, Nat.le_of_ble_eq_true rfl⟩
theorem pv_k21 : pv_mOk pv_GW pv_m21 := ⟨by decide +kernel, pv_gw (n := 312) (by decide +kernel) rfl, ⟨by decide +kernel, by decide +kernel, by decide +kernel⟩, Nat.le_of_ble_eq_true rfl⟩
theorem pv_k22 : pv_mOk pv_GW pv_m22 := ⟨by decide +kernel, pv_gw (n := 316) (by decide +kernel) rfl, ⟨by decide +kernel, by decide +kernel, by decide +kernel⟩, Nat.le_of_ble_eq_true rfl⟩
theorem pv_k23 : pv_mOk pv_GW pv_m23 := ⟨by decide +kernel, pv_gw (n := 321) (by decide +kernel) rfl, ⟨by decide +kernel, by decide +kernel, by decide +kernel⟩, Nat.le_of_ble_eq_true rfl⟩
theorem pv_k24 : pv_mOk pv_GW pv_m24 := ⟨by decide +kernel, pv_gw (n := 324) (by decide +kernel) rfl, ⟨by decide +kernel, by decide +kernel, by decide +kernel⟩, Nat.le_of_ble_eq_true rfl⟩
theorem pv_k25 : pv_mOk pv_GW pv_m25 := ⟨by decide +kernel, pv_gw (n := 328) (by decide +kernel) rfl, ⟨by decide +kernel, by decide +kernel, by decide +kernel⟩, Nat.le_of_ble_eq_true rfl⟩
theorem pv_k26 : pv_mOk pv_GW pv_m26 := ⟨by decide +kernel, pv_gw (n := 333) (by decide +kernel) rfl, ⟨by decide +kernel, by decide +kernel, by decide +kernel⟩, Nat.le_of_ble_eq_true rfl⟩
theorem pv_k27 : pv_mOk pv_GW pv_m27 := ⟨by decide +kernel, pv_gw (n := 337) (by decide +kernel) rfl, ⟨by decide +kernel, by decide +kernel, by decide +kernel⟩, Nat.le_of_ble_eq_true rfl⟩
theorem pv_k28 : pv_mOk pv_GW pv_m28 := ⟨by decide +kernel, pv_gw (n := 340) (by decide +kernel) rfl, ⟨by decide +kernel, by decide +kernel, by decide +kernel⟩, Nat.le_of_ble_eq_true rfl⟩
theorem pv_k29 : pv_mOk pv_GW pv_m29 := ⟨by decide +kernel, pv_gw (n := 345) (by decide +kernel) rfl, ⟨by decide +kernel, by decide +kernel, by decide +kernel⟩, Nat.le_of_ble_eq_true rfl⟩
theorem pv_k30 : pv_mOk pv_GW pv_m30 := ⟨by decide +kernel, pv_gw (n := 349) (by decide +kernel) rfl, ⟨by decide +kernel, by decide +kernel, by decide +kernel⟩, Nat.le_of_ble_eq_true rfl⟩
theorem pv_k31 : pv_mOk pv_GW pv_m31 := ⟨by decide +kernel, pv_gw (n := 354) (by decide +kernel) rfl, ⟨by decide +kernel, by decide +kernel, by decide +kernel⟩, Nat.le_of_ble_eq_true rfl⟩
theorem pv_k32 : pv_mOk pv_GW pv_m32 := ⟨by decide +kernel, pv_gw (n := 358) (by decide +kernel) rfl, ⟨by decide +kernel, by decide +kernel, by decide +kernel⟩, Nat.le_of_ble_eq_true rfl⟩
theorem pv_k33 : pv_mOk pv_GW pv_m33 := ⟨by decide +kernel, pv_gw (n := 364) (by decide +kernel) rfl, ⟨by decide +kernel, by decide +kernel, by decide +kernel⟩, Nat.le_of_ble_eq_true rfl⟩
theorem pv_k34 : pv_mOk pv_GW pv_m34 := ⟨by decide +kernel, pv_gw (n := 368) (by decide +kernel) rfl, ⟨by decide +kernel, by decide +kernel, by decide +kernel⟩, Nat.le_of_ble_eq_true rfl⟩
theorem pv_k35 : pv_mOk pv_GW pv_m35 := ⟨by decide +kernel, pv_gw (n := 372) (by decide +kernel) rfl, ⟨by decide +kernel, by decide +kernel, by decide +kernel⟩, Nat.le_of_ble_eq_true rfl⟩
theorem pv_k36 : pv_mOk pv_GW pv_m36 := ⟨by decide +kernel, pv_gw (n := 376) (by decide +kernel) rfl, ⟨by decide +kernel, by decide +kernel, by decide +kernel⟩, Nat.le_of_ble_eq_true rfl⟩
theorem pv_k37 : pv_mOk pv_GW pv_m37 := ⟨by decide +kernel, pv_gw (n := 380) (by decide +kernel) rfl, ⟨by decide +kernel, by decide +kernel, by decide +kernel⟩, Nat.le_of_ble_eq_true rfl⟩
theorem pv_k38 : pv_mOk pv_GW pv_m38 := ⟨by decide +kernel, pv_gw (n := 383) (by decide +kernel) rfl, ⟨by decide +kernel, by decide +kernel, by decide +kernel⟩, Nat.le_of_ble_eq_true rfl⟩
theorem pv_k39 : pv_mOk pv_GW pv_m39 := ⟨by decide +kernel, pv_gw (n := 390) (by decide +kernel) rfl, ⟨by decide +kernel, by decide +kernel, by decide +kernel⟩, Nat.le_of_ble_eq_true rfl⟩
theorem pv_k40 : pv_mOk pv_GW pv_m40 := ⟨by decide +kernel, pv_gw (n := 394) (by decide +kernel) rfl, ⟨by decide +kernel, by decide +kernel, by decide +kernel⟩, Nat.le_of_ble_eq_true rfl⟩
theorem pv_k41 : pv_mOk pv_GW pv_m41 := ⟨by decide +kernel, pv_gw (n := 398) (by decide +kernel) rfl, ⟨by decide +kernel, by decide +kernel, by decide +kernel⟩, Nat.le_of_ble_eq_true rfl⟩
theorem pv_k42 : pv_mOk pv_GW pv_m42 := ⟨by decide +kernel, pv_gw (n := 402) (by decide +kernel) rfl, ⟨by decide +kernel, by decide +kernel, by decide +kernel⟩, Nat.le_of_ble_eq_true rfl⟩
theorem pv_k43 : pv_mOk pv_GW pv_m43 := ⟨by decide +kernel, pv_gw (n := 407) (by decide +kernel) rfl, ⟨by decide +kernel, by decide +kernel, by decide +kernel⟩, Nat.le_of_ble_eq_true rfl⟩
theorem pv_k44 : pv_mOk pv_GW pv_m44 := ⟨by decide +kernel, pv_gw (n := 411) (by decide +kernel) rfl, ⟨by decide +kernel, by decide +kernel, by decide +kernel⟩, Nat.le_of_ble_eq_true rfl⟩
theorem pv_k45 : pv_mOk pv_GW pv_m45 := ⟨by decide +kernel, pv_gw (n := 416) (by decide +kernel) rfl, ⟨by decide +kernel, by decide +kernel, by decide +kernel⟩, Nat.le_of_ble_eq_true rfl⟩
theorem pv_k46 : pv_mOk pv_GW pv_m46 := ⟨by decide +kernel, pv_gw (n := 422) (by decide +kernel) rfl, ⟨by decide +kernel, by decide +kernel, by decide +kernel⟩, Nat.le_of_ble_eq_true rfl⟩
theorem pv_k47 : pv_mOk pv_GW pv_m47 := ⟨by decide +kernel, pv_gw (n := 429) (by decide +kernel) rfl, ⟨by decide +kernel, by decide +kernel, by decide +kernel⟩, Nat.le_of_ble_eq_true rfl⟩
theorem pv_k48 : pv_mOk pv_GW pv_m48 := ⟨by decide +kernel, pv_gw (n := 433) (by decide +kernel) rfl, ⟨by decide +kernel, by decide +kernel, by decide +kernel⟩, Nat.le_of_ble_eq_true rfl⟩
theorem pv_k49 : pv_mOk pv_GW pv_m49 := ⟨by decide +kernel, pv_gw (n := 437) (by decide +kernel) rfl, ⟨by decide +kernel, by decide +kernel, by decide +kernel⟩, Nat.le_of_ble_eq_true rfl⟩
theorem pv_k50 : pv_mOk pv_GW pv_m50 := ⟨by decide +kernel, pv_gw (n := 441) (by decide +kernel) rfl, ⟨by decide +kernel, by decide +kernel, by decide +kernel⟩, Nat.le_of_ble_eq_true rfl⟩
theorem pv_k51 : pv_mOk pv_GW pv_m51 := ⟨by decide +kernel, pv_gw (n := 445) (by decide +kernel) rfl, ⟨by decide +kernel, by decide +kernel, by decide +kernel⟩, Nat.le_of_ble_eq_true rfl⟩
theorem pv_k52 : pv_mOk pv_GW pv_m52 := ⟨by decide +kernel, pv_gw (n := 449) (by decide +kernel) rfl, ⟨by decide +kernel, by decide +kernel, by decide +kernel⟩, Nat.le_of_ble_eq_true rfl⟩
theorem pv_k53 : pv_mOk pv_GW pv_m53 := ⟨by decide +kernel, pv_gw (n := 453) (by decide +kernel) rfl, ⟨by decide +kernel, by decide +kernel, by decide +kernel⟩, Nat.le_of_ble_eq_true rfl⟩
theorem pv_k54 : pv_mOk pv_GW pv_m54 := ⟨by decide +kernel, pv_gw (n := 457) (by decide +kernel) rfl, ⟨by decide +kernel, by decide +kernel, by decide +kernel⟩, Nat.le_of_ble_eq_true rfl⟩
theorem pv_k55 : pv_mOk pv_GW pv_m55 := ⟨by decide +kernel, pv_gw (n := 462) (by decide +kernel) rfl, ⟨by decide +kernel, by decide +kernel, by decide +kernel⟩, Nat.le_of_ble_eq_true rfl⟩
theorem pv_k56 : pv_mOk pv_GW pv_m56 := ⟨by decide +kernel, pv_gw (n := 466) (by decide +kernel) rfl, ⟨by decide +kernel, by decide +kernel, by decide +kernel⟩, Nat.le_of_ble_eq_true rfl⟩
theorem pv_k57 : pv_mOk pv_GW pv_m57 := ⟨by decide +kernel, pv_gw (n := 471) (by decide +kernel) rfl, ⟨by decide +kernel, by decide +kernel, by decide +kernel⟩, Nat.le_of_ble_eq_true rfl⟩
theorem pv_k58 : pv_mOk pv_GW pv_m58 := ⟨by decide +kernel, pv_gw (n := 475) (by decide +kernel) rfl, ⟨by decide +kernel, by decide +kernel, by decide +kernel⟩, Nat.le_of_ble_eq_true rfl⟩
theorem pv_k59 : pv_mOk pv_GW pv_m59 := ⟨by decide +kernel, pv_gw (n := 479) (by decide +kernel) rfl, ⟨by decide +kernel, by decide +kernel, by decide +kernel⟩, Nat.le_of_ble_eq_true rfl⟩
theorem pv_k60 : pv_mOk pv_GW pv_m60 := ⟨by decide +kernel, pv_gw (n := 483) (by decide +kernel) rfl, ⟨by decide +kernel, by decide +kernel, by decide +kernel⟩, Nat.le_of_ble_eq_true rfl⟩
theorem pv_k61 : pv_mOk pv_GW pv_m61 := ⟨by decide +kernel, pv_gw (n := 487) (by decide +kernel) rfl, ⟨by decide +kernel, by decide +kernel, by decide +kernel⟩, Nat.le_of_ble_eq_true rfl⟩
theorem pv_k62 : pv_mOk pv_GW pv_m62 := ⟨by decide +kernel, pv_gw (n := 491) (by decide +kernel) rfl, ⟨by decide +kernel, by decide +kernel, by decide +kernel⟩, Nat.le_of_ble_eq_true rfl⟩
theorem pv_k63 : pv_mOk pv_GW pv_m63 := ⟨by decide +kernel, pv_gw (n := 495) (by decide +kernel) rfl, ⟨by decide +kernel, by decide +kernel, by decide +kernel⟩, Nat.le_of_ble_eq_true rfl⟩
theorem pv_k64 : pv_mOk pv_GW pv_m64 := ⟨by decide +kernel, pv_gw (n := 499) (by decide +kernel) rfl, ⟨by decide +kernel, by decide +kernel, by decide +kernel⟩, Nat.le_of_ble_eq_true rfl⟩
theorem pv_k65 : pv_mOk pv_GW pv_m65 := ⟨by decide +kernel, pv_gw (n := 509) (by decide +kernel) rfl, ⟨by decide +kernel, by decide +kernel, by decide +kernel⟩, Nat.le_of_ble_eq_true rfl⟩
theorem pv_k66 : pv_mOk pv_GW pv_m66 := ⟨by decide +kernel, pv_gw (n := 513) (by decide +kernel) rfl, ⟨by decide +kernel, by decide +kernel, by decide +kernel⟩, Nat.le_of_ble_eq_true rfl⟩
theorem pv_k67 : pv_mOk pv_GW pv_m67 := ⟨by decide +kernel, pv_gw (n := 517) (by decide +kernel) rfl, ⟨by decide +kernel, by decide +kernel, by decide +kernel⟩, Nat.le_of_ble_eq_true rfl⟩
theorem pv_k68 : pv_mOk pv_GW pv_m68 := ⟨by decide +kernel, pv_gw (n := 522) (by decide +kernel) rfl, ⟨by decide +kernel, by decide +kernel, by decide +kernel⟩, Nat.le_of_ble_eq_true rfl⟩
theorem pv_k69 : pv_mOk pv_GW pv_m69 := ⟨by decide +kernel, pv_gw (n := 526) (by decide +kernel) rfl, ⟨by decide +kernel, by decide +kernel, by decide +kernel⟩, Nat.le_of_ble_eq_true rfl⟩
theorem pv_k70 : pv_mOk pv_GW pv_m70 := ⟨by decide +kernel, pv_gw (n := 531) (by decide +kernel) rfl, ⟨by decide +kernel, by decide +kernel, by decide +kernel⟩, Nat.le_of_ble_eq_true rfl⟩
theorem pv_k71 : pv_mOk pv_GW pv_m71 := ⟨by decide +kernel, pv_gw (n := 535) (by decide +kernel) rfl, ⟨by decide +kernel, by decide +kernel, by decide +kernel⟩, Nat.le_of_ble_eq_true rfl⟩
theorem pv_k72 : pv_mOk pv_GW pv_m72 := ⟨by decide +kernel, pv_gw (n := 539) (by decide +kernel) rfl, ⟨by decide +kernel, by decide +kernel, by decide +kernel⟩, Nat.le_of_ble_eq_true rfl⟩
theorem pv_k73 : pv_mOk pv_GW pv_m73 := ⟨by decide +kernel, pv_gw (n := 543) (by decide +kernel) rfl, ⟨by decide +kernel, by decide +kernel, by decide +kernel⟩, Nat.le_of_ble_eq_true rfl⟩
theorem pv_k74 : pv_mOk pv_GW pv_m74 := ⟨by decide +kernel, pv_gw (n := 548) (by decide +kernel) rfl, ⟨by decide +kernel, by decide +kernel, by decide +kernel⟩, Nat.le_of_ble_eq_true rfl⟩
theorem pv_k75 : pv_mOk pv_GW pv_m75 := ⟨by decide +kernel, pv_gw (n := 552) (by decide +kernel) rfl, ⟨by decide +kernel, by decide +kernel, by decide +kernel⟩, Nat.le_of_ble_eq_true rfl⟩
theorem pv_k76 : pv_mOk pv_GW pv_m76 := ⟨by decide +kernel, pv_gw (n := 556) (by decide +kernel) rfl, ⟨by decide +kernel, by decide +kernel, by decide +kernel⟩, Nat.le_of_ble_eq_true rfl⟩
theorem pv_k77 : pv_mOk pv_GW pv_m77 := ⟨by decide +kernel, pv_gw (n := 562) (by decide +kernel) rfl, ⟨by decide +kernel, by decide +kernel, by decide +kernel⟩, Nat.le_of_ble_eq_true rfl⟩
theorem pv_k78 : pv_mOk pv_GW pv_m78 := ⟨by decide +kernel, pv_gw (n := 566) (by decide +kernel) rfl, ⟨by decide +kernel, by decide +kernel, by decide +kernel⟩, Nat.le_of_ble_eq_true rfl⟩
theorem pv_k79 : pv_mOk pv_GW pv_m79 := ⟨by decide +kernel, pv_gw (n := 570) (by decide +kernel) rfl, ⟨by decide +kernel, by decide +kernel, by decide +kernel⟩, Nat.le_of_ble_eq_true rfl⟩
theorem pv_k80 : pv_mOk pv_GW pv_m80 := ⟨by decide +kernel, pv_gw (n := 574) (by decide +kernel) rfl, ⟨by decide +kernel, by decide +kernel, by decide +kernel⟩, Nat.le_of_ble_eq_true rfl⟩
theorem pv_k81 : pv_mOk pv_GW pv_m81 := ⟨by decide +kernel, pv_gw (n := 578) (by decide +kernel) rfl, ⟨by decide +kernel, by decide +kernel, by decide +kernel⟩, Nat.le_of_ble_eq_true rfl⟩
theorem pv_k82 : pv_mOk pv_GW pv_m82 := ⟨by decide +kernel, pv_gw (n := 582) (by decide +kernel) rfl, ⟨by decide +kernel, by decide +kernel, by decide +kernel⟩, Nat.le_of_ble_eq_true rfl⟩
theorem pv_k83 : pv_mOk pv_GW pv_m83 := ⟨by decide +kernel, pv_gw (n := 586) (by decide +kernel) rfl, ⟨by decide +kernel, by decide +kernel, by decide +kernel⟩, Nat.le_of_ble_eq_true rfl⟩
theorem pv_k84 : pv_mOk pv_GW pv_m84 := ⟨by decide +kernel, pv_gw (n := 590) (by decide +kernel) rfl, ⟨by decide +kernel, by decide +kernel, by decide +kernel⟩, Nat.le_of_ble_eq_true rfl⟩
theorem pv_k85 : pv_mOk pv_GW pv_m85 := ⟨by decide +kernel, pv_gw (n := 594) (by decide +kernel) rfl, ⟨by decide +kernel, by decide +kernel, by decide +kernel⟩, Nat.le_of_ble_eq_true rfl⟩
theorem pv_k86 : pv_mOk pv_GW pv_m86 := ⟨by decide +kernel, pv_gw (n := 598) (by decide +kernel) rfl, ⟨by decide +kernel, by decide +kernel, by decide +kernel⟩, Nat.le_of_ble_eq_true rfl⟩
theorem pv_k87 : pv_mOk pv_GW pv_m87 := ⟨by decide +kernel, pv_gw (n := 602) (by decide +kernel) rfl, ⟨by decide +kernel, by decide +kernel, by decide +kernel⟩, Nat.le_of_ble_eq_true rfl⟩
theorem pv_k88 : pv_mOk pv_GW pv_m88 := ⟨by decide +kernel, pv_gw (n := 607) (by decide +kernel) rfl, ⟨by decide +kernel, by decide +kernel, by decide +kernel⟩, Nat.le_of_ble_eq_true rfl⟩
theorem pv_k89 : pv_mOk pv_GW pv_m89 := ⟨by decide +kernel, pv_gw (n := 611) (by decide +kernel) rfl, ⟨by decide +kernel, by decide +kernel, by decide +kernel⟩, Nat.le_of_ble_eq_true rfl⟩
theorem pv_k90 : pv_mOk pv_GW pv_m90 := ⟨by decide +kernel, pv_gw (n := 616) (by decide +kernel) rfl, ⟨by decide +kernel, by decide +kernel, by decide +kernel⟩, Nat.le_of_ble_eq_true rfl⟩
theorem pv_k91 : pv_mOk pv_GW pv_m91 := ⟨by decide +kernel, pv_gw (n := 621) (by decide +kernel) rfl, ⟨by decide +kernel, by decide +kernel, by decide +kernel⟩, Nat.le_of_ble_eq_true rfl⟩
theorem pv_k92 : pv_mOk pv_GW pv_m92 := ⟨by decide +kernel, pv_gw (n := 625) (by decide +kernel) rfl, ⟨by decide +kernel, by decide +kernel, by decide +kernel⟩, Nat.le_of_ble_eq_true rfl⟩
theorem pv_k93 : pv_mOk pv_GW pv_m93 := ⟨by decide +kernel, pv_gw (n := 629) (by decide +kernel) rfl, ⟨by decide +kernel, by decide +kernel, by decide +kernel⟩, Nat.le_of_ble_eq_true rfl⟩
theorem pv_k94 : pv_mOk pv_GW pv_m94 := ⟨by decide +kernel, pv_gw (n := 633) (by decide +kernel) rfl, ⟨by decide +kernel, by decide +kernel, by decide +kernel⟩, Nat.le_of_ble_eq_true rfl⟩
theorem pv_k95 : pv_mOk pv_GW pv_m95 := ⟨by decide +kernel, pv_gw (n := 637) (by decide +kernel) rfl, ⟨by decide +kernel, by decide +kernel, by decide +kernel⟩, Nat.le_of_ble_eq_true rfl⟩
theorem pv_k96 : pv_mOk pv_GW pv_m96 := ⟨by decide +kernel, pv_gw (n := 641) (by decide +kernel) rfl, ⟨by decide +kernel, by decide +kernel, by decide +kernel⟩, Nat.le_of_ble_eq_true rfl⟩
theorem pv_k97 : pv_mOk pv_GW pv_m97 := ⟨by decide +kernel, pv_gw (n := 645) (by decide +kernel) rfl, ⟨by decide +kernel, by decide +kernel, by decide +kernel⟩, Nat.le_of_ble_eq_true rfl⟩
theorem pv_k98 : pv_mOk pv_GW pv_m98 := ⟨by decide +kernel, pv_gw (n := 649) (by decide +kernel) rfl, ⟨by decide +kernel, by decide +kernel, by decide +kernel⟩, Nat.le_of_ble_eq_true rfl⟩
theorem pv_k99 : pv_mOk pv_GW pv_m99 := ⟨by decide +kernel, pv_gw (n := 653) (by decide +kernel) rfl, ⟨by decide +kernel, by decide +kernel, by decide +kernel⟩, Nat.le_of_ble_eq_true rfl⟩
theorem pv_k100 : pv_mOk pv_GW pv_m100 := ⟨by decide +kernel, pv_gw (n := 658) (by decide +kernel) rfl, ⟨by decide +kernel, by decide +kernel, by decide +kernel⟩, Nat.le_of_ble_eq_true rfl⟩
theorem pv_k101 : pv_mOk pv_GW pv_m101 := ⟨by decide +kernel, pv_gw (n := 718) (by decide +kernel) rfl, ⟨by decide +kernel, by decide +kernel, by decide +kernel⟩, Nat.le_of_ble_eq_true rfl⟩
theorem pv_k102 : pv_mOk pv_GW pv_m102 := ⟨by decide +kernel, pv_gw (n := 722) (by decide +kernel) rfl, ⟨by decide +kernel, by decide +kernel, by decide +kernel⟩, Nat.le_of_ble_eq_true rfl⟩
theorem pv_k103 : pv_mOk pv_GW pv_m103 := ⟨by decide +kernel, pv_gw (n := 728) (by decide +kernel) rfl, ⟨by decide +kernel, by decide +kernel, by decide +kernel⟩, Nat.le_of_ble_eq_true rfl⟩
theorem pv_k104 : pv_mOk pv_GW pv_m104 := ⟨by decide +kernel, pv_gw (n := 732) (by decide +kernel) rfl, ⟨by decide +kernel, by decide +kernel, by decide +kernel⟩, Nat.le_of_ble_eq_true rfl⟩
theorem pv_k105 : pv_mOk pv_GW pv_m105 := ⟨by decide +kernel, pv_gw (n := 737) (by decide +kernel) rfl, ⟨by decide +kernel, by decide +kernel, by decide +kernel⟩, Nat.le_of_ble_eq_true rfl⟩
theorem pv_k106 : pv_mOk pv_GW pv_m106 := ⟨by decide +kernel, pv_gw (n := 741) (by decide +kernel) rfl, ⟨by decide +kernel, by decide +kernel, by decide +kernel⟩, Nat.le_of_ble_eq_true rfl⟩
theorem pv_k107 : pv_mOk pv_GW pv_m107 := ⟨by decide +kernel, pv_gw (n := 745) (by decide +kernel) rfl, ⟨by decide +kernel, by decide +kernel, by decide +kernel⟩, Nat.le_of_ble_eq_true rfl⟩
theorem pv_k108 : pv_mOk pv_GW pv_m108 := ⟨by decide +kernel, pv_gw (n := 749) (by decide +kernel) rfl, ⟨by decide +kernel, by decide +kernel, by decide +kernel⟩, Nat.le_of_ble_eq_true rfl⟩
theorem pv_k109 : pv_mOk pv_GW pv_m109 := ⟨by decide +kernel, pv_gw (n := 753) (by decide +kernel) rfl, ⟨by decide +kernel, by decide +kernel, by decide +kernel⟩, Nat.le_of_ble_eq_true rfl⟩
theorem pv_k110 : pv_mOk pv_GW pv_m110 := ⟨by decide +kernel, pv_gw (n := 757) (by decide +kernel) rfl, ⟨by decide +kernel, by decide +kernel, by decide +kernel⟩, Nat.le_of_ble_eq_true rfl⟩
theorem pv_k111 : pv_mOk pv_GW pv_m111 := ⟨by decide +kernel, pv_gw (n := 761) (by decide +kernel) rfl, ⟨by decide +kernel, by decide +kernel, by decide +kernel⟩, Nat.le_of_ble_eq_true rfl⟩
theorem pv_k112 : pv_mOk pv_GW pv_m112 := ⟨by decide +kernel, pv_gw (n := 765) (by decide +kernel) rfl, ⟨by decide +kernel, by decide +kernel, by decide +kernel⟩, Nat.le_of_ble_eq_true rfl⟩
theorem pv_k113 : pv_mOk pv_GW pv_m113 := ⟨by decide +kernel, pv_gw (n := 770) (by decide +kernel) rfl, ⟨by decide +kernel, by decide +kernel, by decide +kernel⟩, Nat.le_of_ble_eq_true rfl⟩
theorem pv_k114 : pv_mOk pv_GW pv_m114 := ⟨by decide +kernel, pv_gw (n := 773) (by decide +kernel) rfl, ⟨by decide +kernel, by decide +kernel, by decide +kernel⟩, Nat.le_of_ble_eq_true rfl⟩
theorem pv_k115 : pv_mOk pv_GW pv_m115 := ⟨by decide +kernel, pv_gw (n := 777) (by decide +kernel) rfl, ⟨by decide +kernel, by decide +kernel, by decide +kernel⟩, Nat.le_of_ble_eq_true rfl⟩
theorem pv_k116 : pv_mOk pv_GW pv_m116 := ⟨by decide +kernel, pv_gw (n := 781) (by decide +kernel) rfl, ⟨by decide +kernel, by decide +kernel, by decide +kernel⟩, Nat.le_of_ble_eq_true rfl⟩
theorem pv_k117 : pv_mOk pv_GW pv_m117 := ⟨by decide +kernel, pv_gw (n := 785) (by decide +kernel) rfl, ⟨by decide +kernel, by decide +kernel, by decide +kernel⟩, Nat.le_of_ble_eq_true rfl⟩
theorem pv_k118 : pv_mOk pv_GW pv_m118 := ⟨by decide +kernel, pv_gw (n := 789) (by decide +kernel) rfl, ⟨by decide +kernel, by decide +kernel, by decide +kernel⟩, Nat.le_of_ble_eq_true rfl⟩
theorem pv_k119 : pv_mOk pv_GW pv_m119 := ⟨by decide +kernel, pv_gw (n := 793) (by decide +kernel) rfl, ⟨by decide +kernel, by decide +kernel, by decide +kernel⟩, Nat.le_of_ble_eq_true rfl⟩
theorem pv_k120 : pv_mOk pv_GW pv_m120 := ⟨by decide +kernel, pv_gw (n := 797) (by decide +kernel) rfl, ⟨by decide +kernel, by decide +kernel, by decide +kernel⟩, Nat.le_of_ble_eq_true rfl⟩
theorem pv_k121 : pv_mOk pv_GW pv_m121 := ⟨by decide +kernel, pv_gw (n := 801) (by decide +kernel) rfl, ⟨by decide +kernel, by decide +kernel, by decide +kernel⟩, Nat.le_of_ble_eq_true rfl⟩
theorem pv_k122 : pv_mOk pv_GW pv_m122 := ⟨by decide +kernel, pv_gw (n := 805) (by decide +kernel) rfl, ⟨by decide +kernel, by decide +kernel, by decide +kernel⟩, Nat.le_of_ble_eq_true rfl⟩
theorem pv_k123 : pv_mOk pv_GW pv_m123 := ⟨by decide +kernel, pv_gw (n := 809) (by decide +kernel) rfl, ⟨by decide +kernel, by decide +kernel, by decide +kernel⟩, Nat.le_of_ble_eq_true rfl⟩
theorem pv_k124 : pv_mOk pv_GW pv_m124 := ⟨by decide +kernel, pv_gw (n := 814) (by decide +kernel) rfl, ⟨by decide +kernel, by decide +kernel, by decide +kernel⟩, Nat.le_of_ble_eq_true rfl⟩
theorem pv_k125 : pv_mOk pv_GW pv_m125 := ⟨by decide +kernel, pv_gw (n := 923) (by decide +kernel) rfl, ⟨by decide +kernel, by decide +kernel, by decide +kernel⟩, Nat.le_of_ble_eq_true rfl⟩
theorem pv_k126 : pv_mOk pv_GW pv_m126 := ⟨by decide +kernel, pv_gw (n := 928) (by decide +kernel) rfl, ⟨by decide +kernel, by decide +kernel, by decide +kernel⟩, Nat.le_of_ble_eq_true rfl⟩
theorem pv_k127 : pv_mOk pv_GW pv_m127 := ⟨by decide +kernel, pv_gw (n := 932) (by decide +kernel) rfl, ⟨by decide +kernel, by decide +kernel, by decide +kernel⟩, Nat.le_of_ble_eq_true rfl⟩
theorem pv_k128 : pv_mOk pv_GW pv_m128 := ⟨by decide +kernel, pv_gw (n := 936) (by decide +kernel) rfl, ⟨by decide +kernel, by decide +kernel, by decide +kernel⟩, Nat.le_of_ble_eq_true rfl⟩
theorem pv_k129 : pv_mOk pv_GW pv_m129 := ⟨by decide +kernel, pv_gw (n := 940) (by decide +kernel) rfl, ⟨by decide +kernel, by decide +kernel, by decide +kernel⟩, Nat.le_of_ble_eq_true rfl⟩
theorem pv_k130 : pv_mOk pv_GW pv_m130 := ⟨by decide +kernel, pv_gw (n := 943) (by decide +kernel) rfl, ⟨by decide +kernel, by decide +kernel, by decide +kernel⟩, Nat.le_of_ble_eq_true rfl⟩
theorem pv_k131 : pv_mOk pv_GW pv_m131 := ⟨by decide +kernel, pv_gw (n := 946) (by decide +kernel) rfl, ⟨by decide +kernel, by decide +kernel, by decide +kernel⟩, Nat.le_of_ble_eq_true rfl⟩
theorem pv_k132 : pv_mOk pv_GW pv_m132 := ⟨by decide +kernel, pv_gw (n := 952) (by decide +kernel) rfl, ⟨by decide +kernel, by decide +kernel, by decide +kernel⟩, Nat.le_of_ble_eq_true rfl⟩
theorem pv_k133 : pv_mOk pv_GW pv_m133 := ⟨by decide +kernel, pv_gw (n := 956) (by decide +kernel) rfl, ⟨by decide +kernel, by decide +kernel, by decide +kernel⟩, Nat.le_of_ble_eq_true rfl⟩
theorem pv_k134 : pv_mOk pv_GW pv_m134 := ⟨by decide +kernel, pv_gw (n := 960) (by decide +kernel) rfl, ⟨by decide +kernel, by decide +kernel, by decide +kernel⟩, Nat.le_of_ble_eq_true rfl⟩
theorem pv_k135 : pv_mOk pv_GW pv_m135 := ⟨by decide +kernel, pv_gw (n := 966) (by decide +kernel) rfl, ⟨by decide +kernel, by decide +kernel, by decide +kernel⟩, Nat.le_of_ble_eq_true rfl⟩
theorem pv_k136 : pv_mOk pv_GW pv_m136 := ⟨by decide +kernel, pv_gw (n := 970) (by decide +kernel) rfl, ⟨by decide +kernel, by decide +kernel, by decide +kernel⟩, Nat.le_of_ble_eq_true rfl⟩
theorem pv_k137 : pv_mOk pv_GW pv_m137 := ⟨by decide +kernel, pv_gw (n := 974) (by decide +kernel) rfl, ⟨by decide +kernel, by decide +kernel, by decide +kernel⟩, Nat.le_of_ble_eq_true rfl⟩
theorem pv_k138 : pv_mOk pv_GW pv_m138 := ⟨by decide +kernel, pv_gw (n := 979) (by decide +kernel) rfl, ⟨by decide +kernel, by decide +kernel, by decide +kernel⟩, Nat.le_of_ble_eq_true rfl⟩
theorem pv_k139 : pv_mOk pv_GW pv_m139 := ⟨by decide +kernel, pv_gw (n := 983) (by decide +kernel) rfl, ⟨by decide +kernel, by decide +kernel, by decide +kernel⟩, Nat.le_of_ble_eq_true rfl⟩
theorem pv_k140 : pv_mOk pv_GW pv_m140 := ⟨by decide +kernel, pv_gw (n := 986) (by decide +kernel) rfl, ⟨by decide +kernel, by decide +kernel, by decide +kernel⟩, Nat.le_of_ble_eq_true rfl⟩
theorem pv_k141 : pv_mOk pv_GW pv_m141 := ⟨by decide +kernel, pv_gw (n := 990) (by decide +kernel) rfl, ⟨by decide +kernel, by decide +kernel, by decide +kernel⟩, Nat.le_of_ble_eq_true rfl⟩
theorem pv_k142 : pv_mOk pv_GW pv_m142 := ⟨by decide +kernel, pv_gw (n := 994) (by decide +kernel) rfl, ⟨by decide +kernel, by decide +kernel, by decide +kernel⟩, Nat.le_of_ble_eq_true rfl⟩
theorem pv_k143 : pv_mOk pv_GW pv_m143 := ⟨by decide +kernel, pv_gw (n := 998) (by decide +kernel) rfl, ⟨by decide +kernel, by decide +kernel, by decide +kernel⟩, Nat.le_of_ble_eq_true rfl⟩
theorem pv_k144 : pv_mOk pv_GW pv_m144 := ⟨by decide +kernel, pv_gw (n := 1002) (by decide +kernel) rfl, ⟨by decide +kernel, by decide +kernel, by decide +kernel⟩, Nat.le_of_ble_eq_true rfl⟩
theorem pv_k145 : pv_mOk pv_GW pv_m145 := ⟨by decide +kernel, pv_gw (n := 1007) (by decide +kernel) rfl, ⟨by decide +kernel, by decide +kernel, by decide +kernel⟩, Nat.le_of_ble_eq_true rfl⟩
theorem pv_k146 : pv_mOk pv_GW pv_m146 := ⟨by decide +kernel, pv_gw (n := 1011) (by decide +kernel) rfl, ⟨by decide +kernel, by decide +kernel, by decide +kernel⟩, Nat.le_of_ble_eq_true rfl⟩
theorem pv_k147 : pv_mOk pv_GW pv_m147 := ⟨by decide +kernel, pv_gw (n := 1015) (by decide +kernel) rfl, ⟨by decide +kernel, by decide +kernel, by decide +kernel⟩, Nat.le_of_ble_eq_true rfl⟩
theorem pv_k148 : pv_mOk pv_GW pv_m148 := ⟨by decide +kernel, pv_gw (n := 1019) (by decide +kernel) rfl, ⟨by decide +kernel, by decide +kernel, by decide +kernel⟩, Nat.le_of_ble_eq_true rfl⟩
theorem pv_k149 : pv_mOk pv_GW pv_m149 := ⟨by decide +kernel, pv_gw (n := 1022) (by decide +kernel) rfl, ⟨by decide +kernel, by decide +kernel, by decide +kernel⟩, Nat.le_of_ble_eq_true rfl⟩
theorem pv_k150 : pv_mOk pv_GW pv_m150 := ⟨by decide +kernel, pv_gw (n := 1026) (by decide +kernel) rfl, ⟨by decide +kernel, by decide +kernel, by decide +kernel⟩, Nat.le_of_ble_eq_true rfl⟩
theorem pv_k151 : pv_mOk pv_GW pv_m151 := ⟨by decide +kernel, pv_gw (n := 1030) (by decide +kernel) rfl, ⟨by decide +kernel, by decide +kernel, by decide +kernel⟩, Nat.le_of_ble_eq_true rfl⟩
theorem pv_k152 : pv_mOk pv_GW pv_m152 := ⟨by decide +kernel, pv_gw (n := 1034) (by decide +kernel) rfl, ⟨by decide +kernel, by decide +kernel, by decide +kernel⟩, Nat.le_of_ble_eq_true rfl⟩
theorem pv_k153 : pv_mOk pv_GW pv_m153 := ⟨by decide +kernel, pv_gw (n := 1038) (by decide +kernel) rfl, ⟨by decide +kernel, by decide +kernel, by decide +kernel⟩, Nat.le_of_ble_eq_true rfl⟩
theorem pv_k154 : pv_mOk pv_GW pv_m154 := ⟨by decide +kernel, pv_gw (n := 1042) (by decide +kernel) rfl, ⟨by decide +kernel, by decide +kernel, by decide +kernel⟩, Nat.le_of_ble_eq_true rfl⟩
theorem pv_k155 : pv_mOk pv_GW pv_m155 := ⟨by decide +kernel, pv_gw (n := 1046) (by decide +kernel) rfl, ⟨by decide +kernel, by decide +kernel, by decide +kernel⟩, Nat.le_of_ble_eq_true rfl⟩
theorem pv_k156 : pv_mOk pv_GW pv_m156 := ⟨by decide +kernel, pv_gw (n := 1050) (by decide +kernel) rfl, ⟨by decide +kernel, by decide +kernel, by decide +kernel⟩, Nat.le_of_ble_eq_true rfl⟩
theorem pv_k157 : pv_mOk pv_GW pv_m157 := ⟨by decide +kernel, pv_gw (n := 1053) (by decide +kernel) rfl, ⟨by decide +kernel, by decide +kernel, by decide +kernel⟩, Nat.le_of_ble_eq_true rfl⟩
theorem pv_k158 : pv_mOk pv_GW pv_m158 := ⟨by decide +kernel, pv_gw (n := 1057) (by decide +kernel) rfl, ⟨by decide +kernel, by decide +kernel, by decide +kernel⟩, Nat.le_of_ble_eq_true rfl⟩
theorem pv_k159 : pv_mOk pv_GW pv_m159 := ⟨by decide +kernel, pv_gw (n := 1061) (by decide +kernel) rfl, ⟨by decide +kernel, by decide +kernel, by decide +kernel⟩, Nat.le_of_ble_eq_true rfl⟩
theorem pv_k160 : pv_mOk pv_GW pv_m160 := ⟨by decide +kernel, pv_gw (n := 1065) (by decide +kernel) rfl, ⟨by decide +kernel, by decide +kernel, by decide +kernel⟩, Nat.le_of_ble_eq_true rfl⟩
theorem pv_k161 : pv_mOk pv_GW pv_m161 := ⟨by decide +kernel, pv_gw (n := 1069) (by decide +kernel) rfl, ⟨by decide +kernel, by decide +kernel, by decide +kernel⟩, Nat.le_of_ble_eq_true rfl⟩
theorem pv_k162 : pv_mOk pv_GW pv_m162 := ⟨by decide +kernel, pv_gw (n := 1073) (by decide +kernel) rfl, ⟨by decide +kernel, by decide +kernel, by decide +kernel⟩, Nat.le_of_ble_eq_true rfl⟩
theorem pv_k163 : pv_mOk pv_GW pv_m163 := ⟨by decide +kernel, pv_gw (n := 1077) (by decide +kernel) rfl, ⟨by decide +kernel, by decide +kernel, by decide +kernel⟩, Nat.le_of_ble_eq_true rfl⟩
theorem pv_k164 : pv_mOk pv_GW pv_m164 := ⟨by decide +kernel, pv_gw (n := 1081) (by decide +kernel) rfl, ⟨by decide +kernel, by decide +kernel, by decide +kernel⟩, Nat.le_of_ble_eq_true rfl⟩
theorem pv_k165 : pv_mOk pv_GW pv_m165 := ⟨by decide +kernel, pv_gw (n := 1085) (by decide +kernel) rfl, ⟨by decide +kernel, by decide +kernel, by decide +kernel⟩, Nat.le_of_ble_eq_true rfl⟩
theorem pv_k166 : pv_mOk pv_GW pv_m166 := ⟨by decide +kernel, pv_gw (n := 1089) (by decide +kernel) rfl, ⟨by decide +kernel, by decide +kernel, by decide +kernel⟩, Nat.le_of_ble_eq_true rfl⟩
theorem pv_k167 : pv_mOk pv_GW pv_m167 := ⟨by decide +kernel, pv_gw (n := 1093) (by decide +kernel) rfl, ⟨by decide +kernel, by decide +kernel, by decide +kernel⟩, Nat.le_of_ble_eq_true rfl⟩
theorem pv_k168 : pv_mOk pv_GW pv_m168 := ⟨by decide +kernel, pv_gw (n := 1097) (by decide +kernel) rfl, ⟨by decide +kernel, by decide +kernel, by decide +kernel⟩, Nat.le_of_ble_eq_true rfl⟩
theorem pv_k169 : pv_mOk pv_GW pv_m169 := ⟨by decide +kernel, pv_gw (n := 1101) (by decide +kernel) rfl, ⟨by decide +kernel, by decide +kernel, by decide +kernel⟩, Nat.le_of_ble_eq_true rfl⟩
theorem pv_k170 : pv_mOk pv_GW pv_m170 := ⟨by decide +kernel, pv_gw (n := 1105) (by decide +kernel) rfl, ⟨by decide +kernel, by decide +kernel, by decide +kernel⟩, Nat.le_of_ble_eq_true rfl⟩
theorem pv_k171 : pv_mOk pv_GW pv_m171 := ⟨by decide +kernel, pv_gw (n := 1109) (by decide +kernel) rfl, ⟨by decide +kernel, by decide +kernel, by decide +kernel⟩, Nat.le_of_ble_eq_true rfl⟩
theorem pv_k172 : pv_mOk pv_GW pv_m172 := ⟨by decide +kernel, pv_gw (n := 1113) (by decide +kernel) rfl, ⟨by decide +kernel, by decide +kernel, by decide +kernel⟩, Nat.le_of_ble_eq_true rfl⟩
theorem pv_k173 : pv_mOk pv_GW pv_m173 := ⟨by decide +kernel, pv_gw (n := 1117) (by decide +kernel) rfl, ⟨by decide +kernel, by decide +kernel, by decide +kernel⟩, Nat.le_of_ble_eq_true rfl⟩
theorem pv_k174 : pv_mOk pv_GW pv_m174 := ⟨by decide +kernel, pv_gw (n := 1121) (by decide +kernel) rfl, ⟨by decide +kernel, by decide +kernel, by decide +kernel⟩, Nat.le_of_ble_eq_true rfl⟩
theorem pv_k175 : pv_mOk pv_GW pv_m175 := ⟨by decide +kernel, pv_gw (n := 1127) (by decide +kernel) rfl, ⟨by decide +kernel, by decide +kernel, by decide +kernel⟩, Nat.le_of_ble_eq_true rfl⟩
theorem pv_k176 : pv_mOk pv_GW pv_m176 := ⟨by decide +kernel, pv_gw (n := 1131) (by decide +kernel) rfl, ⟨by decide +kernel, by decide +kernel, by decide +kernel⟩, Nat.le_of_ble_eq_true rfl⟩
theorem pv_k177 : pv_mOk pv_GW pv_m177 := ⟨by decide +kernel, pv_gw (n := 1135) (by decide +kernel) rfl, ⟨by decide +kernel, by decide +kernel, by decide +kernel⟩, Nat.le_of_ble_eq_true rfl⟩
theorem pv_k178 : pv_mOk pv_GW pv_m178 := ⟨by decide +kernel, pv_gw (n := 1139) (by decide +kernel) rfl, ⟨by decide +kernel, by decide +kernel, by decide +kernel⟩, Nat.le_of_ble_eq_true rfl⟩
theorem pv_k179 : pv_mOk pv_GW pv_m179 := ⟨by decide +kernel, pv_gw (n := 1143) (by decide +kernel) rfl, ⟨by decide +kernel, by decide +kernel, by decide +kernel⟩, Nat.le_of_ble_eq_true rfl⟩
theorem pv_k180 : pv_mOk pv_GW pv_m180 := ⟨by decide +kernel, pv_gw (n := 1147) (by decide +kernel) rfl, ⟨by decide +kernel, by decide +kernel, by decide +kernel⟩, Nat.le_of_ble_eq_true rfl⟩
theorem pv_k181 : pv_mOk pv_GW pv_m181 := ⟨by decide +kernel, pv_gw (n := 1151) (by decide +kernel) rfl, ⟨by decide +kernel, by decide +kernel, by decide +kernel⟩, Nat.le_of_ble_eq_true rfl⟩
theorem pv_k182 : pv_mOk pv_GW pv_m182 := ⟨by decide +kernel, pv_gw (n := 1155) (by decide +kernel) rfl, ⟨by decide +kernel, by decide +kernel, by decide +kernel⟩, Nat.le_of_ble_eq_true rfl⟩
theorem pv_k183 : pv_mOk pv_GW pv_m183 := ⟨by decide +kernel, pv_gw (n := 1159) (by decide +kernel) rfl, ⟨by decide +kernel, by decide +kernel, by decide +kernel⟩, Nat.le_of_ble_eq_true rfl⟩
theorem pv_k184 : pv_mOk pv_GW pv_m184 := ⟨by decide +kernel, pv_gw (n := 1164) (by decide +kernel) rfl, ⟨by decide +kernel, by decide +kernel, by decide +kernel⟩, Nat.le_of_ble_eq_true rfl⟩
theorem pv_k185 : pv_mOk pv_GW pv_m185 := ⟨by decide +kernel, pv_gw (n := 1168) (by decide +kernel) rfl, ⟨by decide +kernel, by decide +kernel, by decide +kernel⟩, Nat.le_of_ble_eq_true rfl⟩
theorem pv_k186 : pv_mOk pv_GW pv_m186 := ⟨by decide +kernel, pv_gw (n := 1172) (by decide +kernel) rfl, ⟨by decide +kernel, by decide +kernel, by decide +kernel⟩, Nat.le_of_ble_eq_true rfl⟩
theorem pv_k187 : pv_mOk pv_GW pv_m187 := ⟨by decide +kernel, pv_gw (n := 1176) (by decide +kernel) rfl, ⟨by decide +kernel, by decide +kernel, by decide +kernel⟩, Nat.le_of_ble_eq_true rfl⟩
theorem pv_k188 : pv_mOk pv_GW pv_m188 := ⟨by decide +kernel, pv_gw (n := 1180) (by decide +kernel) rfl, ⟨by decide +kernel, by decide +kernel, by decide +kernel⟩, Nat.le_of_ble_eq_true rfl⟩
theorem pv_k189 : pv_mOk pv_GW pv_m189 := ⟨by decide +kernel, pv_gw (n := 1184) (by decide +kernel) rfl, ⟨by decide +kernel, by decide +kernel, by decide +kernel⟩, Nat.le_of_ble_eq_true rfl⟩
theorem pv_k190 : pv_mOk pv_GW pv_m190 := ⟨by decide +kernel, pv_gw (n := 1190) (by decide +kernel) rfl, ⟨by decide +kernel, by decide +kernel, by decide +kernel⟩, Nat.le_of_ble_eq_true rfl⟩
theorem pv_k191 : pv_mOk pv_GW pv_m191 := ⟨by decide +kernel, pv_gw (n := 1194) (by decide +kernel) rfl, ⟨by decide +kernel, by decide +kernel, by decide +kernel⟩, Nat.le_of_ble_eq_true rfl⟩
theorem pv_k192 : pv_mOk pv_GW pv_m192 := ⟨by decide +kernel, pv_gw (n := 1198) (by decide +kernel) rfl, ⟨by decide +kernel, by decide +kernel, by decide +kernel⟩, Nat.le_of_ble_eq_true rfl⟩
theorem pv_k193 : pv_mOk pv_GW pv_m193 := ⟨by decide +kernel, pv_gw (n := 1202) (by decide +kernel) rfl, ⟨by decide +kernel, by decide +kernel, by decide +kernel⟩, Nat.le_of_ble_eq_true rfl⟩
theorem pv_k194 : pv_mOk pv_GW pv_m194 := ⟨by decide +kernel, pv_gw (n := 1206) (by decide +kernel) rfl, ⟨by decide +kernel, by decide +kernel, by decide +kernel⟩, Nat.le_of_ble_eq_true rfl⟩
theorem pv_k195 : pv_mOk pv_GW pv_m195 := ⟨by decide +kernel, pv_gw (n := 1210) (by decide +kernel) rfl, ⟨by decide +kernel, by decide +kernel, by decide +kernel⟩, Nat.le_of_ble_eq_true rfl⟩
theorem pv_k196 : pv_mOk pv_GW pv_m196 := ⟨by decide +kernel, pv_gw (n := 1214) (by decide +kernel) rfl, ⟨by decide +kernel, by decide +kernel, by decide +kernel⟩, Nat.le_of_ble_eq_true rfl⟩
theorem pv_k197 : pv_mOk pv_GW pv_m197 := ⟨by decide +kernel, pv_gw (n := 1218) (by decide +kernel) rfl, ⟨by decide +kernel, by decide +kernel, by decide +kernel⟩, Nat.le_of_ble_eq_true rfl⟩
theorem pv_k198 : pv_mOk pv_GW pv_m198 := ⟨by decide +kernel, pv_gw (n := 1226) (by decide +kernel) rfl, ⟨by decide +kernel, by decide +kernel, by decide +kernel⟩, Nat.le_of_ble_eq_true rfl⟩
theorem pv_k199 : pv_mOk pv_GW pv_m199 := ⟨by decide +kernel, pv_gw (n := 1230) (by decide +kernel) rfl, ⟨by decide +kernel, by decide +kernel, by decide +kernel⟩, Nat.le_of_ble_eq_true rfl⟩
theorem pv_k200 : pv_mOk pv_GW pv_m200 := ⟨by decide +kernel, pv_gw (n := 1234) (by decide +kernel) rfl, ⟨by decide +kernel, by decide +kernel, by decide +kernel⟩, Nat.le_of_ble_eq_true rfl⟩
theorem pv_k201 : pv_mOk pv_GW pv_m201 := ⟨by decide +kernel, pv_gw (n := 1239) (by decide +kernel) rfl, ⟨by decide +kernel, by decide +kernel, by decide +kernel⟩, Nat.le_of_ble_eq_true rfl⟩
theorem pv_k202 : pv_mOk pv_GW pv_m202 := ⟨by decide +kernel, pv_gw (n := 1243) (by decide +kernel) rfl, ⟨by decide +kernel, by decide +kernel, by decide +kernel⟩, Nat.le_of_ble_eq_true rfl⟩
theorem pv_k203 : pv_mOk pv_GW pv_m203 := ⟨by decide +kernel, pv_gw (n := 1249) (by decide +kernel) rfl, ⟨by decide +kernel, by decide +kernel, by decide +kernel⟩, Nat.le_of_ble_eq_true rfl⟩
theorem pv_k204 : pv_mOk pv_GW pv_m204 := ⟨by decide +kernel, pv_gw (n := 1253) (by decide +kernel) rfl, ⟨by decide +kernel, by decide +kernel, by decide +kernel⟩, Nat.le_of_ble_eq_true rfl⟩
theorem pv_k205 : pv_mOk pv_GW pv_m205 := ⟨by decide +kernel, pv_gw (n := 1257) (by decide +kernel) rfl, ⟨by decide +kernel, by decide +kernel, by decide +kernel⟩, Nat.le_of_ble_eq_true rfl⟩
theorem pv_k206 : pv_mOk pv_GW pv_m206 := ⟨by decide +kernel, pv_gw (n := 1261) (by decide +kernel) rfl, ⟨by decide +kernel, by decide +kernel, by decide +kernel⟩, Nat.le_of_ble_eq_true rfl⟩
theorem pv_k207 : pv_mOk pv_GW pv_m207 := ⟨by decide +kernel, pv_gw (n := 1265) (by decide +kernel) rfl, ⟨by decide +kernel, by decide +kernel, by decide +kernel⟩, Nat.le_of_ble_eq_true rfl⟩
theorem pv_k208 : pv_mOk pv_GW pv_m208 := ⟨by decide +kernel, pv_gw (n := 1268) (by decide +kernel) rfl, ⟨by decide +kernel, by decide +kernel, by decide +kernel⟩, Nat.le_of_ble_eq_true rfl⟩
theorem pv_k209 : pv_mOk pv_GW pv_m209 := ⟨by decide +kernel, pv_gw (n := 1272) (by decide +kernel) rfl, ⟨by decide +kernel, by decide +kernel, by decide +kernel⟩, Nat.le_of_ble_eq_true rfl⟩
theorem pv_k210 : pv_mOk pv_GW pv_m210 := ⟨by decide +kernel, pv_gw (n := 1276) (by decide +kernel) rfl, ⟨by decide +kernel, by decide +kernel, by decide +kernel⟩, Nat.le_of_ble_eq_true rfl⟩
theorem pv_k211 : pv_mOk pv_GW pv_m211 := ⟨by decide +kernel, pv_gw (n := 1280) (by decide +kernel) rfl, ⟨by decide +kernel, by decide +kernel, by decide +kernel⟩, Nat.le_of_ble_eq_true rfl⟩
theorem pv_k212 : pv_mOk pv_GW pv_m212 := ⟨by decide +kernel, pv_gw (n := 1284) (by decide +kernel) rfl, ⟨by decide +kernel, by decide +kernel, by decide +kernel⟩, Nat.le_of_ble_eq_true rfl⟩
theorem pv_k213 : pv_mOk pv_GW pv_m213 := ⟨by decide +kernel, pv_gw (n := 1288) (by decide +kernel) rfl, ⟨by decide +kernel, by decide +kernel, by decide +kernel⟩, Nat.le_of_ble_eq_true rfl⟩
theorem pv_k214 : pv_mOk pv_GW pv_m214 := ⟨by decide +kernel, pv_gw (n := 1292) (by decide +kernel) rfl, ⟨by decide +kernel, by decide +kernel, by decide +kernel⟩, Nat.le_of_ble_eq_true rfl⟩
theorem pv_k215 : pv_mOk pv_GW pv_m215 := ⟨by decide +kernel, pv_gw (n := 1296) (by decide +kernel) rfl, ⟨by decide +kernel, by decide +kernel, by decide +kernel⟩, Nat.le_of_ble_eq_true rfl⟩
theorem pv_k216 : pv_mOk pv_GW pv_m216 := ⟨by decide +kernel, pv_gw (n := 1300) (by decide +kernel) rfl, ⟨by decide +kernel, by decide +kernel, by decide +kernel⟩, Nat.le_of_ble_eq_true rfl⟩
