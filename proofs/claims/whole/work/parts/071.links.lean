/-! the methods by numbers -/
def mi0 : MI := (⟨RX0, "choose", "(I)Z"⟩, prog_2_method_2_code, 2, some FieldType.boolean)
def mi1 : MI := (⟨RX0, "sizesOfRests", "()J"⟩, prog_2_method_3_code, 8, some FieldType.long)
def mi2 : MI := (⟨RX0, "lookAtAll", "()V"⟩, prog_2_method_4_code, 2, none)
def mi3 : MI := (⟨RX0, "lookAtOne", "(I)V"⟩, prog_2_method_5_code, 4, none)
def mi4 : MI := (⟨RX1, "run", "([[III)V"⟩, prog_3_method_2_code, 6, none)
def mi5 : MI := (⟨RX1, "bringUp", "(I)Z"⟩, prog_3_method_3_code, 6, some FieldType.boolean)
def mi6 : MI := (⟨RX1, "clearOthers", "(I)V"⟩, prog_3_method_4_code, 10, none)
def mi7 : MI := (⟨RX1, "relation", "(I[I)V"⟩, prog_3_method_5_code, 6, none)
def mi8 : MI := (⟨RX2, "note", "(IIII)V"⟩, prog_4_method_2_code, 6, none)
def mi9 : MI := (⟨RX2, "forget", "()V"⟩, prog_4_method_3_code, 1, none)
def mi10 : MI := (⟨RX2, "takeBack", "(LPureGroups$Model;)V"⟩, prog_4_method_4_code, 4, none)
def mi11 : MI := (⟨RX3, "copyFrom", "(LPureGroups$Model;)V"⟩, prog_5_method_2_code, 3, none)
def mi12 : MI := (⟨RX3, "add", "(I)V"⟩, prog_5_method_3_code, 2, none)
def mi13 : MI := (⟨RX3, "keepFormula", "([III)V"⟩, prog_5_method_4_code, 4, none)
def mi14 : MI := (⟨RX3, "hasFormula", "()Z"⟩, prog_5_method_5_code, 1, some FieldType.boolean)
def mi15 : MI := (⟨RX3, "hasScale", "(I)Z"⟩, prog_5_method_6_code, 2, some FieldType.boolean)
def mi16 : MI := (⟨RX3, "scaledSet", "()I"⟩, prog_5_method_7_code, 3, some FieldType.int)
def mi17 : MI := (⟨RX3, "haveScales", "(I)Z"⟩, prog_5_method_8_code, 2, some FieldType.boolean)
def mi18 : MI := (⟨RX3, "together", "([III)J"⟩, prog_5_method_9_code, 7, some FieldType.long)
def mi19 : MI := (⟨RX3, "times", "(II)I"⟩, prog_5_method_10_code, 5, some FieldType.int)
def mi20 : MI := (⟨RX4, "read", "([II)V"⟩, prog_6_method_2_code, 4, none)
def mi21 : MI := (⟨RX4, "readSum", "(I)V"⟩, prog_6_method_3_code, 4, none)
def mi22 : MI := (⟨RX4, "readTerm", "(I)V"⟩, prog_6_method_4_code, 4, none)
def mi23 : MI := (⟨RX4, "readPart", "(II)V"⟩, prog_6_method_5_code, 6, none)
def mi24 : MI := (⟨RX4, "readAtom", "(I)[I"⟩, prog_6_method_6_code, 4, some (FieldType.array FieldType.int))
def mi25 : MI := (⟨RX4, "readInner", "(II)[I"⟩, prog_6_method_7_code, 4, some (FieldType.array FieldType.int))
def mi26 : MI := (⟨RX4, "readNumber", "()V"⟩, prog_6_method_8_code, 2, none)
def mi27 : MI := (⟨RX4, "readPower", "()I"⟩, prog_6_method_9_code, 3, some FieldType.int)
def mi28 : MI := (⟨RX4, "next", "()I"⟩, prog_6_method_10_code, 1, some FieldType.int)
def mi29 : MI := (⟨RX4, "isNext", "(II)Z"⟩, prog_6_method_11_code, 4, some FieldType.boolean)
def mi30 : MI := (⟨RX4, "isDigit", "(I)Z"⟩, prog_6_method_12_code, 1, some FieldType.boolean)
def mi31 : MI := (⟨RX4, "expect", "(I)V"⟩, prog_6_method_13_code, 2, none)
def mi32 : MI := (⟨RX4, "failHere", "()V"⟩, prog_6_method_14_code, 1, none)
def mi33 : MI := (⟨RX4, "markWrong", "(I)V"⟩, prog_6_method_15_code, 2, none)
def mi34 : MI := (⟨RX4, "same", "([I[I)Z"⟩, prog_6_method_16_code, 3, some FieldType.boolean)
def mi35 : MI := (⟨RX4, "lacks", "(I)I"⟩, prog_6_method_17_code, 2, some FieldType.int)
def mi36 : MI := (⟨RX4, "firstWrong", "()I"⟩, prog_6_method_18_code, 2, some FieldType.int)
def mi37 : MI := (⟨RX4, "countWrong", "()I"⟩, prog_6_method_19_code, 6, some FieldType.int)
def mi38 : MI := (⟨RX5, "countBox", "()I"⟩, prog_7_method_2_code, 1, some FieldType.int)
def mi39 : MI := (⟨RX5, "pureInBox", "([JIIJ)I"⟩, prog_7_method_3_code, 5, some FieldType.int)
def mi40 : MI := (⟨RX5, "findLeast", "()V"⟩, prog_7_method_4_code, 2, none)
def mi41 : MI := (⟨RX5, "hasPure", "([JI[IIIJ)Z"⟩, prog_7_method_5_code, 9, some FieldType.boolean)
def mi42 : MI := (⟨RX5, "dimensionsHad", "(I)I"⟩, prog_7_method_6_code, 2, some FieldType.int)
def mi43 : MI := (⟨RX5, "gather", "([J[JIIIJ)I"⟩, prog_7_method_7_code, 9, some FieldType.int)
def mi44 : MI := (⟨RX5, "isNew", "([JJ)Z"⟩, prog_7_method_8_code, 5, some FieldType.boolean)
def mi45 : MI := (⟨RX5, "fewestAt", "([II)I"⟩, prog_7_method_9_code, 4, some FieldType.int)
def mi46 : MI := (⟨RX5, "findRow", "([I)I"⟩, prog_7_method_10_code, 6, some FieldType.int)
def mi47 : MI := (⟨RX5, "hasRow", "([JI[IIIJ)Z"⟩, prog_7_method_11_code, 8, some FieldType.boolean)
def mi48 : MI := (⟨RX6, "measure", "(LPureGroups$Model;)V"⟩, prog_8_method_2_code, 3, none)
def mi49 : MI := (⟨RX6, "setPowers", "(I[I[I)V"⟩, prog_8_method_3_code, 4, none)
def mi50 : MI := (⟨RX6, "keyOf", "([I)J"⟩, prog_8_method_4_code, 7, some FieldType.long)
def mi51 : MI := (⟨RX6, "looseSet", "()I"⟩, prog_8_method_5_code, 1, some FieldType.int)
def mi52 : MI := (⟨RX6, "looseAt", "(I)I"⟩, prog_8_method_6_code, 5, some FieldType.int)
def mi53 : MI := (⟨RX6, "differentDimensions", "()I"⟩, prog_8_method_7_code, 5, some FieldType.int)
def mi54 : MI := (⟨RX6, "isPureProduct", "([I)Z"⟩, prog_8_method_8_code, 2, some FieldType.boolean)
def mi55 : MI := (⟨RX6, "sizeOfDimension", "([I)I"⟩, prog_8_method_9_code, 6, some FieldType.int)
def mi56 : MI := (⟨RX7, "letter", "(I)I"⟩, prog_1_method_2_code, 2, some FieldType.int)
def mi57 : MI := (⟨RX7, "quantity", "(I)I"⟩, prog_1_method_3_code, 2, some FieldType.int)
def mi58 : MI := (⟨RX7, "tell", "(III)I"⟩, prog_1_method_4_code, 5, some FieldType.int)
def mi59 : MI := (⟨RX7, "turn", "(II)I"⟩, prog_1_method_5_code, 4, some FieldType.int)
def mi60 : MI := (⟨RX7, "of", "(II)I"⟩, prog_1_method_6_code, 3, some FieldType.int)
def mi61 : MI := (⟨RX7, "twin", "(I)I"⟩, prog_1_method_7_code, 3, some FieldType.int)
def mi62 : MI := (⟨RX7, "taken", "(II)I"⟩, prog_1_method_8_code, 5, some FieldType.int)
def mi63 : MI := (⟨RX7, "rank", "(I)I"⟩, prog_1_method_9_code, 2, some FieldType.int)
def mi64 : MI := (⟨RX7, "group", "(II)I"⟩, prog_1_method_10_code, 3, some FieldType.int)
def mi65 : MI := (⟨RX7, "pure", "(I)I"⟩, prog_1_method_11_code, 2, some FieldType.int)
def mi66 : MI := (⟨RX7, "cover", "(III)J"⟩, prog_1_method_12_code, 5, some FieldType.long)
def mi67 : MI := (⟨RX7, "box", "()I"⟩, prog_1_method_13_code, 1, some FieldType.int)
def mi68 : MI := (⟨RX7, "least", "(I)I"⟩, prog_1_method_14_code, 2, some FieldType.int)
def mi69 : MI := (⟨RX7, "may", "(I)I"⟩, prog_1_method_15_code, 2, some FieldType.int)
def mi70 : MI := (⟨RX7, "rest", "(III)I"⟩, prog_1_method_16_code, 4, some FieldType.int)
def mi71 : MI := (⟨RX7, "sets", "(I)I"⟩, prog_1_method_17_code, 2, some FieldType.int)
def mi72 : MI := (⟨RX7, "sizes", "(I)J"⟩, prog_1_method_18_code, 2, some FieldType.long)
def mi73 : MI := (⟨RX7, "odds", "(I)J"⟩, prog_1_method_19_code, 2, some FieldType.long)
def mi74 : MI := (⟨RX7, "scale", "(III)I"⟩, prog_1_method_20_code, 4, some FieldType.int)
def mi75 : MI := (⟨RX7, "scaled", "(II)I"⟩, prog_1_method_21_code, 3, some FieldType.int)
def mi76 : MI := (⟨RX7, "alike", "()I"⟩, prog_1_method_22_code, 3, some FieldType.int)
def mi77 : MI := (⟨RX7, "must", "(IIII)J"⟩, prog_1_method_23_code, 5, some FieldType.long)
def mi78 : MI := (⟨RX7, "whole", "(II)I"⟩, prog_1_method_24_code, 7, some FieldType.int)
def mi79 : MI := (⟨RX7, "off", "(I)I"⟩, prog_1_method_25_code, 4, some FieldType.int)
def mi80 : MI := (⟨RX7, "fewest", "(II)I"⟩, prog_1_method_26_code, 3, some FieldType.int)
def mi81 : MI := (⟨RX7, "had", "(I)I"⟩, prog_1_method_27_code, 2, some FieldType.int)
def mi82 : MI := (⟨RX7, "formula", "()I"⟩, prog_1_method_28_code, 2, some FieldType.int)
def mi83 : MI := (⟨RX7, "wrong", "(I)I"⟩, prog_1_method_29_code, 2, some FieldType.int)
def mi84 : MI := (⟨RX7, "sides", "(II)I"⟩, prog_1_method_30_code, 3, some FieldType.int)
def mi85 : MI := (⟨RX7, "mend", "(I)I"⟩, prog_1_method_31_code, 3, some FieldType.int)
def mi86 : MI := (⟨RX7, "lots", "(III)I"⟩, prog_1_method_32_code, 9, some FieldType.int)
def mi87 : MI := (⟨RX7, "list", "(II)I"⟩, prog_1_method_33_code, 3, some FieldType.int)
def mi88 : MI := (⟨RX7, "put", "(III)I"⟩, prog_1_method_34_code, 4, some FieldType.int)
def mi89 : MI := (⟨RX7, "look", "(II)I"⟩, prog_1_method_35_code, 3, some FieldType.int)
def mi90 : MI := (⟨RX7, "lays", "(III)I"⟩, prog_1_method_36_code, 4, some FieldType.int)
def mi91 : MI := (⟨RX7, "judge", "(I)I"⟩, prog_1_method_37_code, 4, some FieldType.int)
def mi92 : MI := (⟨RX7, "undo", "()I"⟩, prog_1_method_38_code, 1, some FieldType.int)
def mi93 : MI := (⟨RX7, "image", "()I"⟩, prog_1_method_39_code, 1, some FieldType.int)
def mi94 : MI := (⟨RX7, "on", "()I"⟩, prog_1_method_40_code, 1, some FieldType.int)
def mi95 : MI := (⟨RX7, "count", "(I)I"⟩, prog_1_method_41_code, 2, some FieldType.int)
def mi96 : MI := (⟨RX7, "refused", "(I)I"⟩, prog_1_method_42_code, 2, some FieldType.int)
def mi97 : MI := (⟨RX7, "refusedFar", "(I)I"⟩, prog_1_method_43_code, 2, some FieldType.int)
def mi98 : MI := (⟨RX7, "refusedFarLong", "(I)J"⟩, prog_1_method_44_code, 2, some FieldType.long)
def mi99 : MI := (⟨RX7, "isQuantity", "(I)Z"⟩, prog_1_method_45_code, 2, some FieldType.boolean)
def mi100 : MI := (⟨RX7, "isUnit", "(I)Z"⟩, prog_1_method_46_code, 1, some FieldType.boolean)
def mi101 : MI := (⟨RX7, "isKind", "(I)Z"⟩, prog_1_method_47_code, 1, some FieldType.boolean)
def mi102 : MI := (⟨RX7, "isPart", "(I)Z"⟩, prog_1_method_48_code, 1, some FieldType.boolean)
def mi103 : MI := (⟨RX7, "isPrime", "(I)Z"⟩, prog_1_method_49_code, 5, some FieldType.boolean)
def mi104 : MI := (⟨RX7, "isGroup", "(I)Z"⟩, prog_1_method_50_code, 2, some FieldType.boolean)
def mi105 : MI := (⟨RX7, "isSet", "(I)Z"⟩, prog_1_method_51_code, 2, some FieldType.boolean)
def mi106 : MI := (⟨RX7, "isOutside", "(II)Z"⟩, prog_1_method_52_code, 3, some FieldType.boolean)
def mi107 : MI := (⟨RX7, "isList", "(I)Z"⟩, prog_1_method_53_code, 1, some FieldType.boolean)
def mi108 : MI := (⟨RX7, "isMissing", "(I)Z"⟩, prog_1_method_54_code, 2, some FieldType.boolean)
def mi109 : MI := (⟨RX7, "isPlace", "(II)Z"⟩, prog_1_method_55_code, 3, some FieldType.boolean)
def mi110 : MI := (⟨RX7, "takeNumbers", "(II[I)Z"⟩, prog_1_method_56_code, 5, some FieldType.boolean)
def mi111 : MI := (⟨RX7, "isUnbalanced", "([I)Z"⟩, prog_1_method_57_code, 7, some FieldType.boolean)
def mi112 : MI := (⟨RX7, "bit", "(II)I"⟩, prog_1_method_58_code, 2, some FieldType.int)
def mi113 : MI := (⟨RX7, "setOf", "([I)I"⟩, prog_1_method_59_code, 3, some FieldType.int)
def mi114 : MI := (⟨RX7, "isPure", "([I)Z"⟩, prog_1_method_60_code, 5, some FieldType.boolean)
def mi115 : MI := (⟨RX7, "greatestDivisor", "(JJ)J"⟩, prog_1_method_61_code, 11, some FieldType.long)
def mi116 : MI := (⟨RX7, "partOf", "(JJI)J"⟩, prog_1_method_62_code, 7, some FieldType.long)
def mi117 : MI := (⟨RX8, "isIn", "(JJJ)Z"⟩, prog_10_method_2_code, 6, some FieldType.boolean)
def mi118 : MI := (⟨RX8, "has", "(II)Z"⟩, prog_10_method_3_code, 2, some FieldType.boolean)
def mi119 : MI := (⟨RX8, "bits", "(I)I"⟩, prog_10_method_4_code, 3, some FieldType.int)
def mi120 : MI := (⟨RX8, "refuse", "(I)I"⟩, prog_10_method_5_code, 2, some FieldType.int)
def mi121 : MI := (⟨RX8, "refuseFar", "(I)I"⟩, prog_10_method_6_code, 2, some FieldType.int)
def mi122 : MI := (⟨RX8, "refuseFarther", "(I)J"⟩, prog_10_method_7_code, 2, some FieldType.long)
def mi123 : MI := (⟨RX8, "common", "(JJ)J"⟩, prog_10_method_8_code, 10, some FieldType.long)
def mi124 : MI := (⟨RX8, "partOf", "(JJI)J"⟩, prog_10_method_9_code, 7, some FieldType.long)
def mi125 : MI := (⟨RX8, "isOne", "(I)Z"⟩, prog_10_method_10_code, 2, some FieldType.boolean)
def mi126 : MI := (⟨RX8, "isUnit", "(I)Z"⟩, prog_10_method_11_code, 1, some FieldType.boolean)
def mi127 : MI := (⟨RX8, "isList", "(I)Z"⟩, prog_10_method_12_code, 1, some FieldType.boolean)
def mi128 : MI := (⟨RX8, "isSet", "(I)Z"⟩, prog_10_method_13_code, 2, some FieldType.boolean)
def mi129 : MI := (⟨RX8, "letter", "(I)I"⟩, prog_10_method_14_code, 2, some FieldType.int)
def mi130 : MI := (⟨RX8, "quantity", "(I)I"⟩, prog_10_method_15_code, 4, some FieldType.int)
def mi131 : MI := (⟨RX8, "changes", "(II)V"⟩, prog_10_method_16_code, 4, none)
def mi132 : MI := (⟨RX8, "tell", "(III)I"⟩, prog_10_method_17_code, 6, some FieldType.int)
def mi133 : MI := (⟨RX8, "turn", "(II)I"⟩, prog_10_method_18_code, 4, some FieldType.int)
def mi134 : MI := (⟨RX8, "powerOf", "(II)I"⟩, prog_10_method_19_code, 4, some FieldType.int)
def mi135 : MI := (⟨RX8, "isPure", "(I)Z"⟩, prog_10_method_20_code, 4, some FieldType.boolean)
def mi136 : MI := (⟨RX8, "isLike", "(II)Z"⟩, prog_10_method_21_code, 5, some FieldType.boolean)
def mi137 : MI := (⟨RX8, "twinOf", "(I)I"⟩, prog_10_method_22_code, 3, some FieldType.int)
def mi138 : MI := (⟨RX8, "of", "(II)I"⟩, prog_10_method_23_code, 3, some FieldType.int)
def mi139 : MI := (⟨RX8, "twin", "(I)I"⟩, prog_10_method_24_code, 2, some FieldType.int)
def mi140 : MI := (⟨RX8, "isUnder", "(II)Z"⟩, prog_10_method_25_code, 2, some FieldType.boolean)
def mi141 : MI := (⟨RX8, "taken", "(II)I"⟩, prog_10_method_26_code, 3, some FieldType.int)
def mi142 : MI := (⟨RX8, "swapRows", "(II)V"⟩, prog_10_method_27_code, 6, none)
def mi143 : MI := (⟨RX8, "clears", "(II)J"⟩, prog_10_method_28_code, 13, some FieldType.long)
def mi144 : MI := (⟨RX8, "lays", "(II)I"⟩, prog_10_method_29_code, 6, some FieldType.int)
def mi145 : MI := (⟨RX8, "isFree", "(I)Z"⟩, prog_10_method_30_code, 2, some FieldType.boolean)
def mi146 : MI := (⟨RX8, "isHad", "(II)Z"⟩, prog_10_method_31_code, 10, some FieldType.boolean)
def mi147 : MI := (⟨RX8, "firm", "()I"⟩, prog_10_method_32_code, 3, some FieldType.int)
def mi148 : MI := (⟨RX8, "loose", "()I"⟩, prog_10_method_33_code, 1, some FieldType.int)
def mi149 : MI := (⟨RX8, "ownOf", "(I)I"⟩, prog_10_method_34_code, 5, some FieldType.int)
def mi150 : MI := (⟨RX8, "groups", "(I)V"⟩, prog_10_method_35_code, 3, none)
def mi151 : MI := (⟨RX8, "different", "()I"⟩, prog_10_method_36_code, 4, some FieldType.int)
def mi152 : MI := (⟨RX8, "rank", "(I)I"⟩, prog_10_method_37_code, 2, some FieldType.int)
def mi153 : MI := (⟨RX8, "group", "(II)I"⟩, prog_10_method_38_code, 4, some FieldType.int)
def mi154 : MI := (⟨RX8, "tells", "(II)Z"⟩, prog_10_method_39_code, 5, some FieldType.boolean)
def mi155 : MI := (⟨RX8, "isToldPure", "()Z"⟩, prog_10_method_40_code, 5, some FieldType.boolean)
def mi156 : MI := (⟨RX8, "pure", "(I)I"⟩, prog_10_method_41_code, 2, some FieldType.int)
def mi157 : MI := (⟨RX8, "cover", "(III)J"⟩, prog_10_method_42_code, 6, some FieldType.long)
def mi158 : MI := (⟨RX8, "box", "()I"⟩, prog_10_method_43_code, 4, some FieldType.int)
def mi159 : MI := (⟨RX8, "isLeast", "(II)Z"⟩, prog_10_method_44_code, 4, some FieldType.boolean)
def mi160 : MI := (⟨RX8, "least", "(I)I"⟩, prog_10_method_45_code, 3, some FieldType.int)
def mi161 : MI := (⟨RX8, "isChosen", "(I)Z"⟩, prog_10_method_46_code, 2, some FieldType.boolean)
def mi162 : MI := (⟨RX8, "may", "(I)I"⟩, prog_10_method_47_code, 2, some FieldType.int)
def mi163 : MI := (⟨RX8, "rest", "(III)I"⟩, prog_10_method_48_code, 5, some FieldType.int)
def mi164 : MI := (⟨RX8, "sizesOf", "(I)J"⟩, prog_10_method_49_code, 6, some FieldType.long)
def mi165 : MI := (⟨RX8, "sizes", "(I)J"⟩, prog_10_method_50_code, 2, some FieldType.long)
def mi166 : MI := (⟨RX8, "chosen", "()I"⟩, prog_10_method_51_code, 3, some FieldType.int)
def mi167 : MI := (⟨RX8, "bestSet", "(Z)I"⟩, prog_10_method_52_code, 8, some FieldType.int)
def mi168 : MI := (⟨RX8, "sets", "(I)I"⟩, prog_10_method_53_code, 2, some FieldType.int)
def mi169 : MI := (⟨RX8, "odds", "(I)J"⟩, prog_10_method_54_code, 5, some FieldType.long)
def mi170 : MI := (⟨RX8, "scale", "(III)I"⟩, prog_10_method_55_code, 4, some FieldType.int)
def mi171 : MI := (⟨RX8, "scaled", "(II)I"⟩, prog_10_method_56_code, 3, some FieldType.int)
def mi172 : MI := (⟨RX8, "isPrime", "(I)Z"⟩, prog_10_method_57_code, 2, some FieldType.boolean)
def mi173 : MI := (⟨RX8, "often", "(II)I"⟩, prog_10_method_58_code, 4, some FieldType.int)
def mi174 : MI := (⟨RX8, "powerIn", "(II)I"⟩, prog_10_method_59_code, 3, some FieldType.int)
def mi175 : MI := (⟨RX8, "weighs", "(II)J"⟩, prog_10_method_60_code, 6, some FieldType.long)
def mi176 : MI := (⟨RX8, "areScaled", "()Z"⟩, prog_10_method_61_code, 3, some FieldType.boolean)
def mi177 : MI := (⟨RX8, "isAlike", "()Z"⟩, prog_10_method_62_code, 3, some FieldType.boolean)
def mi178 : MI := (⟨RX8, "alike", "()I"⟩, prog_10_method_63_code, 3, some FieldType.int)
def mi179 : MI := (⟨RX8, "isScaled", "(I)Z"⟩, prog_10_method_64_code, 4, some FieldType.boolean)
def mi180 : MI := (⟨RX8, "wrongMust", "(II)I"⟩, prog_10_method_65_code, 3, some FieldType.int)
def mi181 : MI := (⟨RX8, "must", "(IIII)J"⟩, prog_10_method_66_code, 7, some FieldType.long)
def mi182 : MI := (⟨RX8, "whole", "(II)I"⟩, prog_10_method_67_code, 6, some FieldType.int)
def mi183 : MI := (⟨RX8, "off", "(I)I"⟩, prog_10_method_68_code, 4, some FieldType.int)
def mi184 : MI := (⟨RX8, "powerBy", "(II)I"⟩, prog_10_method_69_code, 6, some FieldType.int)
def mi185 : MI := (⟨RX8, "isWanted", "(I)Z"⟩, prog_10_method_70_code, 4, some FieldType.boolean)
def mi186 : MI := (⟨RX8, "fills", "(II)Z"⟩, prog_10_method_71_code, 4, some FieldType.boolean)
def mi187 : MI := (⟨RX8, "fewestOf", "(I)I"⟩, prog_10_method_72_code, 3, some FieldType.int)
def mi188 : MI := (⟨RX8, "fewest", "(II)I"⟩, prog_10_method_73_code, 4, some FieldType.int)
def mi189 : MI := (⟨RX8, "keyOf", "(I)J"⟩, prog_10_method_74_code, 5, some FieldType.long)
def mi190 : MI := (⟨RX8, "differs", "(IJ)I"⟩, prog_10_method_75_code, 5, some FieldType.int)
def mi191 : MI := (⟨RX8, "adds", "(III)I"⟩, prog_10_method_76_code, 6, some FieldType.int)
def mi192 : MI := (⟨RX8, "had", "(I)I"⟩, prog_10_method_77_code, 4, some FieldType.int)
def mi193 : MI := (⟨RX8, "here", "()I"⟩, prog_10_method_78_code, 1, some FieldType.int)
def mi194 : MI := (⟨RX8, "isSigned", "(II)Z"⟩, prog_10_method_79_code, 3, some FieldType.boolean)
def mi195 : MI := (⟨RX8, "isDigit", "()Z"⟩, prog_10_method_80_code, 1, some FieldType.boolean)
def mi196 : MI := (⟨RX8, "readsClosed", "()Z"⟩, prog_10_method_81_code, 1, some FieldType.boolean)
def mi197 : MI := (⟨RX8, "readsAtom", "()Z"⟩, prog_10_method_82_code, 2, some FieldType.boolean)
def mi198 : MI := (⟨RX8, "readsPart", "()Z"⟩, prog_10_method_83_code, 2, some FieldType.boolean)
def mi199 : MI := (⟨RX8, "readsTerm", "()Z"⟩, prog_10_method_84_code, 1, some FieldType.boolean)
def mi200 : MI := (⟨RX8, "readsSum", "()Z"⟩, prog_10_method_85_code, 1, some FieldType.boolean)
def mi201 : MI := (⟨RX8, "readsBoth", "()Z"⟩, prog_10_method_86_code, 1, some FieldType.boolean)
def mi202 : MI := (⟨RX8, "formula", "()I"⟩, prog_10_method_87_code, 3, some FieldType.int)
def mi203 : MI := (⟨RX8, "sign", "()I"⟩, prog_10_method_88_code, 1, some FieldType.int)
def mi204 : MI := (⟨RX8, "sets", "(II)V"⟩, prog_10_method_89_code, 4, none)
def mi205 : MI := (⟨RX8, "isPureAt", "(I)Z"⟩, prog_10_method_90_code, 4, some FieldType.boolean)
def mi206 : MI := (⟨RX8, "atom", "(I)V"⟩, prog_10_method_91_code, 5, none)
def mi207 : MI := (⟨RX8, "part", "(I)V"⟩, prog_10_method_92_code, 4, none)
def mi208 : MI := (⟨RX8, "term", "(I)V"⟩, prog_10_method_93_code, 4, none)
def mi209 : MI := (⟨RX8, "sum", "(I)V"⟩, prog_10_method_94_code, 4, none)
def mi210 : MI := (⟨RX8, "goesThrough", "()V"⟩, prog_10_method_95_code, 3, none)
def mi211 : MI := (⟨RX8, "wrong", "(I)I"⟩, prog_10_method_96_code, 5, some FieldType.int)
def mi212 : MI := (⟨RX8, "sides", "(II)I"⟩, prog_10_method_97_code, 3, some FieldType.int)
def mi213 : MI := (⟨RX8, "mend", "(I)I"⟩, prog_10_method_98_code, 3, some FieldType.int)
def mi214 : MI := (⟨RX8, "draws", "(I)I"⟩, prog_10_method_99_code, 2, some FieldType.int)
def mi215 : MI := (⟨RX8, "lots", "(III)I"⟩, prog_10_method_100_code, 10, some FieldType.int)
def mi216 : MI := (⟨RX8, "isCell", "(II)Z"⟩, prog_10_method_101_code, 3, some FieldType.boolean)
def mi217 : MI := (⟨RX8, "list", "(II)I"⟩, prog_10_method_102_code, 4, some FieldType.int)
def mi218 : MI := (⟨RX8, "wrongCell", "(II)I"⟩, prog_10_method_103_code, 3, some FieldType.int)
def mi219 : MI := (⟨RX8, "put", "(III)I"⟩, prog_10_method_104_code, 5, some FieldType.int)
def mi220 : MI := (⟨RX8, "look", "(II)I"⟩, prog_10_method_105_code, 4, some FieldType.int)
def mi221 : MI := (⟨RX8, "lays", "(III)I"⟩, prog_10_method_106_code, 6, some FieldType.int)
def mi222 : MI := (⟨RX8, "judge", "(I)I"⟩, prog_10_method_107_code, 3, some FieldType.int)
def mi223 : MI := (⟨RX8, "undo", "()I"⟩, prog_10_method_108_code, 2, some FieldType.int)
def mi224 : MI := (⟨RX8, "image", "()I"⟩, prog_10_method_109_code, 2, some FieldType.int)
def mi225 : MI := (⟨RX8, "on", "()I"⟩, prog_10_method_110_code, 2, some FieldType.int)
def mi226 : MI := (⟨RX8, "scales", "()I"⟩, prog_10_method_111_code, 3, some FieldType.int)
def mi227 : MI := (⟨RX8, "count", "(I)I"⟩, prog_10_method_112_code, 2, some FieldType.int)
def mi228 : MI := (⟨RJ6, "bitCount", "(I)I"⟩, prog_11_method_49_code, 1, some FieldType.int)
def mi229 : MI := (⟨RJ7, "fill", "([JJ)V"⟩, prog_14_method_101_code, 5, none)
def mi230 : MI := (⟨RJ7, "fill", "([II)V"⟩, prog_14_method_103_code, 4, none)
def miL : List MI := [mi0, mi1, mi2, mi3, mi4, mi5, mi6, mi7, mi8, mi9, mi10, mi11, mi12, mi13, mi14, mi15, mi16, mi17, mi18, mi19, mi20, mi21, mi22, mi23, mi24, mi25, mi26, mi27, mi28, mi29, mi30, mi31, mi32, mi33, mi34, mi35, mi36, mi37, mi38, mi39, mi40, mi41, mi42, mi43, mi44, mi45, mi46, mi47, mi48, mi49, mi50, mi51, mi52, mi53, mi54, mi55, mi56, mi57, mi58, mi59, mi60, mi61, mi62, mi63, mi64, mi65, mi66, mi67, mi68, mi69, mi70, mi71, mi72, mi73, mi74, mi75, mi76, mi77, mi78, mi79, mi80, mi81, mi82, mi83, mi84, mi85, mi86, mi87, mi88, mi89, mi90, mi91, mi92, mi93, mi94, mi95, mi96, mi97, mi98, mi99, mi100, mi101, mi102, mi103, mi104, mi105, mi106, mi107, mi108, mi109, mi110, mi111, mi112, mi113, mi114, mi115, mi116, mi117, mi118, mi119, mi120, mi121, mi122, mi123, mi124, mi125, mi126, mi127, mi128, mi129, mi130, mi131, mi132, mi133, mi134, mi135, mi136, mi137, mi138, mi139, mi140, mi141, mi142, mi143, mi144, mi145, mi146, mi147, mi148, mi149, mi150, mi151, mi152, mi153, mi154, mi155, mi156, mi157, mi158, mi159, mi160, mi161, mi162, mi163, mi164, mi165, mi166, mi167, mi168, mi169, mi170, mi171, mi172, mi173, mi174, mi175, mi176, mi177, mi178, mi179, mi180, mi181, mi182, mi183, mi184, mi185, mi186, mi187, mi188, mi189, mi190, mi191, mi192, mi193, mi194, mi195, mi196, mi197, mi198, mi199, mi200, mi201, mi202, mi203, mi204, mi205, mi206, mi207, mi208, mi209, mi210, mi211, mi212, mi213, mi214, mi215, mi216, mi217, mi218, mi219, mi220, mi221, mi222, mi223, mi224, mi225, mi226, mi227, mi228, mi229, mi230]
def MT (k : Nat) : MI := miL.getD k mi0
theorem uw0 : ∀ w ∈ u_ws RX0 TX0 9, w ∈ TB := tb_in _ [267, 269, 271, 273, 275, 277, 279, 281, 283] (by decide +kernel) (by decide +kernel)
theorem uw1 : ∀ w ∈ u_ws RX1 TX1 6, w ∈ TB := tb_in _ [202, 204, 206, 208, 210, 212] (by decide +kernel) (by decide +kernel)
theorem uw2 : ∀ w ∈ u_ws RX2 TX2 3, w ∈ TB := tb_in _ [170, 172, 174] (by decide +kernel) (by decide +kernel)
theorem uw3 : ∀ w ∈ u_ws RX3 TX3 8, w ∈ TB := tb_in _ [141, 143, 145, 147, 149, 151, 153, 155] (by decide +kernel) (by decide +kernel)
theorem uw4 : ∀ w ∈ u_ws RX4 TX4 13, w ∈ TB := tb_in _ [341, 343, 345, 347, 349, 351, 353, 355, 357, 359, 361, 363, 365] (by decide +kernel) (by decide +kernel)
theorem uw5 : ∀ w ∈ u_ws RX5 TX5 7, w ∈ TB := tb_in _ [301, 303, 305, 307, 309, 311, 313] (by decide +kernel) (by decide +kernel)
theorem uw6 : ∀ w ∈ u_ws RX6 TX6 5, w ∈ TB := tb_in _ [234, 236, 238, 240, 242] (by decide +kernel) (by decide +kernel)
theorem uw7 : ∀ w ∈ u_ws RX7 TX7 16, w ∈ TB := tb_in _ [385, 387, 389, 391, 393, 395, 397, 399, 401, 403, 405, 407, 409, 411, 413, 415] (by decide +kernel) (by decide +kernel)
theorem uw8 : ∀ w ∈ u_ws RX8 TX8 27, w ∈ TB := tb_in _ [974, 976, 978, 980, 982, 984, 986, 988, 990, 992, 994, 996, 998, 1000, 1002, 1004, 1006, 1008, 1010, 1012, 1014, 1016, 1018, 1020, 1022, 1024, 1026] (by decide +kernel) (by decide +kernel)
/-! what may be called -/
theorem cal0 : CalOK MT 0 1 := ⟨by decide +kernel, tb_3 76 rfl rfl, tb_1 6 rfl rfl, ⟨by decide +kernel, by decide +kernel⟩, by decide +kernel⟩
theorem cal1 : CalOK MT 1 0 := ⟨by decide +kernel, tb_3 108 rfl rfl, tb_1 6 rfl rfl, ⟨by decide +kernel, by decide +kernel⟩, by decide +kernel⟩
theorem cal2 : CalOK MT 2 0 := ⟨by decide +kernel, tb_3 99 rfl rfl, tb_1 6 rfl rfl, ⟨by decide +kernel, by decide +kernel⟩, by decide +kernel⟩
theorem cal3 : CalOK MT 3 1 := ⟨by decide +kernel, tb_3 104 rfl rfl, tb_1 6 rfl rfl, ⟨by decide +kernel, by decide +kernel⟩, by decide +kernel⟩
theorem cal4 : CalOK MT 4 3 := ⟨by decide +kernel, tb_2 139 rfl rfl, tb_1 5 rfl rfl, ⟨by decide +kernel, by decide +kernel⟩, by decide +kernel⟩
theorem cal5 : CalOK MT 5 1 := ⟨by decide +kernel, tb_2 146 rfl rfl, tb_1 5 rfl rfl, ⟨by decide +kernel, by decide +kernel⟩, by decide +kernel⟩
theorem cal6 : CalOK MT 6 1 := ⟨by decide +kernel, tb_2 150 rfl rfl, tb_1 5 rfl rfl, ⟨by decide +kernel, by decide +kernel⟩, by decide +kernel⟩
theorem cal7 : CalOK MT 7 2 := ⟨by decide +kernel, tb_2 225 rfl rfl, tb_1 5 rfl rfl, ⟨by decide +kernel, by decide +kernel⟩, by decide +kernel⟩
theorem cal8 : CalOK MT 8 4 := ⟨by decide +kernel, tb_2 170 rfl rfl, tb_1 3 rfl rfl, ⟨by decide +kernel, by decide +kernel⟩, by decide +kernel⟩
theorem cal9 : CalOK MT 9 0 := ⟨by decide +kernel, tb_2 115 rfl rfl, tb_1 3 rfl rfl, ⟨by decide +kernel, by decide +kernel⟩, by decide +kernel⟩
theorem cal10 : CalOK MT 10 1 := ⟨by decide +kernel, tb_4 111 rfl rfl, tb_1 3 rfl rfl, ⟨by decide +kernel, by decide +kernel⟩, by decide +kernel⟩
theorem cal11 : CalOK MT 11 1 := ⟨by decide +kernel, tb_4 122 rfl rfl, tb_1 2 rfl rfl, ⟨by decide +kernel, by decide +kernel⟩, by decide +kernel⟩
theorem cal12 : CalOK MT 12 1 := ⟨by decide +kernel, tb_2 108 rfl rfl, tb_1 2 rfl rfl, ⟨by decide +kernel, by decide +kernel⟩, by decide +kernel⟩
theorem cal13 : CalOK MT 13 3 := ⟨by decide +kernel, tb_4 43 rfl rfl, tb_1 2 rfl rfl, ⟨by decide +kernel, by decide +kernel⟩, by decide +kernel⟩
theorem cal14 : CalOK MT 14 0 := ⟨by decide +kernel, tb_4 53 rfl rfl, tb_1 2 rfl rfl, ⟨by decide +kernel, by decide +kernel⟩, by decide +kernel⟩
theorem cal15 : CalOK MT 15 1 := ⟨by decide +kernel, tb_3 132 rfl rfl, tb_1 2 rfl rfl, ⟨by decide +kernel, by decide +kernel⟩, by decide +kernel⟩
theorem cal16 : CalOK MT 16 0 := ⟨by decide +kernel, tb_3 147 rfl rfl, tb_1 2 rfl rfl, ⟨by decide +kernel, by decide +kernel⟩, by decide +kernel⟩
theorem cal17 : CalOK MT 17 1 := ⟨by decide +kernel, tb_3 143 rfl rfl, tb_1 2 rfl rfl, ⟨by decide +kernel, by decide +kernel⟩, by decide +kernel⟩
theorem cal18 : CalOK MT 18 3 := ⟨by decide +kernel, tb_3 158 rfl rfl, tb_1 2 rfl rfl, ⟨by decide +kernel, by decide +kernel⟩, by decide +kernel⟩
theorem cal19 : CalOK MT 19 2 := ⟨by decide +kernel, tb_3 162 rfl rfl, tb_1 2 rfl rfl, ⟨by decide +kernel, by decide +kernel⟩, by decide +kernel⟩
theorem cal20 : CalOK MT 20 2 := ⟨by decide +kernel, tb_3 221 rfl rfl, tb_1 8 rfl rfl, ⟨by decide +kernel, by decide +kernel⟩, by decide +kernel⟩
theorem cal21 : CalOK MT 21 1 := ⟨by decide +kernel, tb_3 228 rfl rfl, tb_1 8 rfl rfl, ⟨by decide +kernel, by decide +kernel⟩, by decide +kernel⟩
theorem cal22 : CalOK MT 22 1 := ⟨by decide +kernel, tb_3 232 rfl rfl, tb_1 8 rfl rfl, ⟨by decide +kernel, by decide +kernel⟩, by decide +kernel⟩
theorem cal23 : CalOK MT 23 2 := ⟨by decide +kernel, tb_3 236 rfl rfl, tb_1 8 rfl rfl, ⟨by decide +kernel, by decide +kernel⟩, by decide +kernel⟩
theorem cal24 : CalOK MT 24 1 := ⟨by decide +kernel, tb_4 0 rfl rfl, tb_1 8 rfl rfl, ⟨by decide +kernel, by decide +kernel⟩, by decide +kernel⟩
theorem cal25 : CalOK MT 25 2 := ⟨by decide +kernel, tb_4 15 rfl rfl, tb_1 8 rfl rfl, ⟨by decide +kernel, by decide +kernel⟩, by decide +kernel⟩
theorem cal26 : CalOK MT 26 0 := ⟨by decide +kernel, tb_4 11 rfl rfl, tb_1 8 rfl rfl, ⟨by decide +kernel, by decide +kernel⟩, by decide +kernel⟩
theorem cal27 : CalOK MT 27 0 := ⟨by decide +kernel, tb_4 32 rfl rfl, tb_1 8 rfl rfl, ⟨by decide +kernel, by decide +kernel⟩, by decide +kernel⟩
theorem cal28 : CalOK MT 28 0 := ⟨by decide +kernel, tb_4 4 rfl rfl, tb_1 8 rfl rfl, ⟨by decide +kernel, by decide +kernel⟩, by decide +kernel⟩
theorem cal29 : CalOK MT 29 2 := ⟨by decide +kernel, tb_4 36 rfl rfl, tb_1 8 rfl rfl, ⟨by decide +kernel, by decide +kernel⟩, by decide +kernel⟩
theorem cal30 : CalOK MT 30 1 := ⟨by decide +kernel, tb_4 7 rfl rfl, tb_1 8 rfl rfl, ⟨by decide +kernel, by decide +kernel⟩, by decide +kernel⟩
theorem cal31 : CalOK MT 31 1 := ⟨by decide +kernel, tb_4 19 rfl rfl, tb_1 8 rfl rfl, ⟨by decide +kernel, by decide +kernel⟩, by decide +kernel⟩
theorem cal32 : CalOK MT 32 0 := ⟨by decide +kernel, tb_4 23 rfl rfl, tb_1 8 rfl rfl, ⟨by decide +kernel, by decide +kernel⟩, by decide +kernel⟩
theorem cal33 : CalOK MT 33 1 := ⟨by decide +kernel, tb_4 28 rfl rfl, tb_1 8 rfl rfl, ⟨by decide +kernel, by decide +kernel⟩, by decide +kernel⟩
theorem cal34 : CalOK MT 34 2 := ⟨by decide +kernel, tb_4 39 rfl rfl, tb_1 8 rfl rfl, ⟨by decide +kernel, by decide +kernel⟩, by decide +kernel⟩
theorem cal35 : CalOK MT 35 1 := ⟨by decide +kernel, tb_4 69 rfl rfl, tb_1 8 rfl rfl, ⟨by decide +kernel, by decide +kernel⟩, by decide +kernel⟩
theorem cal36 : CalOK MT 36 0 := ⟨by decide +kernel, tb_4 57 rfl rfl, tb_1 8 rfl rfl, ⟨by decide +kernel, by decide +kernel⟩, by decide +kernel⟩
theorem cal37 : CalOK MT 37 0 := ⟨by decide +kernel, tb_4 61 rfl rfl, tb_1 8 rfl rfl, ⟨by decide +kernel, by decide +kernel⟩, by decide +kernel⟩
theorem cal38 : CalOK MT 38 0 := ⟨by decide +kernel, tb_3 47 rfl rfl, tb_1 7 rfl rfl, ⟨by decide +kernel, by decide +kernel⟩, by decide +kernel⟩
theorem cal39 : CalOK MT 39 4 := ⟨by decide +kernel, tb_3 50 rfl rfl, tb_1 7 rfl rfl, ⟨by decide +kernel, by decide +kernel⟩, by decide +kernel⟩
theorem cal40 : CalOK MT 40 0 := ⟨by decide +kernel, tb_3 58 rfl rfl, tb_1 7 rfl rfl, ⟨by decide +kernel, by decide +kernel⟩, by decide +kernel⟩
theorem cal41 : CalOK MT 41 6 := ⟨by decide +kernel, tb_3 63 rfl rfl, tb_1 7 rfl rfl, ⟨by decide +kernel, by decide +kernel⟩, by decide +kernel⟩
theorem cal42 : CalOK MT 42 1 := ⟨by decide +kernel, tb_3 201 rfl rfl, tb_1 7 rfl rfl, ⟨by decide +kernel, by decide +kernel⟩, by decide +kernel⟩
theorem cal43 : CalOK MT 43 6 := ⟨by decide +kernel, tb_3 208 rfl rfl, tb_1 7 rfl rfl, ⟨by decide +kernel, by decide +kernel⟩, by decide +kernel⟩
theorem cal44 : CalOK MT 44 2 := ⟨by decide +kernel, tb_3 211 rfl rfl, tb_1 7 rfl rfl, ⟨by decide +kernel, by decide +kernel⟩, by decide +kernel⟩
theorem cal45 : CalOK MT 45 2 := ⟨by decide +kernel, tb_3 185 rfl rfl, tb_1 7 rfl rfl, ⟨by decide +kernel, by decide +kernel⟩, by decide +kernel⟩
theorem cal46 : CalOK MT 46 1 := ⟨by decide +kernel, tb_3 189 rfl rfl, tb_1 7 rfl rfl, ⟨by decide +kernel, by decide +kernel⟩, by decide +kernel⟩
theorem cal47 : CalOK MT 47 6 := ⟨by decide +kernel, tb_3 193 rfl rfl, tb_1 7 rfl rfl, ⟨by decide +kernel, by decide +kernel⟩, by decide +kernel⟩
theorem cal48 : CalOK MT 48 1 := ⟨by decide +kernel, tb_2 119 rfl rfl, tb_1 4 rfl rfl, ⟨by decide +kernel, by decide +kernel⟩, by decide +kernel⟩
theorem cal49 : CalOK MT 49 3 := ⟨by decide +kernel, tb_2 122 rfl rfl, tb_1 4 rfl rfl, ⟨by decide +kernel, by decide +kernel⟩, by decide +kernel⟩
theorem cal50 : CalOK MT 50 1 := ⟨by decide +kernel, tb_2 134 rfl rfl, tb_1 4 rfl rfl, ⟨by decide +kernel, by decide +kernel⟩, by decide +kernel⟩
theorem cal51 : CalOK MT 51 0 := ⟨by decide +kernel, tb_2 185 rfl rfl, tb_1 4 rfl rfl, ⟨by decide +kernel, by decide +kernel⟩, by decide +kernel⟩
theorem cal52 : CalOK MT 52 1 := ⟨by decide +kernel, tb_2 219 rfl rfl, tb_1 4 rfl rfl, ⟨by decide +kernel, by decide +kernel⟩, by decide +kernel⟩
theorem cal53 : CalOK MT 53 0 := ⟨by decide +kernel, tb_2 207 rfl rfl, tb_1 4 rfl rfl, ⟨by decide +kernel, by decide +kernel⟩, by decide +kernel⟩
theorem cal54 : CalOK MT 54 1 := ⟨by decide +kernel, tb_3 16 rfl rfl, tb_1 4 rfl rfl, ⟨by decide +kernel, by decide +kernel⟩, by decide +kernel⟩
theorem cal55 : CalOK MT 55 1 := ⟨by decide +kernel, tb_3 20 rfl rfl, tb_1 4 rfl rfl, ⟨by decide +kernel, by decide +kernel⟩, by decide +kernel⟩
theorem cal56 : CalOK MT 56 1 := ⟨by decide +kernel, tb_2 93 rfl rfl, tb_1 1 rfl rfl, ⟨by decide +kernel, by decide +kernel⟩, by decide +kernel⟩
theorem cal57 : CalOK MT 57 1 := ⟨by decide +kernel, tb_2 101 rfl rfl, tb_1 1 rfl rfl, ⟨by decide +kernel, by decide +kernel⟩, by decide +kernel⟩
theorem cal58 : CalOK MT 58 3 := ⟨by decide +kernel, tb_2 154 rfl rfl, tb_1 1 rfl rfl, ⟨by decide +kernel, by decide +kernel⟩, by decide +kernel⟩
theorem cal59 : CalOK MT 59 2 := ⟨by decide +kernel, tb_2 177 rfl rfl, tb_1 1 rfl rfl, ⟨by decide +kernel, by decide +kernel⟩, by decide +kernel⟩
theorem cal60 : CalOK MT 60 2 := ⟨by decide +kernel, tb_2 181 rfl rfl, tb_1 1 rfl rfl, ⟨by decide +kernel, by decide +kernel⟩, by decide +kernel⟩
theorem cal61 : CalOK MT 61 1 := ⟨by decide +kernel, tb_2 193 rfl rfl, tb_1 1 rfl rfl, ⟨by decide +kernel, by decide +kernel⟩, by decide +kernel⟩
theorem cal62 : CalOK MT 62 2 := ⟨by decide +kernel, tb_2 197 rfl rfl, tb_1 1 rfl rfl, ⟨by decide +kernel, by decide +kernel⟩, by decide +kernel⟩
theorem cal63 : CalOK MT 63 1 := ⟨by decide +kernel, tb_2 203 rfl rfl, tb_1 1 rfl rfl, ⟨by decide +kernel, by decide +kernel⟩, by decide +kernel⟩
theorem cal64 : CalOK MT 64 2 := ⟨by decide +kernel, tb_2 211 rfl rfl, tb_1 1 rfl rfl, ⟨by decide +kernel, by decide +kernel⟩, by decide +kernel⟩
theorem cal65 : CalOK MT 65 1 := ⟨by decide +kernel, tb_2 237 rfl rfl, tb_1 1 rfl rfl, ⟨by decide +kernel, by decide +kernel⟩, by decide +kernel⟩
theorem cal66 : CalOK MT 66 3 := ⟨by decide +kernel, tb_3 27 rfl rfl, tb_1 1 rfl rfl, ⟨by decide +kernel, by decide +kernel⟩, by decide +kernel⟩
theorem cal67 : CalOK MT 67 0 := ⟨by decide +kernel, tb_3 43 rfl rfl, tb_1 1 rfl rfl, ⟨by decide +kernel, by decide +kernel⟩, by decide +kernel⟩
theorem cal68 : CalOK MT 68 1 := ⟨by decide +kernel, tb_3 54 rfl rfl, tb_1 1 rfl rfl, ⟨by decide +kernel, by decide +kernel⟩, by decide +kernel⟩
theorem cal69 : CalOK MT 69 1 := ⟨by decide +kernel, tb_3 68 rfl rfl, tb_1 1 rfl rfl, ⟨by decide +kernel, by decide +kernel⟩, by decide +kernel⟩
theorem cal70 : CalOK MT 70 3 := ⟨by decide +kernel, tb_3 87 rfl rfl, tb_1 1 rfl rfl, ⟨by decide +kernel, by decide +kernel⟩, by decide +kernel⟩
theorem cal71 : CalOK MT 71 1 := ⟨by decide +kernel, tb_3 95 rfl rfl, tb_1 1 rfl rfl, ⟨by decide +kernel, by decide +kernel⟩, by decide +kernel⟩
theorem cal72 : CalOK MT 72 1 := ⟨by decide +kernel, tb_3 115 rfl rfl, tb_1 1 rfl rfl, ⟨by decide +kernel, by decide +kernel⟩, by decide +kernel⟩
theorem cal73 : CalOK MT 73 1 := ⟨by decide +kernel, tb_3 120 rfl rfl, tb_1 1 rfl rfl, ⟨by decide +kernel, by decide +kernel⟩, by decide +kernel⟩
theorem cal74 : CalOK MT 74 3 := ⟨by decide +kernel, tb_3 124 rfl rfl, tb_1 1 rfl rfl, ⟨by decide +kernel, by decide +kernel⟩, by decide +kernel⟩
theorem cal75 : CalOK MT 75 2 := ⟨by decide +kernel, tb_3 128 rfl rfl, tb_1 1 rfl rfl, ⟨by decide +kernel, by decide +kernel⟩, by decide +kernel⟩
theorem cal76 : CalOK MT 76 0 := ⟨by decide +kernel, tb_3 136 rfl rfl, tb_1 1 rfl rfl, ⟨by decide +kernel, by decide +kernel⟩, by decide +kernel⟩
theorem cal77 : CalOK MT 77 4 := ⟨by decide +kernel, tb_3 166 rfl rfl, tb_1 1 rfl rfl, ⟨by decide +kernel, by decide +kernel⟩, by decide +kernel⟩
theorem cal78 : CalOK MT 78 2 := ⟨by decide +kernel, tb_3 173 rfl rfl, tb_1 1 rfl rfl, ⟨by decide +kernel, by decide +kernel⟩, by decide +kernel⟩
theorem cal79 : CalOK MT 79 1 := ⟨by decide +kernel, tb_3 177 rfl rfl, tb_1 1 rfl rfl, ⟨by decide +kernel, by decide +kernel⟩, by decide +kernel⟩
theorem cal80 : CalOK MT 80 2 := ⟨by decide +kernel, tb_3 181 rfl rfl, tb_1 1 rfl rfl, ⟨by decide +kernel, by decide +kernel⟩, by decide +kernel⟩
theorem cal81 : CalOK MT 81 1 := ⟨by decide +kernel, tb_3 197 rfl rfl, tb_1 1 rfl rfl, ⟨by decide +kernel, by decide +kernel⟩, by decide +kernel⟩
theorem cal82 : CalOK MT 82 0 := ⟨by decide +kernel, tb_3 217 rfl rfl, tb_1 1 rfl rfl, ⟨by decide +kernel, by decide +kernel⟩, by decide +kernel⟩
theorem cal83 : CalOK MT 83 1 := ⟨by decide +kernel, tb_4 49 rfl rfl, tb_1 1 rfl rfl, ⟨by decide +kernel, by decide +kernel⟩, by decide +kernel⟩
theorem cal84 : CalOK MT 84 2 := ⟨by decide +kernel, tb_4 65 rfl rfl, tb_1 1 rfl rfl, ⟨by decide +kernel, by decide +kernel⟩, by decide +kernel⟩
theorem cal85 : CalOK MT 85 1 := ⟨by decide +kernel, tb_4 73 rfl rfl, tb_1 1 rfl rfl, ⟨by decide +kernel, by decide +kernel⟩, by decide +kernel⟩
theorem cal86 : CalOK MT 86 3 := ⟨by decide +kernel, tb_4 77 rfl rfl, tb_1 1 rfl rfl, ⟨by decide +kernel, by decide +kernel⟩, by decide +kernel⟩
theorem cal87 : CalOK MT 87 2 := ⟨by decide +kernel, tb_4 85 rfl rfl, tb_1 1 rfl rfl, ⟨by decide +kernel, by decide +kernel⟩, by decide +kernel⟩
theorem cal88 : CalOK MT 88 3 := ⟨by decide +kernel, tb_4 90 rfl rfl, tb_1 1 rfl rfl, ⟨by decide +kernel, by decide +kernel⟩, by decide +kernel⟩
theorem cal89 : CalOK MT 89 2 := ⟨by decide +kernel, tb_4 94 rfl rfl, tb_1 1 rfl rfl, ⟨by decide +kernel, by decide +kernel⟩, by decide +kernel⟩
theorem cal90 : CalOK MT 90 3 := ⟨by decide +kernel, tb_4 98 rfl rfl, tb_1 1 rfl rfl, ⟨by decide +kernel, by decide +kernel⟩, by decide +kernel⟩
theorem cal91 : CalOK MT 91 1 := ⟨by decide +kernel, tb_4 103 rfl rfl, tb_1 1 rfl rfl, ⟨by decide +kernel, by decide +kernel⟩, by decide +kernel⟩
theorem cal92 : CalOK MT 92 0 := ⟨by decide +kernel, tb_4 107 rfl rfl, tb_1 1 rfl rfl, ⟨by decide +kernel, by decide +kernel⟩, by decide +kernel⟩
theorem cal93 : CalOK MT 93 0 := ⟨by decide +kernel, tb_4 118 rfl rfl, tb_1 1 rfl rfl, ⟨by decide +kernel, by decide +kernel⟩, by decide +kernel⟩
theorem cal94 : CalOK MT 94 0 := ⟨by decide +kernel, tb_4 127 rfl rfl, tb_1 1 rfl rfl, ⟨by decide +kernel, by decide +kernel⟩, by decide +kernel⟩
theorem cal95 : CalOK MT 95 1 := ⟨by decide +kernel, tb_4 131 rfl rfl, tb_1 1 rfl rfl, ⟨by decide +kernel, by decide +kernel⟩, by decide +kernel⟩
theorem cal96 : CalOK MT 96 1 := ⟨by decide +kernel, tb_2 97 rfl rfl, tb_1 1 rfl rfl, ⟨by decide +kernel, by decide +kernel⟩, by decide +kernel⟩
theorem cal97 : CalOK MT 97 1 := ⟨by decide +kernel, tb_2 165 rfl rfl, tb_1 1 rfl rfl, ⟨by decide +kernel, by decide +kernel⟩, by decide +kernel⟩
theorem cal98 : CalOK MT 98 1 := ⟨by decide +kernel, tb_3 31 rfl rfl, tb_1 1 rfl rfl, ⟨by decide +kernel, by decide +kernel⟩, by decide +kernel⟩
theorem cal99 : CalOK MT 99 1 := ⟨by decide +kernel, tb_2 158 rfl rfl, tb_1 1 rfl rfl, ⟨by decide +kernel, by decide +kernel⟩, by decide +kernel⟩
theorem cal100 : CalOK MT 100 1 := ⟨by decide +kernel, tb_2 161 rfl rfl, tb_1 1 rfl rfl, ⟨by decide +kernel, by decide +kernel⟩, by decide +kernel⟩
theorem cal101 : CalOK MT 101 1 := ⟨by decide +kernel, tb_2 104 rfl rfl, tb_1 1 rfl rfl, ⟨by decide +kernel, by decide +kernel⟩, by decide +kernel⟩
theorem cal102 : CalOK MT 102 1 := ⟨by decide +kernel, tb_3 35 rfl rfl, tb_1 1 rfl rfl, ⟨by decide +kernel, by decide +kernel⟩, by decide +kernel⟩
theorem cal103 : CalOK MT 103 1 := ⟨by decide +kernel, tb_3 169 rfl rfl, tb_1 1 rfl rfl, ⟨by decide +kernel, by decide +kernel⟩, by decide +kernel⟩
theorem cal104 : CalOK MT 104 1 := ⟨by decide +kernel, tb_2 215 rfl rfl, tb_1 1 rfl rfl, ⟨by decide +kernel, by decide +kernel⟩, by decide +kernel⟩
theorem cal105 : CalOK MT 105 1 := ⟨by decide +kernel, tb_3 72 rfl rfl, tb_1 1 rfl rfl, ⟨by decide +kernel, by decide +kernel⟩, by decide +kernel⟩
theorem cal106 : CalOK MT 106 2 := ⟨by decide +kernel, tb_3 91 rfl rfl, tb_1 1 rfl rfl, ⟨by decide +kernel, by decide +kernel⟩, by decide +kernel⟩
theorem cal107 : CalOK MT 107 1 := ⟨by decide +kernel, tb_3 0 rfl rfl, tb_1 1 rfl rfl, ⟨by decide +kernel, by decide +kernel⟩, by decide +kernel⟩
theorem cal108 : CalOK MT 108 1 := ⟨by decide +kernel, tb_3 4 rfl rfl, tb_1 1 rfl rfl, ⟨by decide +kernel, by decide +kernel⟩, by decide +kernel⟩
theorem cal109 : CalOK MT 109 2 := ⟨by decide +kernel, tb_3 12 rfl rfl, tb_1 1 rfl rfl, ⟨by decide +kernel, by decide +kernel⟩, by decide +kernel⟩
theorem cal110 : CalOK MT 110 3 := ⟨by decide +kernel, tb_3 8 rfl rfl, tb_1 1 rfl rfl, ⟨by decide +kernel, by decide +kernel⟩, by decide +kernel⟩
theorem cal111 : CalOK MT 111 1 := ⟨by decide +kernel, tb_3 152 rfl rfl, tb_1 1 rfl rfl, ⟨by decide +kernel, by decide +kernel⟩, by decide +kernel⟩
theorem cal112 : CalOK MT 112 2 := ⟨by decide +kernel, tb_2 142 rfl rfl, tb_1 1 rfl rfl, ⟨by decide +kernel, by decide +kernel⟩, by decide +kernel⟩
theorem cal113 : CalOK MT 113 1 := ⟨by decide +kernel, tb_3 139 rfl rfl, tb_1 1 rfl rfl, ⟨by decide +kernel, by decide +kernel⟩, by decide +kernel⟩
theorem cal114 : CalOK MT 114 1 := ⟨by decide +kernel, tb_2 189 rfl rfl, tb_1 1 rfl rfl, ⟨by decide +kernel, by decide +kernel⟩, by decide +kernel⟩
theorem cal115 : CalOK MT 115 2 := ⟨by decide +kernel, tb_2 229 rfl rfl, tb_1 1 rfl rfl, ⟨by decide +kernel, by decide +kernel⟩, by decide +kernel⟩
theorem cal116 : CalOK MT 116 3 := ⟨by decide +kernel, tb_3 38 rfl rfl, tb_1 1 rfl rfl, ⟨by decide +kernel, by decide +kernel⟩, by decide +kernel⟩
theorem cal117 : CalOK MT 117 3 := ⟨by decide +kernel, tb_4 237 rfl rfl, tb_1 9 rfl rfl, ⟨by decide +kernel, by decide +kernel⟩, by decide +kernel⟩
theorem cal118 : CalOK MT 118 2 := ⟨by decide +kernel, tb_5 41 rfl rfl, tb_1 9 rfl rfl, ⟨by decide +kernel, by decide +kernel⟩, by decide +kernel⟩
theorem cal119 : CalOK MT 119 1 := ⟨by decide +kernel, tb_5 90 rfl rfl, tb_1 9 rfl rfl, ⟨by decide +kernel, by decide +kernel⟩, by decide +kernel⟩
theorem cal120 : CalOK MT 120 1 := ⟨by decide +kernel, tb_4 229 rfl rfl, tb_1 9 rfl rfl, ⟨by decide +kernel, by decide +kernel⟩, by decide +kernel⟩
theorem cal121 : CalOK MT 121 1 := ⟨by decide +kernel, tb_5 13 rfl rfl, tb_1 9 rfl rfl, ⟨by decide +kernel, by decide +kernel⟩, by decide +kernel⟩
theorem cal122 : CalOK MT 122 1 := ⟨by decide +kernel, tb_5 136 rfl rfl, tb_1 9 rfl rfl, ⟨by decide +kernel, by decide +kernel⟩, by decide +kernel⟩
theorem cal123 : CalOK MT 123 2 := ⟨by decide +kernel, tb_5 56 rfl rfl, tb_1 9 rfl rfl, ⟨by decide +kernel, by decide +kernel⟩, by decide +kernel⟩
theorem cal124 : CalOK MT 124 3 := ⟨by decide +kernel, tb_5 140 rfl rfl, tb_1 9 rfl rfl, ⟨by decide +kernel, by decide +kernel⟩, by decide +kernel⟩
theorem cal125 : CalOK MT 125 1 := ⟨by decide +kernel, tb_5 5 rfl rfl, tb_1 9 rfl rfl, ⟨by decide +kernel, by decide +kernel⟩, by decide +kernel⟩
theorem cal126 : CalOK MT 126 1 := ⟨by decide +kernel, tb_5 8 rfl rfl, tb_1 9 rfl rfl, ⟨by decide +kernel, by decide +kernel⟩, by decide +kernel⟩
theorem cal127 : CalOK MT 127 1 := ⟨by decide +kernel, tb_5 117 rfl rfl, tb_1 9 rfl rfl, ⟨by decide +kernel, by decide +kernel⟩, by decide +kernel⟩
theorem cal128 : CalOK MT 128 1 := ⟨by decide +kernel, tb_5 160 rfl rfl, tb_1 9 rfl rfl, ⟨by decide +kernel, by decide +kernel⟩, by decide +kernel⟩
theorem cal129 : CalOK MT 129 1 := ⟨by decide +kernel, tb_4 225 rfl rfl, tb_1 9 rfl rfl, ⟨by decide +kernel, by decide +kernel⟩, by decide +kernel⟩
theorem cal130 : CalOK MT 130 1 := ⟨by decide +kernel, tb_4 233 rfl rfl, tb_1 9 rfl rfl, ⟨by decide +kernel, by decide +kernel⟩, by decide +kernel⟩
theorem cal131 : CalOK MT 131 2 := ⟨by decide +kernel, tb_5 18 rfl rfl, tb_1 9 rfl rfl, ⟨by decide +kernel, by decide +kernel⟩, by decide +kernel⟩
theorem cal132 : CalOK MT 132 3 := ⟨by decide +kernel, tb_5 1 rfl rfl, tb_1 9 rfl rfl, ⟨by decide +kernel, by decide +kernel⟩, by decide +kernel⟩
theorem cal133 : CalOK MT 133 2 := ⟨by decide +kernel, tb_5 22 rfl rfl, tb_1 9 rfl rfl, ⟨by decide +kernel, by decide +kernel⟩, by decide +kernel⟩
theorem cal134 : CalOK MT 134 2 := ⟨by decide +kernel, tb_5 45 rfl rfl, tb_1 9 rfl rfl, ⟨by decide +kernel, by decide +kernel⟩, by decide +kernel⟩
theorem cal135 : CalOK MT 135 1 := ⟨by decide +kernel, tb_5 60 rfl rfl, tb_1 9 rfl rfl, ⟨by decide +kernel, by decide +kernel⟩, by decide +kernel⟩
theorem cal136 : CalOK MT 136 2 := ⟨by decide +kernel, tb_5 76 rfl rfl, tb_1 9 rfl rfl, ⟨by decide +kernel, by decide +kernel⟩, by decide +kernel⟩
theorem cal137 : CalOK MT 137 1 := ⟨by decide +kernel, tb_5 72 rfl rfl, tb_1 9 rfl rfl, ⟨by decide +kernel, by decide +kernel⟩, by decide +kernel⟩
theorem cal138 : CalOK MT 138 2 := ⟨by decide +kernel, tb_5 26 rfl rfl, tb_1 9 rfl rfl, ⟨by decide +kernel, by decide +kernel⟩, by decide +kernel⟩
theorem cal139 : CalOK MT 139 1 := ⟨by decide +kernel, tb_5 68 rfl rfl, tb_1 9 rfl rfl, ⟨by decide +kernel, by decide +kernel⟩, by decide +kernel⟩
theorem cal140 : CalOK MT 140 2 := ⟨by decide +kernel, tb_5 83 rfl rfl, tb_1 9 rfl rfl, ⟨by decide +kernel, by decide +kernel⟩, by decide +kernel⟩
theorem cal141 : CalOK MT 141 2 := ⟨by decide +kernel, tb_5 80 rfl rfl, tb_1 9 rfl rfl, ⟨by decide +kernel, by decide +kernel⟩, by decide +kernel⟩
theorem cal142 : CalOK MT 142 2 := ⟨by decide +kernel, tb_5 53 rfl rfl, tb_1 9 rfl rfl, ⟨by decide +kernel, by decide +kernel⟩, by decide +kernel⟩
theorem cal143 : CalOK MT 143 2 := ⟨by decide +kernel, tb_5 49 rfl rfl, tb_1 9 rfl rfl, ⟨by decide +kernel, by decide +kernel⟩, by decide +kernel⟩
theorem cal144 : CalOK MT 144 2 := ⟨by decide +kernel, tb_5 38 rfl rfl, tb_1 9 rfl rfl, ⟨by decide +kernel, by decide +kernel⟩, by decide +kernel⟩
theorem cal145 : CalOK MT 145 1 := ⟨by decide +kernel, tb_5 168 rfl rfl, tb_1 9 rfl rfl, ⟨by decide +kernel, by decide +kernel⟩, by decide +kernel⟩
theorem cal146 : CalOK MT 146 2 := ⟨by decide +kernel, tb_5 34 rfl rfl, tb_1 9 rfl rfl, ⟨by decide +kernel, by decide +kernel⟩, by decide +kernel⟩
theorem cal147 : CalOK MT 147 0 := ⟨by decide +kernel, tb_5 30 rfl rfl, tb_1 9 rfl rfl, ⟨by decide +kernel, by decide +kernel⟩, by decide +kernel⟩
theorem cal148 : CalOK MT 148 0 := ⟨by decide +kernel, tb_5 94 rfl rfl, tb_1 9 rfl rfl, ⟨by decide +kernel, by decide +kernel⟩, by decide +kernel⟩
theorem cal149 : CalOK MT 149 1 := ⟨by decide +kernel, tb_5 106 rfl rfl, tb_1 9 rfl rfl, ⟨by decide +kernel, by decide +kernel⟩, by decide +kernel⟩
theorem cal150 : CalOK MT 150 1 := ⟨by decide +kernel, tb_5 110 rfl rfl, tb_1 9 rfl rfl, ⟨by decide +kernel, by decide +kernel⟩, by decide +kernel⟩
theorem cal151 : CalOK MT 151 0 := ⟨by decide +kernel, tb_5 98 rfl rfl, tb_1 9 rfl rfl, ⟨by decide +kernel, by decide +kernel⟩, by decide +kernel⟩
theorem cal152 : CalOK MT 152 1 := ⟨by decide +kernel, tb_5 87 rfl rfl, tb_1 9 rfl rfl, ⟨by decide +kernel, by decide +kernel⟩, by decide +kernel⟩
theorem cal153 : CalOK MT 153 2 := ⟨by decide +kernel, tb_5 102 rfl rfl, tb_1 9 rfl rfl, ⟨by decide +kernel, by decide +kernel⟩, by decide +kernel⟩
theorem cal154 : CalOK MT 154 2 := ⟨by decide +kernel, tb_5 122 rfl rfl, tb_1 9 rfl rfl, ⟨by decide +kernel, by decide +kernel⟩, by decide +kernel⟩
theorem cal155 : CalOK MT 155 0 := ⟨by decide +kernel, tb_5 128 rfl rfl, tb_1 9 rfl rfl, ⟨by decide +kernel, by decide +kernel⟩, by decide +kernel⟩
theorem cal156 : CalOK MT 156 1 := ⟨by decide +kernel, tb_5 114 rfl rfl, tb_1 9 rfl rfl, ⟨by decide +kernel, by decide +kernel⟩, by decide +kernel⟩
theorem cal157 : CalOK MT 157 3 := ⟨by decide +kernel, tb_5 132 rfl rfl, tb_1 9 rfl rfl, ⟨by decide +kernel, by decide +kernel⟩, by decide +kernel⟩
theorem cal158 : CalOK MT 158 0 := ⟨by decide +kernel, tb_5 144 rfl rfl, tb_1 9 rfl rfl, ⟨by decide +kernel, by decide +kernel⟩, by decide +kernel⟩
theorem cal159 : CalOK MT 159 2 := ⟨by decide +kernel, tb_5 152 rfl rfl, tb_1 9 rfl rfl, ⟨by decide +kernel, by decide +kernel⟩, by decide +kernel⟩
theorem cal160 : CalOK MT 160 1 := ⟨by decide +kernel, tb_5 148 rfl rfl, tb_1 9 rfl rfl, ⟨by decide +kernel, by decide +kernel⟩, by decide +kernel⟩
theorem cal161 : CalOK MT 161 1 := ⟨by decide +kernel, tb_5 164 rfl rfl, tb_1 9 rfl rfl, ⟨by decide +kernel, by decide +kernel⟩, by decide +kernel⟩
theorem cal162 : CalOK MT 162 1 := ⟨by decide +kernel, tb_5 156 rfl rfl, tb_1 9 rfl rfl, ⟨by decide +kernel, by decide +kernel⟩, by decide +kernel⟩
theorem cal163 : CalOK MT 163 3 := ⟨by decide +kernel, tb_5 172 rfl rfl, tb_1 9 rfl rfl, ⟨by decide +kernel, by decide +kernel⟩, by decide +kernel⟩
theorem cal164 : CalOK MT 164 1 := ⟨by decide +kernel, tb_5 180 rfl rfl, tb_1 9 rfl rfl, ⟨by decide +kernel, by decide +kernel⟩, by decide +kernel⟩
theorem cal165 : CalOK MT 165 1 := ⟨by decide +kernel, tb_5 176 rfl rfl, tb_1 9 rfl rfl, ⟨by decide +kernel, by decide +kernel⟩, by decide +kernel⟩
theorem cal166 : CalOK MT 166 0 := ⟨by decide +kernel, tb_5 188 rfl rfl, tb_1 9 rfl rfl, ⟨by decide +kernel, by decide +kernel⟩, by decide +kernel⟩
theorem cal167 : CalOK MT 167 1 := ⟨by decide +kernel, tb_5 192 rfl rfl, tb_1 9 rfl rfl, ⟨by decide +kernel, by decide +kernel⟩, by decide +kernel⟩
theorem cal168 : CalOK MT 168 1 := ⟨by decide +kernel, tb_5 184 rfl rfl, tb_1 9 rfl rfl, ⟨by decide +kernel, by decide +kernel⟩, by decide +kernel⟩
theorem cal169 : CalOK MT 169 1 := ⟨by decide +kernel, tb_5 196 rfl rfl, tb_1 9 rfl rfl, ⟨by decide +kernel, by decide +kernel⟩, by decide +kernel⟩
theorem cal170 : CalOK MT 170 3 := ⟨by decide +kernel, tb_5 200 rfl rfl, tb_1 9 rfl rfl, ⟨by decide +kernel, by decide +kernel⟩, by decide +kernel⟩
theorem cal171 : CalOK MT 171 2 := ⟨by decide +kernel, tb_5 204 rfl rfl, tb_1 9 rfl rfl, ⟨by decide +kernel, by decide +kernel⟩, by decide +kernel⟩
theorem cal172 : CalOK MT 172 1 := ⟨by decide +kernel, tb_5 219 rfl rfl, tb_1 9 rfl rfl, ⟨by decide +kernel, by decide +kernel⟩, by decide +kernel⟩
theorem cal173 : CalOK MT 173 2 := ⟨by decide +kernel, tb_5 231 rfl rfl, tb_1 9 rfl rfl, ⟨by decide +kernel, by decide +kernel⟩, by decide +kernel⟩
theorem cal174 : CalOK MT 174 2 := ⟨by decide +kernel, tb_5 228 rfl rfl, tb_1 9 rfl rfl, ⟨by decide +kernel, by decide +kernel⟩, by decide +kernel⟩
theorem cal175 : CalOK MT 175 2 := ⟨by decide +kernel, tb_5 224 rfl rfl, tb_1 9 rfl rfl, ⟨by decide +kernel, by decide +kernel⟩, by decide +kernel⟩
theorem cal176 : CalOK MT 176 0 := ⟨by decide +kernel, tb_5 212 rfl rfl, tb_1 9 rfl rfl, ⟨by decide +kernel, by decide +kernel⟩, by decide +kernel⟩
theorem cal177 : CalOK MT 177 0 := ⟨by decide +kernel, tb_5 216 rfl rfl, tb_1 9 rfl rfl, ⟨by decide +kernel, by decide +kernel⟩, by decide +kernel⟩
theorem cal178 : CalOK MT 178 0 := ⟨by decide +kernel, tb_5 208 rfl rfl, tb_1 9 rfl rfl, ⟨by decide +kernel, by decide +kernel⟩, by decide +kernel⟩
theorem cal179 : CalOK MT 179 1 := ⟨by decide +kernel, tb_6 3 rfl rfl, tb_1 9 rfl rfl, ⟨by decide +kernel, by decide +kernel⟩, by decide +kernel⟩
theorem cal180 : CalOK MT 180 2 := ⟨by decide +kernel, tb_5 239 rfl rfl, tb_1 9 rfl rfl, ⟨by decide +kernel, by decide +kernel⟩, by decide +kernel⟩
theorem cal181 : CalOK MT 181 4 := ⟨by decide +kernel, tb_5 235 rfl rfl, tb_1 9 rfl rfl, ⟨by decide +kernel, by decide +kernel⟩, by decide +kernel⟩
theorem cal182 : CalOK MT 182 2 := ⟨by decide +kernel, tb_6 7 rfl rfl, tb_1 9 rfl rfl, ⟨by decide +kernel, by decide +kernel⟩, by decide +kernel⟩
theorem cal183 : CalOK MT 183 1 := ⟨by decide +kernel, tb_6 11 rfl rfl, tb_1 9 rfl rfl, ⟨by decide +kernel, by decide +kernel⟩, by decide +kernel⟩
theorem cal184 : CalOK MT 184 2 := ⟨by decide +kernel, tb_6 31 rfl rfl, tb_1 9 rfl rfl, ⟨by decide +kernel, by decide +kernel⟩, by decide +kernel⟩
theorem cal185 : CalOK MT 185 1 := ⟨by decide +kernel, tb_6 27 rfl rfl, tb_1 9 rfl rfl, ⟨by decide +kernel, by decide +kernel⟩, by decide +kernel⟩
theorem cal186 : CalOK MT 186 2 := ⟨by decide +kernel, tb_6 23 rfl rfl, tb_1 9 rfl rfl, ⟨by decide +kernel, by decide +kernel⟩, by decide +kernel⟩
theorem cal187 : CalOK MT 187 1 := ⟨by decide +kernel, tb_6 19 rfl rfl, tb_1 9 rfl rfl, ⟨by decide +kernel, by decide +kernel⟩, by decide +kernel⟩
theorem cal188 : CalOK MT 188 2 := ⟨by decide +kernel, tb_6 15 rfl rfl, tb_1 9 rfl rfl, ⟨by decide +kernel, by decide +kernel⟩, by decide +kernel⟩
theorem cal189 : CalOK MT 189 1 := ⟨by decide +kernel, tb_6 43 rfl rfl, tb_1 9 rfl rfl, ⟨by decide +kernel, by decide +kernel⟩, by decide +kernel⟩
theorem cal190 : CalOK MT 190 2 := ⟨by decide +kernel, tb_6 48 rfl rfl, tb_1 9 rfl rfl, ⟨by decide +kernel, by decide +kernel⟩, by decide +kernel⟩
theorem cal191 : CalOK MT 191 3 := ⟨by decide +kernel, tb_6 39 rfl rfl, tb_1 9 rfl rfl, ⟨by decide +kernel, by decide +kernel⟩, by decide +kernel⟩
theorem cal192 : CalOK MT 192 1 := ⟨by decide +kernel, tb_6 35 rfl rfl, tb_1 9 rfl rfl, ⟨by decide +kernel, by decide +kernel⟩, by decide +kernel⟩
theorem cal193 : CalOK MT 193 0 := ⟨by decide +kernel, tb_6 76 rfl rfl, tb_1 9 rfl rfl, ⟨by decide +kernel, by decide +kernel⟩, by decide +kernel⟩
theorem cal194 : CalOK MT 194 2 := ⟨by decide +kernel, tb_6 91 rfl rfl, tb_1 9 rfl rfl, ⟨by decide +kernel, by decide +kernel⟩, by decide +kernel⟩
theorem cal195 : CalOK MT 195 0 := ⟨by decide +kernel, tb_6 81 rfl rfl, tb_1 9 rfl rfl, ⟨by decide +kernel, by decide +kernel⟩, by decide +kernel⟩
theorem cal196 : CalOK MT 196 0 := ⟨by decide +kernel, tb_6 87 rfl rfl, tb_1 9 rfl rfl, ⟨by decide +kernel, by decide +kernel⟩, by decide +kernel⟩
theorem cal197 : CalOK MT 197 0 := ⟨by decide +kernel, tb_6 72 rfl rfl, tb_1 9 rfl rfl, ⟨by decide +kernel, by decide +kernel⟩, by decide +kernel⟩
theorem cal198 : CalOK MT 198 0 := ⟨by decide +kernel, tb_6 68 rfl rfl, tb_1 9 rfl rfl, ⟨by decide +kernel, by decide +kernel⟩, by decide +kernel⟩
theorem cal199 : CalOK MT 199 0 := ⟨by decide +kernel, tb_6 64 rfl rfl, tb_1 9 rfl rfl, ⟨by decide +kernel, by decide +kernel⟩, by decide +kernel⟩
theorem cal200 : CalOK MT 200 0 := ⟨by decide +kernel, tb_6 60 rfl rfl, tb_1 9 rfl rfl, ⟨by decide +kernel, by decide +kernel⟩, by decide +kernel⟩
theorem cal201 : CalOK MT 201 0 := ⟨by decide +kernel, tb_6 56 rfl rfl, tb_1 9 rfl rfl, ⟨by decide +kernel, by decide +kernel⟩, by decide +kernel⟩
theorem cal202 : CalOK MT 202 0 := ⟨by decide +kernel, tb_6 52 rfl rfl, tb_1 9 rfl rfl, ⟨by decide +kernel, by decide +kernel⟩, by decide +kernel⟩
theorem cal203 : CalOK MT 203 0 := ⟨by decide +kernel, tb_6 119 rfl rfl, tb_1 9 rfl rfl, ⟨by decide +kernel, by decide +kernel⟩, by decide +kernel⟩
theorem cal204 : CalOK MT 204 2 := ⟨by decide +kernel, tb_6 123 rfl rfl, tb_1 9 rfl rfl, ⟨by decide +kernel, by decide +kernel⟩, by decide +kernel⟩
theorem cal205 : CalOK MT 205 1 := ⟨by decide +kernel, tb_6 128 rfl rfl, tb_1 9 rfl rfl, ⟨by decide +kernel, by decide +kernel⟩, by decide +kernel⟩
theorem cal206 : CalOK MT 206 1 := ⟨by decide +kernel, tb_6 115 rfl rfl, tb_1 9 rfl rfl, ⟨by decide +kernel, by decide +kernel⟩, by decide +kernel⟩
theorem cal207 : CalOK MT 207 1 := ⟨by decide +kernel, tb_6 111 rfl rfl, tb_1 9 rfl rfl, ⟨by decide +kernel, by decide +kernel⟩, by decide +kernel⟩
theorem cal208 : CalOK MT 208 1 := ⟨by decide +kernel, tb_6 107 rfl rfl, tb_1 9 rfl rfl, ⟨by decide +kernel, by decide +kernel⟩, by decide +kernel⟩
theorem cal209 : CalOK MT 209 1 := ⟨by decide +kernel, tb_6 103 rfl rfl, tb_1 9 rfl rfl, ⟨by decide +kernel, by decide +kernel⟩, by decide +kernel⟩
theorem cal210 : CalOK MT 210 0 := ⟨by decide +kernel, tb_6 99 rfl rfl, tb_1 9 rfl rfl, ⟨by decide +kernel, by decide +kernel⟩, by decide +kernel⟩
theorem cal211 : CalOK MT 211 1 := ⟨by decide +kernel, tb_6 95 rfl rfl, tb_1 9 rfl rfl, ⟨by decide +kernel, by decide +kernel⟩, by decide +kernel⟩
theorem cal212 : CalOK MT 212 2 := ⟨by decide +kernel, tb_6 132 rfl rfl, tb_1 9 rfl rfl, ⟨by decide +kernel, by decide +kernel⟩, by decide +kernel⟩
theorem cal213 : CalOK MT 213 1 := ⟨by decide +kernel, tb_6 136 rfl rfl, tb_1 9 rfl rfl, ⟨by decide +kernel, by decide +kernel⟩, by decide +kernel⟩
theorem cal214 : CalOK MT 214 1 := ⟨by decide +kernel, tb_6 144 rfl rfl, tb_1 9 rfl rfl, ⟨by decide +kernel, by decide +kernel⟩, by decide +kernel⟩
theorem cal215 : CalOK MT 215 3 := ⟨by decide +kernel, tb_6 140 rfl rfl, tb_1 9 rfl rfl, ⟨by decide +kernel, by decide +kernel⟩, by decide +kernel⟩
theorem cal216 : CalOK MT 216 2 := ⟨by decide +kernel, tb_6 163 rfl rfl, tb_1 9 rfl rfl, ⟨by decide +kernel, by decide +kernel⟩, by decide +kernel⟩
theorem cal217 : CalOK MT 217 2 := ⟨by decide +kernel, tb_6 151 rfl rfl, tb_1 9 rfl rfl, ⟨by decide +kernel, by decide +kernel⟩, by decide +kernel⟩
theorem cal218 : CalOK MT 218 2 := ⟨by decide +kernel, tb_6 159 rfl rfl, tb_1 9 rfl rfl, ⟨by decide +kernel, by decide +kernel⟩, by decide +kernel⟩
theorem cal219 : CalOK MT 219 3 := ⟨by decide +kernel, tb_6 155 rfl rfl, tb_1 9 rfl rfl, ⟨by decide +kernel, by decide +kernel⟩, by decide +kernel⟩
theorem cal220 : CalOK MT 220 2 := ⟨by decide +kernel, tb_6 167 rfl rfl, tb_1 9 rfl rfl, ⟨by decide +kernel, by decide +kernel⟩, by decide +kernel⟩
theorem cal221 : CalOK MT 221 3 := ⟨by decide +kernel, tb_6 171 rfl rfl, tb_1 9 rfl rfl, ⟨by decide +kernel, by decide +kernel⟩, by decide +kernel⟩
theorem cal222 : CalOK MT 222 1 := ⟨by decide +kernel, tb_6 175 rfl rfl, tb_1 9 rfl rfl, ⟨by decide +kernel, by decide +kernel⟩, by decide +kernel⟩
theorem cal223 : CalOK MT 223 0 := ⟨by decide +kernel, tb_6 179 rfl rfl, tb_1 9 rfl rfl, ⟨by decide +kernel, by decide +kernel⟩, by decide +kernel⟩
theorem cal224 : CalOK MT 224 0 := ⟨by decide +kernel, tb_6 183 rfl rfl, tb_1 9 rfl rfl, ⟨by decide +kernel, by decide +kernel⟩, by decide +kernel⟩
theorem cal225 : CalOK MT 225 0 := ⟨by decide +kernel, tb_6 187 rfl rfl, tb_1 9 rfl rfl, ⟨by decide +kernel, by decide +kernel⟩, by decide +kernel⟩
theorem cal226 : CalOK MT 226 0 := ⟨by decide +kernel, tb_6 195 rfl rfl, tb_1 9 rfl rfl, ⟨by decide +kernel, by decide +kernel⟩, by decide +kernel⟩
theorem cal227 : CalOK MT 227 1 := ⟨by decide +kernel, tb_6 191 rfl rfl, tb_1 9 rfl rfl, ⟨by decide +kernel, by decide +kernel⟩, by decide +kernel⟩
theorem cal228 : CalOK MT 228 1 := ⟨by decide +kernel, tb_3 79 rfl rfl, tb_1 13 rfl rfl, ⟨by decide +kernel, by decide +kernel⟩, by decide +kernel⟩
theorem cal229 : CalOK MT 229 2 := ⟨by decide +kernel, tb_3 205 rfl rfl, tb_1 10 rfl rfl, ⟨by decide +kernel, by decide +kernel⟩, by decide +kernel⟩
theorem cal230 : CalOK MT 230 2 := ⟨by decide +kernel, tb_2 111 rfl rfl, tb_1 10 rfl rfl, ⟨by decide +kernel, by decide +kernel⟩, by decide +kernel⟩
/-! links -/
theorem lkRX0_0 : LnkOK MT RX0 (4, 30, 228, 1, 0, 0) := ⟨cal228, Or.inl (tb_3 77 rfl rfl), tb_3 78 rfl rfl⟩
theorem lkRX0_1 : LnkOK MT RX0 (0, 26, 0, 0, 2, 0) := ⟨RX0, TX0, 9, tyX0, rfl, rfl, by decide +kernel, by decide +kernel, uw0, tb_1 165 rfl rfl, tyX0_ok, nmX0, fun h => by cases h⟩
theorem lkRX0_2 : LnkOK MT RX0 (0, 36, 6, 4, 2, 0) := ⟨RX6, TX6, 5, tyX6, rfl, rfl, by decide +kernel, by decide +kernel, uw6, tb_1 144 rfl rfl, tyX6_ok, nmX6, fun h => by cases h⟩
theorem lkRX0_3 : LnkOK MT RX0 (0, 41, 1, 3, 0, 0) := ⟨RX1, TX1, 6, tyX1, rfl, rfl, by decide +kernel, by decide +kernel, uw1, tb_1 108 rfl rfl, tyX1_ok, nmX1, fun h => by cases h⟩
theorem lkRX0_4 : LnkOK MT RX0 (0, 12, 0, 1, 2, 0) := ⟨RX0, TX0, 9, tyX0, rfl, rfl, by decide +kernel, by decide +kernel, uw0, tb_1 166 rfl rfl, tyX0_ok, nmX0, fun h => by cases h⟩
theorem lkRX0_5 : LnkOK MT RX0 (0, 44, 6, 2, 2, 0) := ⟨RX6, TX6, 5, tyX6, rfl, rfl, by decide +kernel, by decide +kernel, uw6, tb_1 137 rfl rfl, tyX6_ok, nmX6, fun h => by cases h⟩
theorem lkRX0_6 : LnkOK MT RX0 (0, 48, 6, 0, 0, 0) := ⟨RX6, TX6, 5, tyX6, rfl, rfl, by decide +kernel, by decide +kernel, uw6, tb_1 130 rfl rfl, tyX6_ok, nmX6, fun h => by cases h⟩
theorem lkRX0_7 : LnkOK MT RX0 (3, 51, 4, 3, 1, 0) := ⟨cal4, tb_3 83 rfl rfl, tb_2 137 rfl rfl, tb_2 138 rfl rfl, (RX1, TX1, 6), rfl, rfl⟩
theorem lkRX0_8 : LnkOK MT RX0 (0, 55, 1, 4, 0, 0) := ⟨RX1, TX1, 6, tyX1, rfl, rfl, by decide +kernel, by decide +kernel, uw1, tb_1 111 rfl rfl, tyX1_ok, nmX1, fun h => by cases h⟩
theorem lkRX0_9 : LnkOK MT RX0 (4, 58, 112, 2, 0, 0) := ⟨cal112, Or.inr ⟨"PureGroups", lw_3 109 rfl⟩, tb_2 141 rfl rfl⟩
theorem lkRX0_10 : LnkOK MT RX0 (0, 18, 0, 2, 2, 0) := ⟨RX0, TX0, 9, tyX0, rfl, rfl, by decide +kernel, by decide +kernel, uw0, tb_1 168 rfl rfl, tyX0_ok, nmX0, fun h => by cases h⟩
theorem lkRX0_11 : LnkOK MT RX0 (3, 62, 7, 2, 1, 0) := ⟨cal7, tb_3 110 rfl rfl, tb_2 223 rfl rfl, tb_2 224 rfl rfl, (RX1, TX1, 6), rfl, rfl⟩
theorem lkRX0_12 : LnkOK MT RX0 (9, 66, 0, 0, 0, 0) := ⟨tb_3 111 rfl rfl, tb_3 22 rfl rfl, tb_1 12 rfl rfl, tb_3 23 rfl rfl⟩
theorem lkRX0_13 : LnkOK MT RX0 (0, 22, 0, 3, 0, 0) := ⟨RX0, TX0, 9, tyX0, rfl, rfl, by decide +kernel, by decide +kernel, uw0, tb_1 169 rfl rfl, tyX0_ok, nmX0, fun h => by cases h⟩
theorem lkRX0_14 : LnkOK MT RX0 (0, 71, 6, 1, 0, 0) := ⟨RX6, TX6, 5, tyX6, rfl, rfl, by decide +kernel, by decide +kernel, uw6, tb_1 135 rfl rfl, tyX6_ok, nmX6, fun h => by cases h⟩
theorem lkRX0_15 : LnkOK MT RX0 (1, 22, 0, 3, 0, 0) := ⟨RX0, TX0, 9, tyX0, rfl, rfl, by decide +kernel, by decide +kernel, uw0, tb_1 169 rfl rfl, tyX0_ok, nmX0, fun _ => ⟨by decide +kernel, by decide +kernel⟩⟩
theorem lkRX0_16 : LnkOK MT RX0 (1, 74, 0, 4, 0, 0) := ⟨RX0, TX0, 9, tyX0, rfl, rfl, by decide +kernel, by decide +kernel, uw0, tb_1 170 rfl rfl, tyX0_ok, nmX0, fun _ => ⟨by decide +kernel, by decide +kernel⟩⟩
theorem lkRX0_17 : LnkOK MT RX0 (1, 77, 0, 5, 0, 0) := ⟨RX0, TX0, 9, tyX0, rfl, rfl, by decide +kernel, by decide +kernel, uw0, tb_1 172 rfl rfl, tyX0_ok, nmX0, fun _ => ⟨by decide +kernel, by decide +kernel⟩⟩
theorem lkRX0_18 : LnkOK MT RX0 (0, 77, 0, 5, 0, 0) := ⟨RX0, TX0, 9, tyX0, rfl, rfl, by decide +kernel, by decide +kernel, uw0, tb_1 172 rfl rfl, tyX0_ok, nmX0, fun h => by cases h⟩
theorem lkRX0_19 : LnkOK MT RX0 (3, 80, 0, 1, 0, 0) := ⟨cal0, tb_3 100 rfl rfl, tb_3 74 rfl rfl, tb_3 75 rfl rfl, (RX0, TX0, 9), rfl, rfl⟩
theorem lkRX0_20 : LnkOK MT RX0 (3, 84, 3, 1, 0, 0) := ⟨cal3, tb_3 101 rfl rfl, tb_3 103 rfl rfl, tb_p 12 rfl rfl, (RX0, TX0, 9), rfl, rfl⟩
theorem lkRX0_21 : LnkOK MT RX0 (3, 88, 1, 0, 0, 0) := ⟨cal1, tb_3 105 rfl rfl, tb_3 106 rfl rfl, tb_3 107 rfl rfl, (RX0, TX0, 9), rfl, rfl⟩
theorem lkRX0_22 : LnkOK MT RX0 (0, 74, 0, 4, 0, 0) := ⟨RX0, TX0, 9, tyX0, rfl, rfl, by decide +kernel, by decide +kernel, uw0, tb_1 170 rfl rfl, tyX0_ok, nmX0, fun h => by cases h⟩
theorem lkRX0_23 : LnkOK MT RX0 (1, 92, 0, 6, 0, 0) := ⟨RX0, TX0, 9, tyX0, rfl, rfl, by decide +kernel, by decide +kernel, uw0, tb_1 174 rfl rfl, tyX0_ok, nmX0, fun _ => ⟨by decide +kernel, by decide +kernel⟩⟩
theorem lkRX0_24 : LnkOK MT RX0 (0, 95, 0, 8, 1, 0) := ⟨RX0, TX0, 9, tyX0, rfl, rfl, by decide +kernel, by decide +kernel, uw0, tb_1 178 rfl rfl, tyX0_ok, nmX0, fun h => by cases h⟩
theorem lkRX0_25 : LnkOK MT RX0 (1, 99, 0, 7, 0, 0) := ⟨RX0, TX0, 9, tyX0, rfl, rfl, by decide +kernel, by decide +kernel, uw0, tb_1 176 rfl rfl, tyX0_ok, nmX0, fun _ => ⟨by decide +kernel, by decide +kernel⟩⟩
theorem lkRX0_26 : LnkOK MT RX0 (1, 95, 0, 8, 1, 0) := ⟨RX0, TX0, 9, tyX0, rfl, rfl, by decide +kernel, by decide +kernel, uw0, tb_1 178 rfl rfl, tyX0_ok, nmX0, fun _ => ⟨by decide +kernel, by decide +kernel⟩⟩
def lkRX0 : List Lnk := [(4, 30, 228, 1, 0, 0), (0, 26, 0, 0, 2, 0), (0, 36, 6, 4, 2, 0), (0, 41, 1, 3, 0, 0), (0, 12, 0, 1, 2, 0), (0, 44, 6, 2, 2, 0), (0, 48, 6, 0, 0, 0), (3, 51, 4, 3, 1, 0), (0, 55, 1, 4, 0, 0), (4, 58, 112, 2, 0, 0), (0, 18, 0, 2, 2, 0), (3, 62, 7, 2, 1, 0), (9, 66, 0, 0, 0, 0), (0, 22, 0, 3, 0, 0), (0, 71, 6, 1, 0, 0), (1, 22, 0, 3, 0, 0), (1, 74, 0, 4, 0, 0), (1, 77, 0, 5, 0, 0), (0, 77, 0, 5, 0, 0), (3, 80, 0, 1, 0, 0), (3, 84, 3, 1, 0, 0), (3, 88, 1, 0, 0, 0), (0, 74, 0, 4, 0, 0), (1, 92, 0, 6, 0, 0), (0, 95, 0, 8, 1, 0), (1, 99, 0, 7, 0, 0), (1, 95, 0, 8, 1, 0)]
theorem lkRX0_ok : ∀ q ∈ lkRX0, LnkOK MT RX0 q := List.forall_mem_cons.mpr ⟨lkRX0_0, List.forall_mem_cons.mpr ⟨lkRX0_1, List.forall_mem_cons.mpr ⟨lkRX0_2, List.forall_mem_cons.mpr ⟨lkRX0_3, List.forall_mem_cons.mpr ⟨lkRX0_4, List.forall_mem_cons.mpr ⟨lkRX0_5, List.forall_mem_cons.mpr ⟨lkRX0_6, List.forall_mem_cons.mpr ⟨lkRX0_7, List.forall_mem_cons.mpr ⟨lkRX0_8, List.forall_mem_cons.mpr ⟨lkRX0_9, List.forall_mem_cons.mpr ⟨lkRX0_10, List.forall_mem_cons.mpr ⟨lkRX0_11, List.forall_mem_cons.mpr ⟨lkRX0_12, List.forall_mem_cons.mpr ⟨lkRX0_13, List.forall_mem_cons.mpr ⟨lkRX0_14, List.forall_mem_cons.mpr ⟨lkRX0_15, List.forall_mem_cons.mpr ⟨lkRX0_16, List.forall_mem_cons.mpr ⟨lkRX0_17, List.forall_mem_cons.mpr ⟨lkRX0_18, List.forall_mem_cons.mpr ⟨lkRX0_19, List.forall_mem_cons.mpr ⟨lkRX0_20, List.forall_mem_cons.mpr ⟨lkRX0_21, List.forall_mem_cons.mpr ⟨lkRX0_22, List.forall_mem_cons.mpr ⟨lkRX0_23, List.forall_mem_cons.mpr ⟨lkRX0_24, List.forall_mem_cons.mpr ⟨lkRX0_25, List.forall_mem_cons.mpr ⟨lkRX0_26, fun _ h => absurd h List.not_mem_nil⟩⟩⟩⟩⟩⟩⟩⟩⟩⟩⟩⟩⟩⟩⟩⟩⟩⟩⟩⟩⟩⟩⟩⟩⟩⟩⟩
theorem lkRX1_0 : LnkOK MT RX1 (1, 24, 1, 2, 0, 0) := ⟨RX1, TX1, 6, tyX1, rfl, rfl, by decide +kernel, by decide +kernel, uw1, tb_1 106 rfl rfl, tyX1_ok, nmX1, fun _ => ⟨by decide +kernel, by decide +kernel⟩⟩
theorem lkRX1_1 : LnkOK MT RX1 (1, 28, 1, 3, 0, 0) := ⟨RX1, TX1, 6, tyX1, rfl, rfl, by decide +kernel, by decide +kernel, uw1, tb_1 107 rfl rfl, tyX1_ok, nmX1, fun _ => ⟨by decide +kernel, by decide +kernel⟩⟩
theorem lkRX1_2 : LnkOK MT RX1 (1, 31, 1, 4, 0, 0) := ⟨RX1, TX1, 6, tyX1, rfl, rfl, by decide +kernel, by decide +kernel, uw1, tb_1 110 rfl rfl, tyX1_ok, nmX1, fun _ => ⟨by decide +kernel, by decide +kernel⟩⟩
theorem lkRX1_3 : LnkOK MT RX1 (1, 20, 1, 5, 1, 0) := ⟨RX1, TX1, 6, tyX1, rfl, rfl, by decide +kernel, by decide +kernel, uw1, tb_1 113 rfl rfl, tyX1_ok, nmX1, fun _ => ⟨by decide +kernel, by decide +kernel⟩⟩
theorem lkRX1_4 : LnkOK MT RX1 (0, 24, 1, 2, 0, 0) := ⟨RX1, TX1, 6, tyX1, rfl, rfl, by decide +kernel, by decide +kernel, uw1, tb_1 106 rfl rfl, tyX1_ok, nmX1, fun h => by cases h⟩
theorem lkRX1_5 : LnkOK MT RX1 (0, 11, 1, 0, 2, 0) := ⟨RX1, TX1, 6, tyX1, rfl, rfl, by decide +kernel, by decide +kernel, uw1, tb_1 104 rfl rfl, tyX1_ok, nmX1, fun h => by cases h⟩
theorem lkRX1_6 : LnkOK MT RX1 (4, 34, 112, 2, 0, 0) := ⟨cal112, Or.inr ⟨"PureGroups", lw_2 140 rfl⟩, tb_2 141 rfl rfl⟩
theorem lkRX1_7 : LnkOK MT RX1 (3, 38, 5, 1, 1, 0) := ⟨cal5, tb_2 143 rfl rfl, tb_2 145 rfl rfl, tb_p 1 rfl rfl, (RX1, TX1, 6), rfl, rfl⟩
theorem lkRX1_8 : LnkOK MT RX1 (3, 42, 6, 1, 1, 0) := ⟨cal6, tb_2 147 rfl rfl, tb_2 149 rfl rfl, tb_p 2 rfl rfl, (RX1, TX1, 6), rfl, rfl⟩
theorem lkRX1_9 : LnkOK MT RX1 (0, 16, 1, 1, 2, 0) := ⟨RX1, TX1, 6, tyX1, rfl, rfl, by decide +kernel, by decide +kernel, uw1, tb_1 105 rfl rfl, tyX1_ok, nmX1, fun h => by cases h⟩
theorem lkRX1_10 : LnkOK MT RX1 (0, 28, 1, 3, 0, 0) := ⟨RX1, TX1, 6, tyX1, rfl, rfl, by decide +kernel, by decide +kernel, uw1, tb_1 107 rfl rfl, tyX1_ok, nmX1, fun h => by cases h⟩
theorem lkRX1_11 : LnkOK MT RX1 (0, 31, 1, 4, 0, 0) := ⟨RX1, TX1, 6, tyX1, rfl, rfl, by decide +kernel, by decide +kernel, uw1, tb_1 110 rfl rfl, tyX1_ok, nmX1, fun h => by cases h⟩
theorem lkRX1_12 : LnkOK MT RX1 (0, 20, 1, 5, 1, 0) := ⟨RX1, TX1, 6, tyX1, rfl, rfl, by decide +kernel, by decide +kernel, uw1, tb_1 113 rfl rfl, tyX1_ok, nmX1, fun h => by cases h⟩
theorem lkRX1_13 : LnkOK MT RX1 (4, 46, 230, 2, 0, 0) := ⟨cal230, Or.inl (tb_2 226 rfl rfl), tb_2 110 rfl rfl⟩
theorem lkRX1_14 : LnkOK MT RX1 (4, 52, 115, 2, 0, 0) := ⟨cal115, Or.inr ⟨"PureGroups", lw_2 227 rfl⟩, tb_2 228 rfl rfl⟩
theorem lkRX1_15 : LnkOK MT RX1 (10, 56, 0, 0, 0, 0) := ⟨tb_2 233 rfl rfl, tb_2 231 rfl rfl, tb_1 12 rfl rfl, tb_2 232 rfl rfl⟩
def lkRX1 : List Lnk := [(1, 24, 1, 2, 0, 0), (1, 28, 1, 3, 0, 0), (1, 31, 1, 4, 0, 0), (1, 20, 1, 5, 1, 0), (0, 24, 1, 2, 0, 0), (0, 11, 1, 0, 2, 0), (4, 34, 112, 2, 0, 0), (3, 38, 5, 1, 1, 0), (3, 42, 6, 1, 1, 0), (0, 16, 1, 1, 2, 0), (0, 28, 1, 3, 0, 0), (0, 31, 1, 4, 0, 0), (0, 20, 1, 5, 1, 0), (4, 46, 230, 2, 0, 0), (4, 52, 115, 2, 0, 0), (10, 56, 0, 0, 0, 0)]
theorem lkRX1_ok : ∀ q ∈ lkRX1, LnkOK MT RX1 q := List.forall_mem_cons.mpr ⟨lkRX1_0, List.forall_mem_cons.mpr ⟨lkRX1_1, List.forall_mem_cons.mpr ⟨lkRX1_2, List.forall_mem_cons.mpr ⟨lkRX1_3, List.forall_mem_cons.mpr ⟨lkRX1_4, List.forall_mem_cons.mpr ⟨lkRX1_5, List.forall_mem_cons.mpr ⟨lkRX1_6, List.forall_mem_cons.mpr ⟨lkRX1_7, List.forall_mem_cons.mpr ⟨lkRX1_8, List.forall_mem_cons.mpr ⟨lkRX1_9, List.forall_mem_cons.mpr ⟨lkRX1_10, List.forall_mem_cons.mpr ⟨lkRX1_11, List.forall_mem_cons.mpr ⟨lkRX1_12, List.forall_mem_cons.mpr ⟨lkRX1_13, List.forall_mem_cons.mpr ⟨lkRX1_14, List.forall_mem_cons.mpr ⟨lkRX1_15, fun _ h => absurd h List.not_mem_nil⟩⟩⟩⟩⟩⟩⟩⟩⟩⟩⟩⟩⟩⟩⟩⟩
theorem lkRX2_0 : LnkOK MT RX2 (0, 11, 2, 0, 2, 0) := ⟨RX2, TX2, 3, tyX2, rfl, rfl, by decide +kernel, by decide +kernel, uw2, tb_1 78 rfl rfl, tyX2_ok, nmX2, fun h => by cases h⟩
theorem lkRX2_1 : LnkOK MT RX2 (0, 16, 2, 1, 0, 0) := ⟨RX2, TX2, 3, tyX2, rfl, rfl, by decide +kernel, by decide +kernel, uw2, tb_1 79 rfl rfl, tyX2_ok, nmX2, fun h => by cases h⟩
theorem lkRX2_2 : LnkOK MT RX2 (1, 16, 2, 1, 0, 0) := ⟨RX2, TX2, 3, tyX2, rfl, rfl, by decide +kernel, by decide +kernel, uw2, tb_1 79 rfl rfl, tyX2_ok, nmX2, fun _ => ⟨by decide +kernel, by decide +kernel⟩⟩
theorem lkRX2_3 : LnkOK MT RX2 (0, 20, 2, 2, 0, 0) := ⟨RX2, TX2, 3, tyX2, rfl, rfl, by decide +kernel, by decide +kernel, uw2, tb_1 80 rfl rfl, tyX2_ok, nmX2, fun h => by cases h⟩
theorem lkRX2_4 : LnkOK MT RX2 (12, 23, 0, 0, 0, 0) := ⟨tb_2 171 rfl rfl, tb_2 172 rfl rfl, tb_1 12 rfl rfl, tb_2 173 rfl rfl⟩
theorem lkRX2_5 : LnkOK MT RX2 (1, 20, 2, 2, 0, 0) := ⟨RX2, TX2, 3, tyX2, rfl, rfl, by decide +kernel, by decide +kernel, uw2, tb_1 80 rfl rfl, tyX2_ok, nmX2, fun _ => ⟨by decide +kernel, by decide +kernel⟩⟩
theorem lkRX2_6 : LnkOK MT RX2 (11, 29, 0, 0, 0, 0) := ⟨tb_4 112 rfl rfl, tb_4 113 rfl rfl, tb_1 12 rfl rfl, tb_4 114 rfl rfl⟩
theorem lkRX2_7 : LnkOK MT RX2 (0, 32, 3, 2, 2, 0) := ⟨RX3, TX3, 8, tyX3, rfl, rfl, by decide +kernel, by decide +kernel, uw3, tb_1 40 rfl rfl, tyX3_ok, nmX3, fun h => by cases h⟩
theorem lkRX2_8 : LnkOK MT RX2 (0, 37, 3, 1, 2, 0) := ⟨RX3, TX3, 8, tyX3, rfl, rfl, by decide +kernel, by decide +kernel, uw3, tb_1 35 rfl rfl, tyX3_ok, nmX3, fun h => by cases h⟩
theorem lkRX2_9 : LnkOK MT RX2 (0, 41, 3, 3, 2, 0) := ⟨RX3, TX3, 8, tyX3, rfl, rfl, by decide +kernel, by decide +kernel, uw3, tb_1 42 rfl rfl, tyX3_ok, nmX3, fun h => by cases h⟩
theorem lkRX2_10 : LnkOK MT RX2 (0, 44, 3, 4, 2, 0) := ⟨RX3, TX3, 8, tyX3, rfl, rfl, by decide +kernel, by decide +kernel, uw3, tb_1 45 rfl rfl, tyX3_ok, nmX3, fun h => by cases h⟩
def lkRX2 : List Lnk := [(0, 11, 2, 0, 2, 0), (0, 16, 2, 1, 0, 0), (1, 16, 2, 1, 0, 0), (0, 20, 2, 2, 0, 0), (12, 23, 0, 0, 0, 0), (1, 20, 2, 2, 0, 0), (11, 29, 0, 0, 0, 0), (0, 32, 3, 2, 2, 0), (0, 37, 3, 1, 2, 0), (0, 41, 3, 3, 2, 0), (0, 44, 3, 4, 2, 0)]
theorem lkRX2_ok : ∀ q ∈ lkRX2, LnkOK MT RX2 q := List.forall_mem_cons.mpr ⟨lkRX2_0, List.forall_mem_cons.mpr ⟨lkRX2_1, List.forall_mem_cons.mpr ⟨lkRX2_2, List.forall_mem_cons.mpr ⟨lkRX2_3, List.forall_mem_cons.mpr ⟨lkRX2_4, List.forall_mem_cons.mpr ⟨lkRX2_5, List.forall_mem_cons.mpr ⟨lkRX2_6, List.forall_mem_cons.mpr ⟨lkRX2_7, List.forall_mem_cons.mpr ⟨lkRX2_8, List.forall_mem_cons.mpr ⟨lkRX2_9, List.forall_mem_cons.mpr ⟨lkRX2_10, fun _ h => absurd h List.not_mem_nil⟩⟩⟩⟩⟩⟩⟩⟩⟩⟩⟩
theorem lkRX3_0 : LnkOK MT RX3 (0, 33, 3, 0, 0, 0) := ⟨RX3, TX3, 8, tyX3, rfl, rfl, by decide +kernel, by decide +kernel, uw3, tb_1 31 rfl rfl, tyX3_ok, nmX3, fun h => by cases h⟩
theorem lkRX3_1 : LnkOK MT RX3 (1, 33, 3, 0, 0, 0) := ⟨RX3, TX3, 8, tyX3, rfl, rfl, by decide +kernel, by decide +kernel, uw3, tb_1 31 rfl rfl, tyX3_ok, nmX3, fun _ => ⟨by decide +kernel, by decide +kernel⟩⟩
theorem lkRX3_2 : LnkOK MT RX3 (0, 9, 3, 1, 2, 0) := ⟨RX3, TX3, 8, tyX3, rfl, rfl, by decide +kernel, by decide +kernel, uw3, tb_1 33 rfl rfl, tyX3_ok, nmX3, fun h => by cases h⟩
theorem lkRX3_3 : LnkOK MT RX3 (0, 20, 3, 3, 2, 0) := ⟨RX3, TX3, 8, tyX3, rfl, rfl, by decide +kernel, by decide +kernel, uw3, tb_1 41 rfl rfl, tyX3_ok, nmX3, fun h => by cases h⟩
theorem lkRX3_4 : LnkOK MT RX3 (0, 23, 3, 4, 2, 0) := ⟨RX3, TX3, 8, tyX3, rfl, rfl, by decide +kernel, by decide +kernel, uw3, tb_1 44 rfl rfl, tyX3_ok, nmX3, fun h => by cases h⟩
theorem lkRX3_5 : LnkOK MT RX3 (0, 17, 3, 2, 2, 0) := ⟨RX3, TX3, 8, tyX3, rfl, rfl, by decide +kernel, by decide +kernel, uw3, tb_1 37 rfl rfl, tyX3_ok, nmX3, fun h => by cases h⟩
theorem lkRX3_6 : LnkOK MT RX3 (8, 36, 0, 0, 0, 0) := ⟨tb_4 45 rfl rfl, tb_2 125 rfl rfl, tb_2 124 rfl rfl, tb_1 11 rfl rfl⟩
theorem lkRX3_7 : LnkOK MT RX3 (0, 26, 3, 5, 2, 0) := ⟨RX3, TX3, 8, tyX3, rfl, rfl, by decide +kernel, by decide +kernel, uw3, tb_1 47 rfl rfl, tyX3_ok, nmX3, fun h => by cases h⟩
theorem lkRX3_8 : LnkOK MT RX3 (0, 42, 3, 6, 0, 0) := ⟨RX3, TX3, 8, tyX3, rfl, rfl, by decide +kernel, by decide +kernel, uw3, tb_1 49 rfl rfl, tyX3_ok, nmX3, fun h => by cases h⟩
theorem lkRX3_9 : LnkOK MT RX3 (0, 29, 3, 7, 0, 0) := ⟨RX3, TX3, 8, tyX3, rfl, rfl, by decide +kernel, by decide +kernel, uw3, tb_1 51 rfl rfl, tyX3_ok, nmX3, fun h => by cases h⟩
theorem lkRX3_10 : LnkOK MT RX3 (3, 45, 13, 3, 3, 0) := ⟨cal13, tb_4 123 rfl rfl, tb_4 41 rfl rfl, tb_4 42 rfl rfl, (RX3, TX3, 8), rfl, rfl⟩
theorem lkRX3_11 : LnkOK MT RX3 (4, 49, 230, 2, 0, 0) := ⟨cal230, Or.inl (tb_2 109 rfl rfl), tb_2 110 rfl rfl⟩
theorem lkRX3_12 : LnkOK MT RX3 (12, 55, 0, 0, 0, 0) := ⟨tb_4 44 rfl rfl, tb_2 172 rfl rfl, tb_1 12 rfl rfl, tb_2 173 rfl rfl⟩
theorem lkRX3_13 : LnkOK MT RX3 (1, 42, 3, 6, 0, 0) := ⟨RX3, TX3, 8, tyX3, rfl, rfl, by decide +kernel, by decide +kernel, uw3, tb_1 49 rfl rfl, tyX3_ok, nmX3, fun _ => ⟨by decide +kernel, by decide +kernel⟩⟩
theorem lkRX3_14 : LnkOK MT RX3 (1, 29, 3, 7, 0, 0) := ⟨RX3, TX3, 8, tyX3, rfl, rfl, by decide +kernel, by decide +kernel, uw3, tb_1 51 rfl rfl, tyX3_ok, nmX3, fun _ => ⟨by decide +kernel, by decide +kernel⟩⟩
theorem lkRX3_15 : LnkOK MT RX3 (3, 61, 15, 1, 3, 0) := ⟨cal15, tb_3 148 rfl rfl, tb_3 130 rfl rfl, tb_3 131 rfl rfl, (RX3, TX3, 8), rfl, rfl⟩
theorem lkRX3_16 : LnkOK MT RX3 (3, 65, 16, 0, 3, 0) := ⟨cal16, tb_3 144 rfl rfl, tb_3 145 rfl rfl, tb_3 146 rfl rfl, (RX3, TX3, 8), rfl, rfl⟩
theorem lkRX3_17 : LnkOK MT RX3 (4, 69, 112, 2, 0, 0) := ⟨cal112, Or.inr ⟨"PureGroups", lw_3 159 rfl⟩, tb_2 141 rfl rfl⟩
theorem lkRX3_18 : LnkOK MT RX3 (4, 72, 19, 2, 0, 0) := ⟨cal19, Or.inl (tb_3 160 rfl rfl), tb_3 161 rfl rfl⟩
def lkRX3 : List Lnk := [(0, 33, 3, 0, 0, 0), (1, 33, 3, 0, 0, 0), (0, 9, 3, 1, 2, 0), (0, 20, 3, 3, 2, 0), (0, 23, 3, 4, 2, 0), (0, 17, 3, 2, 2, 0), (8, 36, 0, 0, 0, 0), (0, 26, 3, 5, 2, 0), (0, 42, 3, 6, 0, 0), (0, 29, 3, 7, 0, 0), (3, 45, 13, 3, 3, 0), (4, 49, 230, 2, 0, 0), (12, 55, 0, 0, 0, 0), (1, 42, 3, 6, 0, 0), (1, 29, 3, 7, 0, 0), (3, 61, 15, 1, 3, 0), (3, 65, 16, 0, 3, 0), (4, 69, 112, 2, 0, 0), (4, 72, 19, 2, 0, 0)]
theorem lkRX3_ok : ∀ q ∈ lkRX3, LnkOK MT RX3 q := List.forall_mem_cons.mpr ⟨lkRX3_0, List.forall_mem_cons.mpr ⟨lkRX3_1, List.forall_mem_cons.mpr ⟨lkRX3_2, List.forall_mem_cons.mpr ⟨lkRX3_3, List.forall_mem_cons.mpr ⟨lkRX3_4, List.forall_mem_cons.mpr ⟨lkRX3_5, List.forall_mem_cons.mpr ⟨lkRX3_6, List.forall_mem_cons.mpr ⟨lkRX3_7, List.forall_mem_cons.mpr ⟨lkRX3_8, List.forall_mem_cons.mpr ⟨lkRX3_9, List.forall_mem_cons.mpr ⟨lkRX3_10, List.forall_mem_cons.mpr ⟨lkRX3_11, List.forall_mem_cons.mpr ⟨lkRX3_12, List.forall_mem_cons.mpr ⟨lkRX3_13, List.forall_mem_cons.mpr ⟨lkRX3_14, List.forall_mem_cons.mpr ⟨lkRX3_15, List.forall_mem_cons.mpr ⟨lkRX3_16, List.forall_mem_cons.mpr ⟨lkRX3_17, List.forall_mem_cons.mpr ⟨lkRX3_18, fun _ h => absurd h List.not_mem_nil⟩⟩⟩⟩⟩⟩⟩⟩⟩⟩⟩⟩⟩⟩⟩⟩⟩⟩⟩
theorem lkRX4_0 : LnkOK MT RX4 (12, 43, 0, 0, 0, 0) := ⟨tb_3 222 rfl rfl, tb_2 172 rfl rfl, tb_1 12 rfl rfl, tb_2 173 rfl rfl⟩
theorem lkRX4_1 : LnkOK MT RX4 (1, 49, 4, 2, 0, 0) := ⟨RX4, TX4, 13, tyX4, rfl, rfl, by decide +kernel, by decide +kernel, uw4, tb_1 237 rfl rfl, tyX4_ok, nmX4, fun _ => ⟨by decide +kernel, by decide +kernel⟩⟩
theorem lkRX4_2 : LnkOK MT RX4 (0, 9, 4, 1, 2, 0) := ⟨RX4, TX4, 13, tyX4, rfl, rfl, by decide +kernel, by decide +kernel, uw4, tb_1 236 rfl rfl, tyX4_ok, nmX4, fun h => by cases h⟩
theorem lkRX4_3 : LnkOK MT RX4 (0, 49, 4, 2, 0, 0) := ⟨RX4, TX4, 13, tyX4, rfl, rfl, by decide +kernel, by decide +kernel, uw4, tb_1 237 rfl rfl, tyX4_ok, nmX4, fun h => by cases h⟩
theorem lkRX4_4 : LnkOK MT RX4 (8, 52, 0, 0, 0, 0) := ⟨tb_3 223 rfl rfl, tb_2 125 rfl rfl, tb_2 124 rfl rfl, tb_1 11 rfl rfl⟩
theorem lkRX4_5 : LnkOK MT RX4 (1, 58, 4, 3, 0, 0) := ⟨RX4, TX4, 13, tyX4, rfl, rfl, by decide +kernel, by decide +kernel, uw4, tb_1 238 rfl rfl, tyX4_ok, nmX4, fun _ => ⟨by decide +kernel, by decide +kernel⟩⟩
theorem lkRX4_6 : LnkOK MT RX4 (1, 15, 4, 4, 0, 0) := ⟨RX4, TX4, 13, tyX4, rfl, rfl, by decide +kernel, by decide +kernel, uw4, tb_1 239 rfl rfl, tyX4_ok, nmX4, fun _ => ⟨by decide +kernel, by decide +kernel⟩⟩
theorem lkRX4_7 : LnkOK MT RX4 (1, 61, 4, 5, 0, 0) := ⟨RX4, TX4, 13, tyX4, rfl, rfl, by decide +kernel, by decide +kernel, uw4, tb_2 1 rfl rfl, tyX4_ok, nmX4, fun _ => ⟨by decide +kernel, by decide +kernel⟩⟩
theorem lkRX4_8 : LnkOK MT RX4 (1, 64, 4, 6, 0, 0) := ⟨RX4, TX4, 13, tyX4, rfl, rfl, by decide +kernel, by decide +kernel, uw4, tb_2 3 rfl rfl, tyX4_ok, nmX4, fun _ => ⟨by decide +kernel, by decide +kernel⟩⟩
theorem lkRX4_9 : LnkOK MT RX4 (0, 19, 4, 7, 2, 0) := ⟨RX4, TX4, 13, tyX4, rfl, rfl, by decide +kernel, by decide +kernel, uw4, tb_2 5 rfl rfl, tyX4_ok, nmX4, fun h => by cases h⟩
theorem lkRX4_10 : LnkOK MT RX4 (4, 67, 230, 2, 0, 0) := ⟨cal230, Or.inl (tb_3 224 rfl rfl), tb_2 110 rfl rfl⟩
theorem lkRX4_11 : LnkOK MT RX4 (3, 73, 21, 1, 4, 0) := ⟨cal21, tb_3 225 rfl rfl, tb_3 227 rfl rfl, tb_p 15 rfl rfl, (RX4, TX4, 13), rfl, rfl⟩
theorem lkRX4_12 : LnkOK MT RX4 (0, 24, 4, 8, 2, 0) := ⟨RX4, TX4, 13, tyX4, rfl, rfl, by decide +kernel, by decide +kernel, uw4, tb_2 6 rfl rfl, tyX4_ok, nmX4, fun h => by cases h⟩
theorem lkRX4_13 : LnkOK MT RX4 (0, 33, 4, 11, 2, 0) := ⟨RX4, TX4, 13, tyX4, rfl, rfl, by decide +kernel, by decide +kernel, uw4, tb_2 9 rfl rfl, tyX4_ok, nmX4, fun h => by cases h⟩
theorem lkRX4_14 : LnkOK MT RX4 (0, 58, 4, 3, 0, 0) := ⟨RX4, TX4, 13, tyX4, rfl, rfl, by decide +kernel, by decide +kernel, uw4, tb_1 238 rfl rfl, tyX4_ok, nmX4, fun h => by cases h⟩
theorem lkRX4_15 : LnkOK MT RX4 (3, 77, 31, 1, 4, 0) := ⟨cal31, tb_4 16 rfl rfl, tb_4 18 rfl rfl, tb_p 22 rfl rfl, (RX4, TX4, 13), rfl, rfl⟩
theorem lkRX4_16 : LnkOK MT RX4 (0, 36, 4, 12, 2, 0) := ⟨RX4, TX4, 13, tyX4, rfl, rfl, by decide +kernel, by decide +kernel, uw4, tb_2 11 rfl rfl, tyX4_ok, nmX4, fun h => by cases h⟩
theorem lkRX4_17 : LnkOK MT RX4 (4, 80, 34, 2, 0, 0) := ⟨cal34, Or.inl (tb_4 37 rfl rfl), tb_4 38 rfl rfl⟩
theorem lkRX4_18 : LnkOK MT RX4 (3, 84, 33, 1, 4, 0) := ⟨cal33, tb_4 25 rfl rfl, tb_4 27 rfl rfl, tb_p 24 rfl rfl, (RX4, TX4, 13), rfl, rfl⟩
theorem lkRX4_19 : LnkOK MT RX4 (3, 87, 22, 1, 4, 0) := ⟨cal22, tb_3 229 rfl rfl, tb_3 231 rfl rfl, tb_p 16 rfl rfl, (RX4, TX4, 13), rfl, rfl⟩
theorem lkRX4_20 : LnkOK MT RX4 (0, 27, 4, 9, 2, 0) := ⟨RX4, TX4, 13, tyX4, rfl, rfl, by decide +kernel, by decide +kernel, uw4, tb_2 7 rfl rfl, tyX4_ok, nmX4, fun h => by cases h⟩
theorem lkRX4_21 : LnkOK MT RX4 (3, 90, 29, 2, 4, 0) := ⟨cal29, tb_4 33 rfl rfl, tb_4 35 rfl rfl, tb_p 26 rfl rfl, (RX4, TX4, 13), rfl, rfl⟩
theorem lkRX4_22 : LnkOK MT RX4 (0, 61, 4, 5, 0, 0) := ⟨RX4, TX4, 13, tyX4, rfl, rfl, by decide +kernel, by decide +kernel, uw4, tb_2 1 rfl rfl, tyX4_ok, nmX4, fun h => by cases h⟩
theorem lkRX4_23 : LnkOK MT RX4 (3, 94, 23, 2, 4, 0) := ⟨cal23, tb_3 233 rfl rfl, tb_3 235 rfl rfl, tb_p 17 rfl rfl, (RX4, TX4, 13), rfl, rfl⟩
theorem lkRX4_24 : LnkOK MT RX4 (3, 98, 28, 0, 4, 0) := ⟨cal28, tb_4 1 rfl rfl, tb_4 3 rfl rfl, tb_p 19 rfl rfl, (RX4, TX4, 13), rfl, rfl⟩
theorem lkRX4_25 : LnkOK MT RX4 (3, 102, 24, 1, 4, 0) := ⟨cal24, tb_3 237 rfl rfl, tb_3 239 rfl rfl, tb_p 18 rfl rfl, (RX4, TX4, 13), rfl, rfl⟩
theorem lkRX4_26 : LnkOK MT RX4 (3, 106, 27, 0, 4, 0) := ⟨cal27, tb_4 29 rfl rfl, tb_4 31 rfl rfl, tb_p 25 rfl rfl, (RX4, TX4, 13), rfl, rfl⟩
theorem lkRX4_27 : LnkOK MT RX4 (0, 39, 4, 0, 2, 0) := ⟨RX4, TX4, 13, tyX4, rfl, rfl, by decide +kernel, by decide +kernel, uw4, tb_1 235 rfl rfl, tyX4_ok, nmX4, fun h => by cases h⟩
theorem lkRX4_28 : LnkOK MT RX4 (0, 109, 6, 0, 0, 0) := ⟨RX6, TX6, 5, tyX6, rfl, rfl, by decide +kernel, by decide +kernel, uw6, tb_1 131 rfl rfl, tyX6_ok, nmX6, fun h => by cases h⟩
theorem lkRX4_29 : LnkOK MT RX4 (0, 64, 4, 6, 0, 0) := ⟨RX4, TX4, 13, tyX4, rfl, rfl, by decide +kernel, by decide +kernel, uw4, tb_2 3 rfl rfl, tyX4_ok, nmX4, fun h => by cases h⟩
theorem lkRX4_30 : LnkOK MT RX4 (0, 114, 6, 2, 2, 0) := ⟨RX6, TX6, 5, tyX6, rfl, rfl, by decide +kernel, by decide +kernel, uw6, tb_1 138 rfl rfl, tyX6_ok, nmX6, fun h => by cases h⟩
theorem lkRX4_31 : LnkOK MT RX4 (4, 117, 30, 1, 0, 0) := ⟨cal30, Or.inl (tb_4 5 rfl rfl), tb_4 6 rfl rfl⟩
theorem lkRX4_32 : LnkOK MT RX4 (3, 121, 26, 0, 4, 0) := ⟨cal26, tb_4 8 rfl rfl, tb_4 10 rfl rfl, tb_p 20 rfl rfl, (RX4, TX4, 13), rfl, rfl⟩
theorem lkRX4_33 : LnkOK MT RX4 (0, 30, 4, 10, 2, 0) := ⟨RX4, TX4, 13, tyX4, rfl, rfl, by decide +kernel, by decide +kernel, uw4, tb_2 8 rfl rfl, tyX4_ok, nmX4, fun h => by cases h⟩
theorem lkRX4_34 : LnkOK MT RX4 (3, 124, 25, 2, 4, 0) := ⟨cal25, tb_4 12 rfl rfl, tb_4 14 rfl rfl, tb_p 21 rfl rfl, (RX4, TX4, 13), rfl, rfl⟩
theorem lkRX4_35 : LnkOK MT RX4 (3, 128, 32, 0, 4, 0) := ⟨cal32, tb_4 20 rfl rfl, tb_4 22 rfl rfl, tb_p 23 rfl rfl, (RX4, TX4, 13), rfl, rfl⟩
theorem lkRX4_36 : LnkOK MT RX4 (4, 131, 114, 1, 0, 0) := ⟨cal114, Or.inr ⟨"PureGroups", lw_4 24 rfl⟩, tb_2 188 rfl rfl⟩
theorem lkRX4_37 : LnkOK MT RX4 (0, 15, 4, 4, 0, 0) := ⟨RX4, TX4, 13, tyX4, rfl, rfl, by decide +kernel, by decide +kernel, uw4, tb_1 239 rfl rfl, tyX4_ok, nmX4, fun h => by cases h⟩
def lkRX4 : List Lnk := [(12, 43, 0, 0, 0, 0), (1, 49, 4, 2, 0, 0), (0, 9, 4, 1, 2, 0), (0, 49, 4, 2, 0, 0), (8, 52, 0, 0, 0, 0), (1, 58, 4, 3, 0, 0), (1, 15, 4, 4, 0, 0), (1, 61, 4, 5, 0, 0), (1, 64, 4, 6, 0, 0), (0, 19, 4, 7, 2, 0), (4, 67, 230, 2, 0, 0), (3, 73, 21, 1, 4, 0), (0, 24, 4, 8, 2, 0), (0, 33, 4, 11, 2, 0), (0, 58, 4, 3, 0, 0), (3, 77, 31, 1, 4, 0), (0, 36, 4, 12, 2, 0), (4, 80, 34, 2, 0, 0), (3, 84, 33, 1, 4, 0), (3, 87, 22, 1, 4, 0), (0, 27, 4, 9, 2, 0), (3, 90, 29, 2, 4, 0), (0, 61, 4, 5, 0, 0), (3, 94, 23, 2, 4, 0), (3, 98, 28, 0, 4, 0), (3, 102, 24, 1, 4, 0), (3, 106, 27, 0, 4, 0), (0, 39, 4, 0, 2, 0), (0, 109, 6, 0, 0, 0), (0, 64, 4, 6, 0, 0), (0, 114, 6, 2, 2, 0), (4, 117, 30, 1, 0, 0), (3, 121, 26, 0, 4, 0), (0, 30, 4, 10, 2, 0), (3, 124, 25, 2, 4, 0), (3, 128, 32, 0, 4, 0), (4, 131, 114, 1, 0, 0), (0, 15, 4, 4, 0, 0)]
theorem lkRX4_ok : ∀ q ∈ lkRX4, LnkOK MT RX4 q := List.forall_mem_cons.mpr ⟨lkRX4_0, List.forall_mem_cons.mpr ⟨lkRX4_1, List.forall_mem_cons.mpr ⟨lkRX4_2, List.forall_mem_cons.mpr ⟨lkRX4_3, List.forall_mem_cons.mpr ⟨lkRX4_4, List.forall_mem_cons.mpr ⟨lkRX4_5, List.forall_mem_cons.mpr ⟨lkRX4_6, List.forall_mem_cons.mpr ⟨lkRX4_7, List.forall_mem_cons.mpr ⟨lkRX4_8, List.forall_mem_cons.mpr ⟨lkRX4_9, List.forall_mem_cons.mpr ⟨lkRX4_10, List.forall_mem_cons.mpr ⟨lkRX4_11, List.forall_mem_cons.mpr ⟨lkRX4_12, List.forall_mem_cons.mpr ⟨lkRX4_13, List.forall_mem_cons.mpr ⟨lkRX4_14, List.forall_mem_cons.mpr ⟨lkRX4_15, List.forall_mem_cons.mpr ⟨lkRX4_16, List.forall_mem_cons.mpr ⟨lkRX4_17, List.forall_mem_cons.mpr ⟨lkRX4_18, List.forall_mem_cons.mpr ⟨lkRX4_19, List.forall_mem_cons.mpr ⟨lkRX4_20, List.forall_mem_cons.mpr ⟨lkRX4_21, List.forall_mem_cons.mpr ⟨lkRX4_22, List.forall_mem_cons.mpr ⟨lkRX4_23, List.forall_mem_cons.mpr ⟨lkRX4_24, List.forall_mem_cons.mpr ⟨lkRX4_25, List.forall_mem_cons.mpr ⟨lkRX4_26, List.forall_mem_cons.mpr ⟨lkRX4_27, List.forall_mem_cons.mpr ⟨lkRX4_28, List.forall_mem_cons.mpr ⟨lkRX4_29, List.forall_mem_cons.mpr ⟨lkRX4_30, List.forall_mem_cons.mpr ⟨lkRX4_31, List.forall_mem_cons.mpr ⟨lkRX4_32, List.forall_mem_cons.mpr ⟨lkRX4_33, List.forall_mem_cons.mpr ⟨lkRX4_34, List.forall_mem_cons.mpr ⟨lkRX4_35, List.forall_mem_cons.mpr ⟨lkRX4_36, List.forall_mem_cons.mpr ⟨lkRX4_37, fun _ h => absurd h List.not_mem_nil⟩⟩⟩⟩⟩⟩⟩⟩⟩⟩⟩⟩⟩⟩⟩⟩⟩⟩⟩⟩⟩⟩⟩⟩⟩⟩⟩⟩⟩⟩⟩⟩⟩⟩⟩⟩⟩⟩
theorem lkRX5_0 : LnkOK MT RX5 (0, 29, 5, 0, 2, 0) := ⟨RX5, TX5, 7, tyX5, rfl, rfl, by decide +kernel, by decide +kernel, uw5, tb_1 204 rfl rfl, tyX5_ok, nmX5, fun h => by cases h⟩
theorem lkRX5_1 : LnkOK MT RX5 (0, 33, 6, 3, 2, 0) := ⟨RX6, TX6, 5, tyX6, rfl, rfl, by decide +kernel, by decide +kernel, uw6, tb_1 141 rfl rfl, tyX6_ok, nmX6, fun h => by cases h⟩
theorem lkRX5_2 : LnkOK MT RX5 (0, 38, 6, 0, 0, 0) := ⟨RX6, TX6, 5, tyX6, rfl, rfl, by decide +kernel, by decide +kernel, uw6, tb_1 129 rfl rfl, tyX6_ok, nmX6, fun h => by cases h⟩
theorem lkRX5_3 : LnkOK MT RX5 (4, 41, 39, 4, 0, 0) := ⟨cal39, Or.inl (tb_3 48 rfl rfl), tb_3 49 rfl rfl⟩
theorem lkRX5_4 : LnkOK MT RX5 (0, 15, 5, 3, 0, 0) := ⟨RX5, TX5, 7, tyX5, rfl, rfl, by decide +kernel, by decide +kernel, uw5, tb_1 209 rfl rfl, tyX5_ok, nmX5, fun h => by cases h⟩
theorem lkRX5_5 : LnkOK MT RX5 (0, 45, 6, 1, 0, 0) := ⟨RX6, TX6, 5, tyX6, rfl, rfl, by decide +kernel, by decide +kernel, uw6, tb_1 134 rfl rfl, tyX6_ok, nmX6, fun h => by cases h⟩
theorem lkRX5_6 : LnkOK MT RX5 (1, 15, 5, 3, 0, 0) := ⟨RX5, TX5, 7, tyX5, rfl, rfl, by decide +kernel, by decide +kernel, uw5, tb_1 209 rfl rfl, tyX5_ok, nmX5, fun _ => ⟨by decide +kernel, by decide +kernel⟩⟩
theorem lkRX5_7 : LnkOK MT RX5 (1, 48, 5, 2, 0, 0) := ⟨RX5, TX5, 7, tyX5, rfl, rfl, by decide +kernel, by decide +kernel, uw5, tb_1 207 rfl rfl, tyX5_ok, nmX5, fun _ => ⟨by decide +kernel, by decide +kernel⟩⟩
theorem lkRX5_8 : LnkOK MT RX5 (0, 9, 5, 1, 2, 0) := ⟨RX5, TX5, 7, tyX5, rfl, rfl, by decide +kernel, by decide +kernel, uw5, tb_1 205 rfl rfl, tyX5_ok, nmX5, fun h => by cases h⟩
theorem lkRX5_9 : LnkOK MT RX5 (4, 51, 230, 2, 0, 0) := ⟨cal230, Or.inl (tb_3 59 rfl rfl), tb_2 110 rfl rfl⟩
theorem lkRX5_10 : LnkOK MT RX5 (0, 48, 5, 2, 0, 0) := ⟨RX5, TX5, 7, tyX5, rfl, rfl, by decide +kernel, by decide +kernel, uw5, tb_1 207 rfl rfl, tyX5_ok, nmX5, fun h => by cases h⟩
theorem lkRX5_11 : LnkOK MT RX5 (3, 57, 51, 0, 6, 0) := ⟨cal51, tb_3 60 rfl rfl, tb_2 183 rfl rfl, tb_2 184 rfl rfl, (RX6, TX6, 5), rfl, rfl⟩
theorem lkRX5_12 : LnkOK MT RX5 (4, 61, 41, 6, 0, 0) := ⟨cal41, Or.inl (tb_3 61 rfl rfl), tb_3 62 rfl rfl⟩
theorem lkRX5_13 : LnkOK MT RX5 (9, 65, 0, 0, 0, 0) := ⟨tb_3 64 rfl rfl, tb_3 22 rfl rfl, tb_1 12 rfl rfl, tb_3 23 rfl rfl⟩
theorem lkRX5_14 : LnkOK MT RX5 (0, 26, 5, 6, 2, 0) := ⟨RX5, TX5, 7, tyX5, rfl, rfl, by decide +kernel, by decide +kernel, uw5, tb_1 212 rfl rfl, tyX5_ok, nmX5, fun h => by cases h⟩
theorem lkRX5_15 : LnkOK MT RX5 (7, 71, 0, 0, 0, -9223372036854775808) := tb_3 202 rfl rfl
theorem lkRX5_16 : LnkOK MT RX5 (4, 73, 229, 2, 0, 0) := ⟨cal229, Or.inl (tb_3 203 rfl rfl), tb_3 204 rfl rfl⟩
theorem lkRX5_17 : LnkOK MT RX5 (4, 76, 43, 6, 0, 0) := ⟨cal43, Or.inl (tb_3 206 rfl rfl), tb_3 207 rfl rfl⟩
theorem lkRX5_18 : LnkOK MT RX5 (4, 80, 44, 2, 0, 0) := ⟨cal44, Or.inl (tb_3 209 rfl rfl), tb_3 210 rfl rfl⟩
theorem lkRX5_19 : LnkOK MT RX5 (7, 84, 0, 0, 0, -7046029254386353131) := tb_3 212 rfl rfl
theorem lkRX5_20 : LnkOK MT RX5 (7, 86, 0, 0, 0, 1024) := tb_3 213 rfl rfl
theorem lkRX5_21 : LnkOK MT RX5 (3, 88, 46, 1, 5, 0) := ⟨cal46, tb_3 186 rfl rfl, tb_3 188 rfl rfl, tb_p 14 rfl rfl, (RX5, TX5, 7), rfl, rfl⟩
theorem lkRX5_22 : LnkOK MT RX5 (0, 23, 5, 5, 2, 0) := ⟨RX5, TX5, 7, tyX5, rfl, rfl, by decide +kernel, by decide +kernel, uw5, tb_1 211 rfl rfl, tyX5_ok, nmX5, fun h => by cases h⟩
theorem lkRX5_23 : LnkOK MT RX5 (0, 19, 5, 4, 2, 0) := ⟨RX5, TX5, 7, tyX5, rfl, rfl, by decide +kernel, by decide +kernel, uw5, tb_1 210 rfl rfl, tyX5_ok, nmX5, fun h => by cases h⟩
theorem lkRX5_24 : LnkOK MT RX5 (4, 92, 50, 1, 0, 0) := ⟨cal50, Or.inl (tb_3 190 rfl rfl), tb_2 133 rfl rfl⟩
theorem lkRX5_25 : LnkOK MT RX5 (4, 96, 47, 6, 0, 0) := ⟨cal47, Or.inl (tb_3 191 rfl rfl), tb_3 192 rfl rfl⟩
def lkRX5 : List Lnk := [(0, 29, 5, 0, 2, 0), (0, 33, 6, 3, 2, 0), (0, 38, 6, 0, 0, 0), (4, 41, 39, 4, 0, 0), (0, 15, 5, 3, 0, 0), (0, 45, 6, 1, 0, 0), (1, 15, 5, 3, 0, 0), (1, 48, 5, 2, 0, 0), (0, 9, 5, 1, 2, 0), (4, 51, 230, 2, 0, 0), (0, 48, 5, 2, 0, 0), (3, 57, 51, 0, 6, 0), (4, 61, 41, 6, 0, 0), (9, 65, 0, 0, 0, 0), (0, 26, 5, 6, 2, 0), (7, 71, 0, 0, 0, -9223372036854775808), (4, 73, 229, 2, 0, 0), (4, 76, 43, 6, 0, 0), (4, 80, 44, 2, 0, 0), (7, 84, 0, 0, 0, -7046029254386353131), (7, 86, 0, 0, 0, 1024), (3, 88, 46, 1, 5, 0), (0, 23, 5, 5, 2, 0), (0, 19, 5, 4, 2, 0), (4, 92, 50, 1, 0, 0), (4, 96, 47, 6, 0, 0)]
theorem lkRX5_ok : ∀ q ∈ lkRX5, LnkOK MT RX5 q := List.forall_mem_cons.mpr ⟨lkRX5_0, List.forall_mem_cons.mpr ⟨lkRX5_1, List.forall_mem_cons.mpr ⟨lkRX5_2, List.forall_mem_cons.mpr ⟨lkRX5_3, List.forall_mem_cons.mpr ⟨lkRX5_4, List.forall_mem_cons.mpr ⟨lkRX5_5, List.forall_mem_cons.mpr ⟨lkRX5_6, List.forall_mem_cons.mpr ⟨lkRX5_7, List.forall_mem_cons.mpr ⟨lkRX5_8, List.forall_mem_cons.mpr ⟨lkRX5_9, List.forall_mem_cons.mpr ⟨lkRX5_10, List.forall_mem_cons.mpr ⟨lkRX5_11, List.forall_mem_cons.mpr ⟨lkRX5_12, List.forall_mem_cons.mpr ⟨lkRX5_13, List.forall_mem_cons.mpr ⟨lkRX5_14, List.forall_mem_cons.mpr ⟨lkRX5_15, List.forall_mem_cons.mpr ⟨lkRX5_16, List.forall_mem_cons.mpr ⟨lkRX5_17, List.forall_mem_cons.mpr ⟨lkRX5_18, List.forall_mem_cons.mpr ⟨lkRX5_19, List.forall_mem_cons.mpr ⟨lkRX5_20, List.forall_mem_cons.mpr ⟨lkRX5_21, List.forall_mem_cons.mpr ⟨lkRX5_22, List.forall_mem_cons.mpr ⟨lkRX5_23, List.forall_mem_cons.mpr ⟨lkRX5_24, List.forall_mem_cons.mpr ⟨lkRX5_25, fun _ h => absurd h List.not_mem_nil⟩⟩⟩⟩⟩⟩⟩⟩⟩⟩⟩⟩⟩⟩⟩⟩⟩⟩⟩⟩⟩⟩⟩⟩⟩⟩
theorem lkRX6_0 : LnkOK MT RX6 (0, 27, 3, 0, 0, 0) := ⟨RX3, TX3, 8, tyX3, rfl, rfl, by decide +kernel, by decide +kernel, uw3, tb_1 30 rfl rfl, tyX3_ok, nmX3, fun h => by cases h⟩
theorem lkRX6_1 : LnkOK MT RX6 (1, 33, 6, 0, 0, 0) := ⟨RX6, TX6, 5, tyX6, rfl, rfl, by decide +kernel, by decide +kernel, uw6, tb_1 128 rfl rfl, tyX6_ok, nmX6, fun _ => ⟨by decide +kernel, by decide +kernel⟩⟩
theorem lkRX6_2 : LnkOK MT RX6 (0, 34, 6, 1, 0, 0) := ⟨RX6, TX6, 5, tyX6, rfl, rfl, by decide +kernel, by decide +kernel, uw6, tb_1 133 rfl rfl, tyX6_ok, nmX6, fun h => by cases h⟩
theorem lkRX6_3 : LnkOK MT RX6 (1, 34, 6, 1, 0, 0) := ⟨RX6, TX6, 5, tyX6, rfl, rfl, by decide +kernel, by decide +kernel, uw6, tb_1 133 rfl rfl, tyX6_ok, nmX6, fun _ => ⟨by decide +kernel, by decide +kernel⟩⟩
theorem lkRX6_4 : LnkOK MT RX6 (0, 33, 6, 0, 0, 0) := ⟨RX6, TX6, 5, tyX6, rfl, rfl, by decide +kernel, by decide +kernel, uw6, tb_1 128 rfl rfl, tyX6_ok, nmX6, fun h => by cases h⟩
theorem lkRX6_5 : LnkOK MT RX6 (0, 37, 3, 1, 2, 0) := ⟨RX3, TX3, 8, tyX3, rfl, rfl, by decide +kernel, by decide +kernel, uw3, tb_1 34 rfl rfl, tyX3_ok, nmX3, fun h => by cases h⟩
theorem lkRX6_6 : LnkOK MT RX6 (0, 41, 3, 2, 2, 0) := ⟨RX3, TX3, 8, tyX3, rfl, rfl, by decide +kernel, by decide +kernel, uw3, tb_1 38 rfl rfl, tyX3_ok, nmX3, fun h => by cases h⟩
theorem lkRX6_7 : LnkOK MT RX6 (0, 11, 6, 2, 2, 0) := ⟨RX6, TX6, 5, tyX6, rfl, rfl, by decide +kernel, by decide +kernel, uw6, tb_1 136 rfl rfl, tyX6_ok, nmX6, fun h => by cases h⟩
theorem lkRX6_8 : LnkOK MT RX6 (4, 44, 49, 3, 0, 0) := ⟨cal49, Or.inl (tb_2 120 rfl rfl), tb_2 121 rfl rfl⟩
theorem lkRX6_9 : LnkOK MT RX6 (0, 16, 6, 3, 2, 0) := ⟨RX6, TX6, 5, tyX6, rfl, rfl, by decide +kernel, by decide +kernel, uw6, tb_1 140 rfl rfl, tyX6_ok, nmX6, fun h => by cases h⟩
theorem lkRX6_10 : LnkOK MT RX6 (4, 48, 50, 1, 0, 0) := ⟨cal50, Or.inl (tb_2 132 rfl rfl), tb_2 133 rfl rfl⟩
theorem lkRX6_11 : LnkOK MT RX6 (0, 23, 6, 4, 2, 0) := ⟨RX6, TX6, 5, tyX6, rfl, rfl, by decide +kernel, by decide +kernel, uw6, tb_1 143 rfl rfl, tyX6_ok, nmX6, fun h => by cases h⟩
theorem lkRX6_12 : LnkOK MT RX6 (3, 52, 4, 3, 1, 0) := ⟨cal4, tb_2 136 rfl rfl, tb_2 137 rfl rfl, tb_2 138 rfl rfl, (RX1, TX1, 6), rfl, rfl⟩
theorem lkRX6_13 : LnkOK MT RX6 (8, 56, 0, 0, 0, 0) := ⟨tb_2 123 rfl rfl, tb_2 125 rfl rfl, tb_2 124 rfl rfl, tb_1 11 rfl rfl⟩
theorem lkRX6_14 : LnkOK MT RX6 (2, 62, 1001, 0, 0, 0) := ⟨1, by decide, rfl, Or.inr ⟨"PureGroups", lw_2 126 rfl⟩⟩
theorem lkRX6_15 : LnkOK MT RX6 (2, 65, 1002, 0, 0, 0) := ⟨2, by decide, rfl, Or.inr ⟨"PureGroups", lw_2 128 rfl⟩⟩
theorem lkRX6_16 : LnkOK MT RX6 (2, 68, 1003, 0, 0, 0) := ⟨3, by decide, rfl, Or.inr ⟨"PureGroups", lw_2 130 rfl⟩⟩
theorem lkRX6_17 : LnkOK MT RX6 (7, 71, 0, 0, 0, 4096) := tb_2 135 rfl rfl
theorem lkRX6_18 : LnkOK MT RX6 (0, 73, 1, 4, 0, 0) := ⟨RX1, TX1, 6, tyX1, rfl, rfl, by decide +kernel, by decide +kernel, uw1, tb_1 112 rfl rfl, tyX1_ok, nmX1, fun h => by cases h⟩
theorem lkRX6_19 : LnkOK MT RX6 (3, 76, 51, 0, 6, 0) := ⟨cal51, tb_2 220 rfl rfl, tb_2 183 rfl rfl, tb_2 184 rfl rfl, (RX6, TX6, 5), rfl, rfl⟩
theorem lkRX6_20 : LnkOK MT RX6 (4, 80, 112, 2, 0, 0) := ⟨cal112, Or.inr ⟨"PureGroups", lw_2 221 rfl⟩, tb_2 141 rfl rfl⟩
theorem lkRX6_21 : LnkOK MT RX6 (3, 84, 55, 1, 6, 0) := ⟨cal55, tb_3 17 rfl rfl, tb_3 18 rfl rfl, tb_3 19 rfl rfl, (RX6, TX6, 5), rfl, rfl⟩
theorem lkRX6_22 : LnkOK MT RX6 (9, 88, 0, 0, 0, 0) := ⟨tb_3 21 rfl rfl, tb_3 22 rfl rfl, tb_1 12 rfl rfl, tb_3 23 rfl rfl⟩
def lkRX6 : List Lnk := [(0, 27, 3, 0, 0, 0), (1, 33, 6, 0, 0, 0), (0, 34, 6, 1, 0, 0), (1, 34, 6, 1, 0, 0), (0, 33, 6, 0, 0, 0), (0, 37, 3, 1, 2, 0), (0, 41, 3, 2, 2, 0), (0, 11, 6, 2, 2, 0), (4, 44, 49, 3, 0, 0), (0, 16, 6, 3, 2, 0), (4, 48, 50, 1, 0, 0), (0, 23, 6, 4, 2, 0), (3, 52, 4, 3, 1, 0), (8, 56, 0, 0, 0, 0), (2, 62, 1001, 0, 0, 0), (2, 65, 1002, 0, 0, 0), (2, 68, 1003, 0, 0, 0), (7, 71, 0, 0, 0, 4096), (0, 73, 1, 4, 0, 0), (3, 76, 51, 0, 6, 0), (4, 80, 112, 2, 0, 0), (3, 84, 55, 1, 6, 0), (9, 88, 0, 0, 0, 0)]
theorem lkRX6_ok : ∀ q ∈ lkRX6, LnkOK MT RX6 q := List.forall_mem_cons.mpr ⟨lkRX6_0, List.forall_mem_cons.mpr ⟨lkRX6_1, List.forall_mem_cons.mpr ⟨lkRX6_2, List.forall_mem_cons.mpr ⟨lkRX6_3, List.forall_mem_cons.mpr ⟨lkRX6_4, List.forall_mem_cons.mpr ⟨lkRX6_5, List.forall_mem_cons.mpr ⟨lkRX6_6, List.forall_mem_cons.mpr ⟨lkRX6_7, List.forall_mem_cons.mpr ⟨lkRX6_8, List.forall_mem_cons.mpr ⟨lkRX6_9, List.forall_mem_cons.mpr ⟨lkRX6_10, List.forall_mem_cons.mpr ⟨lkRX6_11, List.forall_mem_cons.mpr ⟨lkRX6_12, List.forall_mem_cons.mpr ⟨lkRX6_13, List.forall_mem_cons.mpr ⟨lkRX6_14, List.forall_mem_cons.mpr ⟨lkRX6_15, List.forall_mem_cons.mpr ⟨lkRX6_16, List.forall_mem_cons.mpr ⟨lkRX6_17, List.forall_mem_cons.mpr ⟨lkRX6_18, List.forall_mem_cons.mpr ⟨lkRX6_19, List.forall_mem_cons.mpr ⟨lkRX6_20, List.forall_mem_cons.mpr ⟨lkRX6_21, List.forall_mem_cons.mpr ⟨lkRX6_22, fun _ h => absurd h List.not_mem_nil⟩⟩⟩⟩⟩⟩⟩⟩⟩⟩⟩⟩⟩⟩⟩⟩⟩⟩⟩⟩⟩⟩⟩
theorem lkRX7_0 : LnkOK MT RX7 (3, 80, 96, 1, 7, 0) := ⟨cal96, tb_2 94 rfl rfl, tb_2 96 rfl rfl, tb_p 0 rfl rfl, (RX7, TX7, 16), rfl, rfl⟩
theorem lkRX7_1 : LnkOK MT RX7 (0, 84, 7, 9, 0, 0) := ⟨RX7, TX7, 16, tyX7, rfl, rfl, by decide +kernel, by decide +kernel, uw7, tb_2 50 rfl rfl, tyX7_ok, nmX7, fun h => by cases h⟩
theorem lkRX7_2 : LnkOK MT RX7 (0, 56, 7, 8, 2, 0) := ⟨RX7, TX7, 16, tyX7, rfl, rfl, by decide +kernel, by decide +kernel, uw7, tb_2 49 rfl rfl, tyX7_ok, nmX7, fun h => by cases h⟩
theorem lkRX7_3 : LnkOK MT RX7 (1, 84, 7, 9, 0, 0) := ⟨RX7, TX7, 16, tyX7, rfl, rfl, by decide +kernel, by decide +kernel, uw7, tb_2 50 rfl rfl, tyX7_ok, nmX7, fun _ => ⟨by decide +kernel, by decide +kernel⟩⟩
theorem lkRX7_4 : LnkOK MT RX7 (4, 88, 101, 1, 0, 0) := ⟨cal101, Or.inl (tb_2 102 rfl rfl), tb_2 103 rfl rfl⟩
theorem lkRX7_5 : LnkOK MT RX7 (0, 10, 7, 0, 2, 0) := ⟨RX7, TX7, 16, tyX7, rfl, rfl, by decide +kernel, by decide +kernel, uw7, tb_2 41 rfl rfl, tyX7_ok, nmX7, fun h => by cases h⟩
theorem lkRX7_6 : LnkOK MT RX7 (0, 92, 3, 0, 0, 0) := ⟨RX3, TX3, 8, tyX3, rfl, rfl, by decide +kernel, by decide +kernel, uw3, tb_1 32 rfl rfl, tyX3_ok, nmX3, fun h => by cases h⟩
theorem lkRX7_7 : LnkOK MT RX7 (3, 95, 12, 1, 3, 0) := ⟨cal12, tb_2 105 rfl rfl, tb_2 106 rfl rfl, tb_2 107 rfl rfl, (RX3, TX3, 8), rfl, rfl⟩
theorem lkRX7_8 : LnkOK MT RX7 (0, 22, 7, 3, 2, 0) := ⟨RX7, TX7, 16, tyX7, rfl, rfl, by decide +kernel, by decide +kernel, uw7, tb_2 44 rfl rfl, tyX7_ok, nmX7, fun h => by cases h⟩
theorem lkRX7_9 : LnkOK MT RX7 (3, 99, 9, 0, 2, 0) := ⟨cal9, tb_2 112 rfl rfl, tb_2 113 rfl rfl, tb_2 114 rfl rfl, (RX2, TX2, 3), rfl, rfl⟩
theorem lkRX7_10 : LnkOK MT RX7 (0, 29, 7, 4, 2, 0) := ⟨RX7, TX7, 16, tyX7, rfl, rfl, by decide +kernel, by decide +kernel, uw7, tb_2 45 rfl rfl, tyX7_ok, nmX7, fun h => by cases h⟩
theorem lkRX7_11 : LnkOK MT RX7 (3, 102, 48, 1, 6, 0) := ⟨cal48, tb_2 116 rfl rfl, tb_2 117 rfl rfl, tb_2 118 rfl rfl, (RX6, TX6, 5), rfl, rfl⟩
theorem lkRX7_12 : LnkOK MT RX7 (3, 106, 99, 1, 7, 0) := ⟨cal99, tb_2 155 rfl rfl, tb_2 157 rfl rfl, tb_p 3 rfl rfl, (RX7, TX7, 16), rfl, rfl⟩
theorem lkRX7_13 : LnkOK MT RX7 (4, 109, 100, 1, 0, 0) := ⟨cal100, Or.inl (tb_2 159 rfl rfl), tb_2 160 rfl rfl⟩
theorem lkRX7_14 : LnkOK MT RX7 (3, 112, 97, 1, 7, 0) := ⟨cal97, tb_2 162 rfl rfl, tb_2 164 rfl rfl, tb_p 4 rfl rfl, (RX7, TX7, 16), rfl, rfl⟩
theorem lkRX7_15 : LnkOK MT RX7 (0, 115, 3, 2, 2, 0) := ⟨RX3, TX3, 8, tyX3, rfl, rfl, by decide +kernel, by decide +kernel, uw3, tb_1 39 rfl rfl, tyX3_ok, nmX3, fun h => by cases h⟩
theorem lkRX7_16 : LnkOK MT RX7 (3, 118, 8, 4, 2, 0) := ⟨cal8, tb_2 167 rfl rfl, tb_2 168 rfl rfl, tb_2 169 rfl rfl, (RX2, TX2, 3), rfl, rfl⟩
theorem lkRX7_17 : LnkOK MT RX7 (0, 122, 3, 1, 2, 0) := ⟨RX3, TX3, 8, tyX3, rfl, rfl, by decide +kernel, by decide +kernel, uw3, tb_1 36 rfl rfl, tyX3_ok, nmX3, fun h => by cases h⟩
theorem lkRX7_18 : LnkOK MT RX7 (3, 125, 51, 0, 6, 0) := ⟨cal51, tb_2 182 rfl rfl, tb_2 183 rfl rfl, tb_2 184 rfl rfl, (RX6, TX6, 5), rfl, rfl⟩
theorem lkRX7_19 : LnkOK MT RX7 (4, 129, 112, 2, 0, 0) := ⟨cal112, Or.inl (tb_2 186 rfl rfl), tb_2 141 rfl rfl⟩
theorem lkRX7_20 : LnkOK MT RX7 (0, 133, 6, 2, 2, 0) := ⟨RX6, TX6, 5, tyX6, rfl, rfl, by decide +kernel, by decide +kernel, uw6, tb_1 139 rfl rfl, tyX6_ok, nmX6, fun h => by cases h⟩
theorem lkRX7_21 : LnkOK MT RX7 (4, 136, 114, 1, 0, 0) := ⟨cal114, Or.inl (tb_2 187 rfl rfl), tb_2 188 rfl rfl⟩
theorem lkRX7_22 : LnkOK MT RX7 (0, 140, 6, 0, 0, 0) := ⟨RX6, TX6, 5, tyX6, rfl, rfl, by decide +kernel, by decide +kernel, uw6, tb_1 132 rfl rfl, tyX6_ok, nmX6, fun h => by cases h⟩
theorem lkRX7_23 : LnkOK MT RX7 (0, 141, 6, 3, 2, 0) := ⟨RX6, TX6, 5, tyX6, rfl, rfl, by decide +kernel, by decide +kernel, uw6, tb_1 142 rfl rfl, tyX6_ok, nmX6, fun h => by cases h⟩
theorem lkRX7_24 : LnkOK MT RX7 (2, 145, 1000, 0, 0, 0) := ⟨0, by decide, rfl, Or.inl (tb_2 198 rfl rfl)⟩
theorem lkRX7_25 : LnkOK MT RX7 (0, 148, 6, 4, 2, 0) := ⟨RX6, TX6, 5, tyX6, rfl, rfl, by decide +kernel, by decide +kernel, uw6, tb_1 145 rfl rfl, tyX6_ok, nmX6, fun h => by cases h⟩
theorem lkRX7_26 : LnkOK MT RX7 (0, 152, 1, 3, 0, 0) := ⟨RX1, TX1, 6, tyX1, rfl, rfl, by decide +kernel, by decide +kernel, uw1, tb_1 109 rfl rfl, tyX1_ok, nmX1, fun h => by cases h⟩
theorem lkRX7_27 : LnkOK MT RX7 (3, 157, 53, 0, 6, 0) := ⟨cal53, tb_2 204 rfl rfl, tb_2 205 rfl rfl, tb_2 206 rfl rfl, (RX6, TX6, 5), rfl, rfl⟩
theorem lkRX7_28 : LnkOK MT RX7 (3, 160, 104, 1, 7, 0) := ⟨cal104, tb_2 212 rfl rfl, tb_2 214 rfl rfl, tb_p 5 rfl rfl, (RX7, TX7, 16), rfl, rfl⟩
theorem lkRX7_29 : LnkOK MT RX7 (3, 163, 52, 1, 6, 0) := ⟨cal52, tb_2 216 rfl rfl, tb_2 217 rfl rfl, tb_2 218 rfl rfl, (RX6, TX6, 5), rfl, rfl⟩
theorem lkRX7_30 : LnkOK MT RX7 (0, 68, 7, 12, 2, 0) := ⟨RX7, TX7, 16, tyX7, rfl, rfl, by decide +kernel, by decide +kernel, uw7, tb_2 53 rfl rfl, tyX7_ok, nmX7, fun h => by cases h⟩
theorem lkRX7_31 : LnkOK MT RX7 (3, 166, 7, 2, 1, 0) := ⟨cal7, tb_2 222 rfl rfl, tb_2 223 rfl rfl, tb_2 224 rfl rfl, (RX1, TX1, 6), rfl, rfl⟩
theorem lkRX7_32 : LnkOK MT RX7 (4, 170, 107, 1, 0, 0) := ⟨cal107, Or.inl (tb_2 238 rfl rfl), tb_2 239 rfl rfl⟩
theorem lkRX7_33 : LnkOK MT RX7 (3, 173, 108, 1, 7, 0) := ⟨cal108, tb_3 1 rfl rfl, tb_3 3 rfl rfl, tb_p 6 rfl rfl, (RX7, TX7, 16), rfl, rfl⟩
theorem lkRX7_34 : LnkOK MT RX7 (0, 71, 7, 13, 2, 0) := ⟨RX7, TX7, 16, tyX7, rfl, rfl, by decide +kernel, by decide +kernel, uw7, tb_2 54 rfl rfl, tyX7_ok, nmX7, fun h => by cases h⟩
theorem lkRX7_35 : LnkOK MT RX7 (3, 176, 110, 3, 7, 0) := ⟨cal110, tb_3 5 rfl rfl, tb_3 7 rfl rfl, tb_p 7 rfl rfl, (RX7, TX7, 16), rfl, rfl⟩
theorem lkRX7_36 : LnkOK MT RX7 (3, 180, 54, 1, 6, 0) := ⟨cal54, tb_3 13 rfl rfl, tb_3 14 rfl rfl, tb_3 15 rfl rfl, (RX6, TX6, 5), rfl, rfl⟩
theorem lkRX7_37 : LnkOK MT RX7 (3, 183, 98, 1, 7, 0) := ⟨cal98, tb_3 28 rfl rfl, tb_3 30 rfl rfl, tb_p 9 rfl rfl, (RX7, TX7, 16), rfl, rfl⟩
theorem lkRX7_38 : LnkOK MT RX7 (4, 187, 102, 1, 0, 0) := ⟨cal102, Or.inl (tb_3 33 rfl rfl), tb_3 34 rfl rfl⟩
theorem lkRX7_39 : LnkOK MT RX7 (4, 190, 116, 3, 0, 0) := ⟨cal116, Or.inl (tb_3 36 rfl rfl), tb_3 37 rfl rfl⟩
theorem lkRX7_40 : LnkOK MT RX7 (0, 45, 7, 6, 2, 0) := ⟨RX7, TX7, 16, tyX7, rfl, rfl, by decide +kernel, by decide +kernel, uw7, tb_2 47 rfl rfl, tyX7_ok, nmX7, fun h => by cases h⟩
theorem lkRX7_41 : LnkOK MT RX7 (3, 194, 38, 0, 5, 0) := ⟨cal38, tb_3 44 rfl rfl, tb_3 45 rfl rfl, tb_3 46 rfl rfl, (RX5, TX5, 7), rfl, rfl⟩
theorem lkRX7_42 : LnkOK MT RX7 (3, 197, 40, 0, 5, 0) := ⟨cal40, tb_3 55 rfl rfl, tb_3 56 rfl rfl, tb_3 57 rfl rfl, (RX5, TX5, 7), rfl, rfl⟩
theorem lkRX7_43 : LnkOK MT RX7 (0, 200, 5, 2, 0, 0) := ⟨RX5, TX5, 7, tyX5, rfl, rfl, by decide +kernel, by decide +kernel, uw5, tb_1 208 rfl rfl, tyX5_ok, nmX5, fun h => by cases h⟩
theorem lkRX7_44 : LnkOK MT RX7 (0, 203, 5, 1, 2, 0) := ⟨RX5, TX5, 7, tyX5, rfl, rfl, by decide +kernel, by decide +kernel, uw5, tb_1 206 rfl rfl, tyX5_ok, nmX5, fun h => by cases h⟩
theorem lkRX7_45 : LnkOK MT RX7 (3, 206, 105, 1, 7, 0) := ⟨cal105, tb_3 69 rfl rfl, tb_3 71 rfl rfl, tb_p 10 rfl rfl, (RX7, TX7, 16), rfl, rfl⟩
theorem lkRX7_46 : LnkOK MT RX7 (0, 38, 7, 5, 2, 0) := ⟨RX7, TX7, 16, tyX7, rfl, rfl, by decide +kernel, by decide +kernel, uw7, tb_2 46 rfl rfl, tyX7_ok, nmX7, fun h => by cases h⟩
theorem lkRX7_47 : LnkOK MT RX7 (3, 209, 0, 1, 0, 0) := ⟨cal0, tb_3 73 rfl rfl, tb_3 74 rfl rfl, tb_3 75 rfl rfl, (RX0, TX0, 9), rfl, rfl⟩
theorem lkRX7_48 : LnkOK MT RX7 (3, 212, 106, 2, 7, 0) := ⟨cal106, tb_3 88 rfl rfl, tb_3 90 rfl rfl, tb_p 11 rfl rfl, (RX7, TX7, 16), rfl, rfl⟩
theorem lkRX7_49 : LnkOK MT RX7 (0, 216, 0, 1, 2, 0) := ⟨RX0, TX0, 9, tyX0, rfl, rfl, by decide +kernel, by decide +kernel, uw0, tb_1 167 rfl rfl, tyX0_ok, nmX0, fun h => by cases h⟩
theorem lkRX7_50 : LnkOK MT RX7 (3, 219, 2, 0, 0, 0) := ⟨cal2, tb_3 96 rfl rfl, tb_3 97 rfl rfl, tb_3 98 rfl rfl, (RX0, TX0, 9), rfl, rfl⟩
theorem lkRX7_51 : LnkOK MT RX7 (0, 222, 0, 4, 0, 0) := ⟨RX0, TX0, 9, tyX0, rfl, rfl, by decide +kernel, by decide +kernel, uw0, tb_1 171 rfl rfl, tyX0_ok, nmX0, fun h => by cases h⟩
theorem lkRX7_52 : LnkOK MT RX7 (0, 225, 0, 6, 0, 0) := ⟨RX0, TX0, 9, tyX0, rfl, rfl, by decide +kernel, by decide +kernel, uw0, tb_1 175 rfl rfl, tyX0_ok, nmX0, fun h => by cases h⟩
theorem lkRX7_53 : LnkOK MT RX7 (0, 228, 0, 7, 0, 0) := ⟨RX0, TX0, 9, tyX0, rfl, rfl, by decide +kernel, by decide +kernel, uw0, tb_1 177 rfl rfl, tyX0_ok, nmX0, fun h => by cases h⟩
theorem lkRX7_54 : LnkOK MT RX7 (3, 231, 1, 0, 0, 0) := ⟨cal1, tb_3 116 rfl rfl, tb_3 106 rfl rfl, tb_3 107 rfl rfl, (RX0, TX0, 9), rfl, rfl⟩
theorem lkRX7_55 : LnkOK MT RX7 (0, 235, 0, 5, 0, 0) := ⟨RX0, TX0, 9, tyX0, rfl, rfl, by decide +kernel, by decide +kernel, uw0, tb_1 173 rfl rfl, tyX0_ok, nmX0, fun h => by cases h⟩
theorem lkRX7_56 : LnkOK MT RX7 (0, 238, 3, 3, 2, 0) := ⟨RX3, TX3, 8, tyX3, rfl, rfl, by decide +kernel, by decide +kernel, uw3, tb_1 43 rfl rfl, tyX3_ok, nmX3, fun h => by cases h⟩
theorem lkRX7_57 : LnkOK MT RX7 (0, 241, 3, 4, 2, 0) := ⟨RX3, TX3, 8, tyX3, rfl, rfl, by decide +kernel, by decide +kernel, uw3, tb_1 46 rfl rfl, tyX3_ok, nmX3, fun h => by cases h⟩
theorem lkRX7_58 : LnkOK MT RX7 (3, 244, 15, 1, 3, 0) := ⟨cal15, tb_3 129 rfl rfl, tb_3 130 rfl rfl, tb_3 131 rfl rfl, (RX3, TX3, 8), rfl, rfl⟩
theorem lkRX7_59 : LnkOK MT RX7 (4, 247, 113, 1, 0, 0) := ⟨cal113, Or.inl (tb_3 137 rfl rfl), tb_3 138 rfl rfl⟩
theorem lkRX7_60 : LnkOK MT RX7 (3, 251, 17, 1, 3, 0) := ⟨cal17, tb_3 140 rfl rfl, tb_3 141 rfl rfl, tb_3 142 rfl rfl, (RX3, TX3, 8), rfl, rfl⟩
theorem lkRX7_61 : LnkOK MT RX7 (3, 254, 111, 1, 7, 0) := ⟨cal111, tb_3 149 rfl rfl, tb_3 151 rfl rfl, tb_p 13 rfl rfl, (RX7, TX7, 16), rfl, rfl⟩
theorem lkRX7_62 : LnkOK MT RX7 (4, 257, 103, 1, 0, 0) := ⟨cal103, Or.inl (tb_3 167 rfl rfl), tb_3 168 rfl rfl⟩
theorem lkRX7_63 : LnkOK MT RX7 (3, 260, 18, 3, 3, 0) := ⟨cal18, tb_3 155 rfl rfl, tb_3 156 rfl rfl, tb_3 157 rfl rfl, (RX3, TX3, 8), rfl, rfl⟩
theorem lkRX7_64 : LnkOK MT RX7 (2, 264, 1004, 0, 0, 0) := ⟨4, by decide, rfl, Or.inl (tb_3 153 rfl rfl)⟩
theorem lkRX7_65 : LnkOK MT RX7 (0, 74, 7, 14, 2, 0) := ⟨RX7, TX7, 16, tyX7, rfl, rfl, by decide +kernel, by decide +kernel, uw7, tb_2 55 rfl rfl, tyX7_ok, nmX7, fun h => by cases h⟩
theorem lkRX7_66 : LnkOK MT RX7 (3, 267, 45, 2, 5, 0) := ⟨cal45, tb_3 182 rfl rfl, tb_3 183 rfl rfl, tb_3 184 rfl rfl, (RX5, TX5, 7), rfl, rfl⟩
theorem lkRX7_67 : LnkOK MT RX7 (3, 271, 42, 1, 5, 0) := ⟨cal42, tb_3 198 rfl rfl, tb_3 199 rfl rfl, tb_3 200 rfl rfl, (RX5, TX5, 7), rfl, rfl⟩
theorem lkRX7_68 : LnkOK MT RX7 (0, 52, 7, 7, 2, 0) := ⟨RX7, TX7, 16, tyX7, rfl, rfl, by decide +kernel, by decide +kernel, uw7, tb_2 48 rfl rfl, tyX7_ok, nmX7, fun h => by cases h⟩
theorem lkRX7_69 : LnkOK MT RX7 (3, 274, 20, 2, 4, 0) := ⟨cal20, tb_3 218 rfl rfl, tb_3 219 rfl rfl, tb_3 220 rfl rfl, (RX4, TX4, 13), rfl, rfl⟩
theorem lkRX7_70 : LnkOK MT RX7 (0, 278, 4, 4, 0, 0) := ⟨RX4, TX4, 13, tyX4, rfl, rfl, by decide +kernel, by decide +kernel, uw4, tb_2 0 rfl rfl, tyX4_ok, nmX4, fun h => by cases h⟩
theorem lkRX7_71 : LnkOK MT RX7 (0, 281, 4, 5, 0, 0) := ⟨RX4, TX4, 13, tyX4, rfl, rfl, by decide +kernel, by decide +kernel, uw4, tb_2 2 rfl rfl, tyX4_ok, nmX4, fun h => by cases h⟩
theorem lkRX7_72 : LnkOK MT RX7 (3, 284, 13, 3, 3, 0) := ⟨cal13, tb_4 40 rfl rfl, tb_4 41 rfl rfl, tb_4 42 rfl rfl, (RX3, TX3, 8), rfl, rfl⟩
theorem lkRX7_73 : LnkOK MT RX7 (3, 288, 14, 0, 3, 0) := ⟨cal14, tb_4 50 rfl rfl, tb_4 51 rfl rfl, tb_4 52 rfl rfl, (RX3, TX3, 8), rfl, rfl⟩
theorem lkRX7_74 : LnkOK MT RX7 (0, 292, 3, 5, 2, 0) := ⟨RX3, TX3, 8, tyX3, rfl, rfl, by decide +kernel, by decide +kernel, uw3, tb_1 48 rfl rfl, tyX3_ok, nmX3, fun h => by cases h⟩
theorem lkRX7_75 : LnkOK MT RX7 (0, 293, 3, 6, 0, 0) := ⟨RX3, TX3, 8, tyX3, rfl, rfl, by decide +kernel, by decide +kernel, uw3, tb_1 50 rfl rfl, tyX3_ok, nmX3, fun h => by cases h⟩
theorem lkRX7_76 : LnkOK MT RX7 (3, 296, 36, 0, 4, 0) := ⟨cal36, tb_4 54 rfl rfl, tb_4 55 rfl rfl, tb_4 56 rfl rfl, (RX4, TX4, 13), rfl, rfl⟩
theorem lkRX7_77 : LnkOK MT RX7 (3, 299, 37, 0, 4, 0) := ⟨cal37, tb_4 58 rfl rfl, tb_4 59 rfl rfl, tb_4 60 rfl rfl, (RX4, TX4, 13), rfl, rfl⟩
theorem lkRX7_78 : LnkOK MT RX7 (0, 302, 4, 6, 0, 0) := ⟨RX4, TX4, 13, tyX4, rfl, rfl, by decide +kernel, by decide +kernel, uw4, tb_2 4 rfl rfl, tyX4_ok, nmX4, fun h => by cases h⟩
theorem lkRX7_79 : LnkOK MT RX7 (0, 305, 4, 11, 2, 0) := ⟨RX4, TX4, 13, tyX4, rfl, rfl, by decide +kernel, by decide +kernel, uw4, tb_2 10 rfl rfl, tyX4_ok, nmX4, fun h => by cases h⟩
theorem lkRX7_80 : LnkOK MT RX7 (0, 308, 4, 12, 2, 0) := ⟨RX4, TX4, 13, tyX4, rfl, rfl, by decide +kernel, by decide +kernel, uw4, tb_2 12 rfl rfl, tyX4_ok, nmX4, fun h => by cases h⟩
theorem lkRX7_81 : LnkOK MT RX7 (3, 311, 35, 1, 4, 0) := ⟨cal35, tb_4 66 rfl rfl, tb_4 67 rfl rfl, tb_4 68 rfl rfl, (RX4, TX4, 13), rfl, rfl⟩
theorem lkRX7_82 : LnkOK MT RX7 (6, 314, 0, 0, 0, 1664525) := tb_4 78 rfl rfl
theorem lkRX7_83 : LnkOK MT RX7 (6, 315, 0, 0, 0, 1013904223) := tb_4 79 rfl rfl
theorem lkRX7_84 : LnkOK MT RX7 (6, 316, 0, 0, 0, 2147483647) := tb_4 80 rfl rfl
theorem lkRX7_85 : LnkOK MT RX7 (3, 317, 55, 1, 6, 0) := ⟨cal55, tb_4 81 rfl rfl, tb_3 18 rfl rfl, tb_3 19 rfl rfl, (RX6, TX6, 5), rfl, rfl⟩
theorem lkRX7_86 : LnkOK MT RX7 (0, 62, 7, 10, 2, 0) := ⟨RX7, TX7, 16, tyX7, rfl, rfl, by decide +kernel, by decide +kernel, uw7, tb_2 51 rfl rfl, tyX7_ok, nmX7, fun h => by cases h⟩
theorem lkRX7_87 : LnkOK MT RX7 (4, 320, 230, 2, 0, 0) := ⟨cal230, Or.inl (tb_4 86 rfl rfl), tb_2 110 rfl rfl⟩
theorem lkRX7_88 : LnkOK MT RX7 (0, 65, 7, 11, 2, 0) := ⟨RX7, TX7, 16, tyX7, rfl, rfl, by decide +kernel, by decide +kernel, uw7, tb_2 52 rfl rfl, tyX7_ok, nmX7, fun h => by cases h⟩
theorem lkRX7_89 : LnkOK MT RX7 (3, 325, 109, 2, 7, 0) := ⟨cal109, tb_3 9 rfl rfl, tb_3 11 rfl rfl, tb_p 8 rfl rfl, (RX7, TX7, 16), rfl, rfl⟩
theorem lkRX7_90 : LnkOK MT RX7 (8, 328, 0, 0, 0, 0) := ⟨tb_4 99 rfl rfl, tb_2 125 rfl rfl, tb_2 124 rfl rfl, tb_1 11 rfl rfl⟩
theorem lkRX7_91 : LnkOK MT RX7 (0, 334, 2, 2, 0, 0) := ⟨RX2, TX2, 3, tyX2, rfl, rfl, by decide +kernel, by decide +kernel, uw2, tb_1 81 rfl rfl, tyX2_ok, nmX2, fun h => by cases h⟩
theorem lkRX7_92 : LnkOK MT RX7 (3, 335, 10, 1, 2, 0) := ⟨cal10, tb_4 108 rfl rfl, tb_4 109 rfl rfl, tb_4 110 rfl rfl, (RX2, TX2, 3), rfl, rfl⟩
theorem lkRX7_93 : LnkOK MT RX7 (0, 16, 7, 1, 2, 0) := ⟨RX7, TX7, 16, tyX7, rfl, rfl, by decide +kernel, by decide +kernel, uw7, tb_2 42 rfl rfl, tyX7_ok, nmX7, fun h => by cases h⟩
theorem lkRX7_94 : LnkOK MT RX7 (3, 338, 11, 1, 3, 0) := ⟨cal11, tb_4 119 rfl rfl, tb_4 120 rfl rfl, tb_4 121 rfl rfl, (RX3, TX3, 8), rfl, rfl⟩
theorem lkRX7_95 : LnkOK MT RX7 (1, 341, 7, 2, 3, 0) := ⟨RX7, TX7, 16, tyX7, rfl, rfl, by decide +kernel, by decide +kernel, uw7, tb_2 43 rfl rfl, tyX7_ok, nmX7, fun _ => ⟨by decide +kernel, by decide +kernel⟩⟩
theorem lkRX7_96 : LnkOK MT RX7 (0, 341, 7, 2, 3, 0) := ⟨RX7, TX7, 16, tyX7, rfl, rfl, by decide +kernel, by decide +kernel, uw7, tb_2 43 rfl rfl, tyX7_ok, nmX7, fun h => by cases h⟩
theorem lkRX7_97 : LnkOK MT RX7 (3, 345, 16, 0, 3, 0) := ⟨cal16, tb_4 132 rfl rfl, tb_3 145 rfl rfl, tb_3 146 rfl rfl, (RX3, TX3, 8), rfl, rfl⟩
theorem lkRX7_98 : LnkOK MT RX7 (0, 348, 3, 7, 0, 0) := ⟨RX3, TX3, 8, tyX3, rfl, rfl, by decide +kernel, by decide +kernel, uw3, tb_1 52 rfl rfl, tyX3_ok, nmX3, fun h => by cases h⟩
theorem lkRX7_99 : LnkOK MT RX7 (0, 77, 7, 15, 2, 0) := ⟨RX7, TX7, 16, tyX7, rfl, rfl, by decide +kernel, by decide +kernel, uw7, tb_2 56 rfl rfl, tyX7_ok, nmX7, fun h => by cases h⟩
theorem lkRX7_100 : LnkOK MT RX7 (6, 349, 0, 0, 0, 1000000000) := tb_2 166 rfl rfl
theorem lkRX7_101 : LnkOK MT RX7 (7, 350, 0, 0, 0, 4000000000000000000) := tb_3 32 rfl rfl
theorem lkRX7_102 : LnkOK MT RX7 (10, 352, 0, 0, 0, 0) := ⟨tb_2 230 rfl rfl, tb_2 231 rfl rfl, tb_1 12 rfl rfl, tb_2 232 rfl rfl⟩
theorem lkRX7_103 : LnkOK MT RX7 (4, 358, 115, 2, 0, 0) := ⟨cal115, Or.inl (tb_3 39 rfl rfl), tb_2 228 rfl rfl⟩
def lkRX7 : List Lnk := [(3, 80, 96, 1, 7, 0), (0, 84, 7, 9, 0, 0), (0, 56, 7, 8, 2, 0), (1, 84, 7, 9, 0, 0), (4, 88, 101, 1, 0, 0), (0, 10, 7, 0, 2, 0), (0, 92, 3, 0, 0, 0), (3, 95, 12, 1, 3, 0), (0, 22, 7, 3, 2, 0), (3, 99, 9, 0, 2, 0), (0, 29, 7, 4, 2, 0), (3, 102, 48, 1, 6, 0), (3, 106, 99, 1, 7, 0), (4, 109, 100, 1, 0, 0), (3, 112, 97, 1, 7, 0), (0, 115, 3, 2, 2, 0), (3, 118, 8, 4, 2, 0), (0, 122, 3, 1, 2, 0), (3, 125, 51, 0, 6, 0), (4, 129, 112, 2, 0, 0), (0, 133, 6, 2, 2, 0), (4, 136, 114, 1, 0, 0), (0, 140, 6, 0, 0, 0), (0, 141, 6, 3, 2, 0), (2, 145, 1000, 0, 0, 0), (0, 148, 6, 4, 2, 0), (0, 152, 1, 3, 0, 0), (3, 157, 53, 0, 6, 0), (3, 160, 104, 1, 7, 0), (3, 163, 52, 1, 6, 0), (0, 68, 7, 12, 2, 0), (3, 166, 7, 2, 1, 0), (4, 170, 107, 1, 0, 0), (3, 173, 108, 1, 7, 0), (0, 71, 7, 13, 2, 0), (3, 176, 110, 3, 7, 0), (3, 180, 54, 1, 6, 0), (3, 183, 98, 1, 7, 0), (4, 187, 102, 1, 0, 0), (4, 190, 116, 3, 0, 0), (0, 45, 7, 6, 2, 0), (3, 194, 38, 0, 5, 0), (3, 197, 40, 0, 5, 0), (0, 200, 5, 2, 0, 0), (0, 203, 5, 1, 2, 0), (3, 206, 105, 1, 7, 0), (0, 38, 7, 5, 2, 0), (3, 209, 0, 1, 0, 0), (3, 212, 106, 2, 7, 0), (0, 216, 0, 1, 2, 0), (3, 219, 2, 0, 0, 0), (0, 222, 0, 4, 0, 0), (0, 225, 0, 6, 0, 0), (0, 228, 0, 7, 0, 0), (3, 231, 1, 0, 0, 0), (0, 235, 0, 5, 0, 0), (0, 238, 3, 3, 2, 0), (0, 241, 3, 4, 2, 0), (3, 244, 15, 1, 3, 0), (4, 247, 113, 1, 0, 0), (3, 251, 17, 1, 3, 0), (3, 254, 111, 1, 7, 0), (4, 257, 103, 1, 0, 0), (3, 260, 18, 3, 3, 0), (2, 264, 1004, 0, 0, 0), (0, 74, 7, 14, 2, 0), (3, 267, 45, 2, 5, 0), (3, 271, 42, 1, 5, 0), (0, 52, 7, 7, 2, 0), (3, 274, 20, 2, 4, 0), (0, 278, 4, 4, 0, 0), (0, 281, 4, 5, 0, 0), (3, 284, 13, 3, 3, 0), (3, 288, 14, 0, 3, 0), (0, 292, 3, 5, 2, 0), (0, 293, 3, 6, 0, 0), (3, 296, 36, 0, 4, 0), (3, 299, 37, 0, 4, 0), (0, 302, 4, 6, 0, 0), (0, 305, 4, 11, 2, 0), (0, 308, 4, 12, 2, 0), (3, 311, 35, 1, 4, 0), (6, 314, 0, 0, 0, 1664525), (6, 315, 0, 0, 0, 1013904223), (6, 316, 0, 0, 0, 2147483647), (3, 317, 55, 1, 6, 0), (0, 62, 7, 10, 2, 0), (4, 320, 230, 2, 0, 0), (0, 65, 7, 11, 2, 0), (3, 325, 109, 2, 7, 0), (8, 328, 0, 0, 0, 0), (0, 334, 2, 2, 0, 0), (3, 335, 10, 1, 2, 0), (0, 16, 7, 1, 2, 0), (3, 338, 11, 1, 3, 0), (1, 341, 7, 2, 3, 0), (0, 341, 7, 2, 3, 0), (3, 345, 16, 0, 3, 0), (0, 348, 3, 7, 0, 0), (0, 77, 7, 15, 2, 0), (6, 349, 0, 0, 0, 1000000000), (7, 350, 0, 0, 0, 4000000000000000000), (10, 352, 0, 0, 0, 0), (4, 358, 115, 2, 0, 0)]
theorem lkRX7_ok : ∀ q ∈ lkRX7, LnkOK MT RX7 q := List.forall_mem_cons.mpr ⟨lkRX7_0, List.forall_mem_cons.mpr ⟨lkRX7_1, List.forall_mem_cons.mpr ⟨lkRX7_2, List.forall_mem_cons.mpr ⟨lkRX7_3, List.forall_mem_cons.mpr ⟨lkRX7_4, List.forall_mem_cons.mpr ⟨lkRX7_5, List.forall_mem_cons.mpr ⟨lkRX7_6, List.forall_mem_cons.mpr ⟨lkRX7_7, List.forall_mem_cons.mpr ⟨lkRX7_8, List.forall_mem_cons.mpr ⟨lkRX7_9, List.forall_mem_cons.mpr ⟨lkRX7_10, List.forall_mem_cons.mpr ⟨lkRX7_11, List.forall_mem_cons.mpr ⟨lkRX7_12, List.forall_mem_cons.mpr ⟨lkRX7_13, List.forall_mem_cons.mpr ⟨lkRX7_14, List.forall_mem_cons.mpr ⟨lkRX7_15, List.forall_mem_cons.mpr ⟨lkRX7_16, List.forall_mem_cons.mpr ⟨lkRX7_17, List.forall_mem_cons.mpr ⟨lkRX7_18, List.forall_mem_cons.mpr ⟨lkRX7_19, List.forall_mem_cons.mpr ⟨lkRX7_20, List.forall_mem_cons.mpr ⟨lkRX7_21, List.forall_mem_cons.mpr ⟨lkRX7_22, List.forall_mem_cons.mpr ⟨lkRX7_23, List.forall_mem_cons.mpr ⟨lkRX7_24, List.forall_mem_cons.mpr ⟨lkRX7_25, List.forall_mem_cons.mpr ⟨lkRX7_26, List.forall_mem_cons.mpr ⟨lkRX7_27, List.forall_mem_cons.mpr ⟨lkRX7_28, List.forall_mem_cons.mpr ⟨lkRX7_29, List.forall_mem_cons.mpr ⟨lkRX7_30, List.forall_mem_cons.mpr ⟨lkRX7_31, List.forall_mem_cons.mpr ⟨lkRX7_32, List.forall_mem_cons.mpr ⟨lkRX7_33, List.forall_mem_cons.mpr ⟨lkRX7_34, List.forall_mem_cons.mpr ⟨lkRX7_35, List.forall_mem_cons.mpr ⟨lkRX7_36, List.forall_mem_cons.mpr ⟨lkRX7_37, List.forall_mem_cons.mpr ⟨lkRX7_38, List.forall_mem_cons.mpr ⟨lkRX7_39, List.forall_mem_cons.mpr ⟨lkRX7_40, List.forall_mem_cons.mpr ⟨lkRX7_41, List.forall_mem_cons.mpr ⟨lkRX7_42, List.forall_mem_cons.mpr ⟨lkRX7_43, List.forall_mem_cons.mpr ⟨lkRX7_44, List.forall_mem_cons.mpr ⟨lkRX7_45, List.forall_mem_cons.mpr ⟨lkRX7_46, List.forall_mem_cons.mpr ⟨lkRX7_47, List.forall_mem_cons.mpr ⟨lkRX7_48, List.forall_mem_cons.mpr ⟨lkRX7_49, List.forall_mem_cons.mpr ⟨lkRX7_50, List.forall_mem_cons.mpr ⟨lkRX7_51, List.forall_mem_cons.mpr ⟨lkRX7_52, List.forall_mem_cons.mpr ⟨lkRX7_53, List.forall_mem_cons.mpr ⟨lkRX7_54, List.forall_mem_cons.mpr ⟨lkRX7_55, List.forall_mem_cons.mpr ⟨lkRX7_56, List.forall_mem_cons.mpr ⟨lkRX7_57, List.forall_mem_cons.mpr ⟨lkRX7_58, List.forall_mem_cons.mpr ⟨lkRX7_59, List.forall_mem_cons.mpr ⟨lkRX7_60, List.forall_mem_cons.mpr ⟨lkRX7_61, List.forall_mem_cons.mpr ⟨lkRX7_62, List.forall_mem_cons.mpr ⟨lkRX7_63, List.forall_mem_cons.mpr ⟨lkRX7_64, List.forall_mem_cons.mpr ⟨lkRX7_65, List.forall_mem_cons.mpr ⟨lkRX7_66, List.forall_mem_cons.mpr ⟨lkRX7_67, List.forall_mem_cons.mpr ⟨lkRX7_68, List.forall_mem_cons.mpr ⟨lkRX7_69, List.forall_mem_cons.mpr ⟨lkRX7_70, List.forall_mem_cons.mpr ⟨lkRX7_71, List.forall_mem_cons.mpr ⟨lkRX7_72, List.forall_mem_cons.mpr ⟨lkRX7_73, List.forall_mem_cons.mpr ⟨lkRX7_74, List.forall_mem_cons.mpr ⟨lkRX7_75, List.forall_mem_cons.mpr ⟨lkRX7_76, List.forall_mem_cons.mpr ⟨lkRX7_77, List.forall_mem_cons.mpr ⟨lkRX7_78, List.forall_mem_cons.mpr ⟨lkRX7_79, List.forall_mem_cons.mpr ⟨lkRX7_80, List.forall_mem_cons.mpr ⟨lkRX7_81, List.forall_mem_cons.mpr ⟨lkRX7_82, List.forall_mem_cons.mpr ⟨lkRX7_83, List.forall_mem_cons.mpr ⟨lkRX7_84, List.forall_mem_cons.mpr ⟨lkRX7_85, List.forall_mem_cons.mpr ⟨lkRX7_86, List.forall_mem_cons.mpr ⟨lkRX7_87, List.forall_mem_cons.mpr ⟨lkRX7_88, List.forall_mem_cons.mpr ⟨lkRX7_89, List.forall_mem_cons.mpr ⟨lkRX7_90, List.forall_mem_cons.mpr ⟨lkRX7_91, List.forall_mem_cons.mpr ⟨lkRX7_92, List.forall_mem_cons.mpr ⟨lkRX7_93, List.forall_mem_cons.mpr ⟨lkRX7_94, List.forall_mem_cons.mpr ⟨lkRX7_95, List.forall_mem_cons.mpr ⟨lkRX7_96, List.forall_mem_cons.mpr ⟨lkRX7_97, List.forall_mem_cons.mpr ⟨lkRX7_98, List.forall_mem_cons.mpr ⟨lkRX7_99, List.forall_mem_cons.mpr ⟨lkRX7_100, List.forall_mem_cons.mpr ⟨lkRX7_101, List.forall_mem_cons.mpr ⟨lkRX7_102, List.forall_mem_cons.mpr ⟨lkRX7_103, fun _ h => absurd h List.not_mem_nil⟩⟩⟩⟩⟩⟩⟩⟩⟩⟩⟩⟩⟩⟩⟩⟩⟩⟩⟩⟩⟩⟩⟩⟩⟩⟩⟩⟩⟩⟩⟩⟩⟩⟩⟩⟩⟩⟩⟩⟩⟩⟩⟩⟩⟩⟩⟩⟩⟩⟩⟩⟩⟩⟩⟩⟩⟩⟩⟩⟩⟩⟩⟩⟩⟩⟩⟩⟩⟩⟩⟩⟩⟩⟩⟩⟩⟩⟩⟩⟩⟩⟩⟩⟩⟩⟩⟩⟩⟩⟩⟩⟩⟩⟩⟩⟩⟩⟩⟩⟩⟩⟩⟩⟩
theorem lkRX8_0 : LnkOK MT RX8 (0, 16, 8, 3, 2, 0) := ⟨RX8, TX8, 27, tyX8, rfl, rfl, by decide +kernel, by decide +kernel, uw8, tb_4 142 rfl rfl, tyX8_ok, nmX8, fun h => by cases h⟩
theorem lkRX8_1 : LnkOK MT RX8 (6, 63, 0, 0, 0, 1000000000) := tb_5 14 rfl rfl
theorem lkRX8_2 : LnkOK MT RX8 (3, 64, 120, 1, 8, 0) := ⟨cal120, tb_4 226 rfl rfl, tb_4 228 rfl rfl, tb_p 27 rfl rfl, (RX8, TX8, 27), rfl, rfl⟩
theorem lkRX8_3 : LnkOK MT RX8 (7, 68, 0, 0, 0, 4000000000000000000) := tb_5 137 rfl rfl
theorem lkRX8_4 : LnkOK MT RX8 (4, 70, 123, 2, 0, 0) := ⟨cal123, Or.inl (tb_5 54 rfl rfl), tb_5 55 rfl rfl⟩
theorem lkRX8_5 : LnkOK MT RX8 (0, 9, 8, 0, 2, 0) := ⟨RX8, TX8, 27, tyX8, rfl, rfl, by decide +kernel, by decide +kernel, uw8, tb_4 139 rfl rfl, tyX8_ok, nmX8, fun h => by cases h⟩
theorem lkRX8_6 : LnkOK MT RX8 (4, 74, 117, 3, 0, 0) := ⟨cal117, Or.inl (tb_4 235 rfl rfl), tb_4 236 rfl rfl⟩
theorem lkRX8_7 : LnkOK MT RX8 (7, 78, 0, 0, 0, 4) := tb_5 9 rfl rfl
theorem lkRX8_8 : LnkOK MT RX8 (7, 80, 0, 0, 0, 2) := tb_5 118 rfl rfl
theorem lkRX8_9 : LnkOK MT RX8 (0, 82, 8, 5, 0, 0) := ⟨RX8, TX8, 27, tyX8, rfl, rfl, by decide +kernel, by decide +kernel, uw8, tb_4 144 rfl rfl, tyX8_ok, nmX8, fun h => by cases h⟩
theorem lkRX8_10 : LnkOK MT RX8 (0, 19, 8, 4, 2, 0) := ⟨RX8, TX8, 27, tyX8, rfl, rfl, by decide +kernel, by decide +kernel, uw8, tb_4 143 rfl rfl, tyX8_ok, nmX8, fun h => by cases h⟩
theorem lkRX8_11 : LnkOK MT RX8 (1, 82, 8, 5, 0, 0) := ⟨RX8, TX8, 27, tyX8, rfl, rfl, by decide +kernel, by decide +kernel, uw8, tb_4 144 rfl rfl, tyX8_ok, nmX8, fun _ => ⟨by decide +kernel, by decide +kernel⟩⟩
theorem lkRX8_12 : LnkOK MT RX8 (7, 86, 0, 0, 0, 5) := tb_4 234 rfl rfl
theorem lkRX8_13 : LnkOK MT RX8 (1, 88, 8, 7, 0, 0) := ⟨RX8, TX8, 27, tyX8, rfl, rfl, by decide +kernel, by decide +kernel, uw8, tb_4 146 rfl rfl, tyX8_ok, nmX8, fun _ => ⟨by decide +kernel, by decide +kernel⟩⟩
theorem lkRX8_14 : LnkOK MT RX8 (0, 88, 8, 7, 0, 0) := ⟨RX8, TX8, 27, tyX8, rfl, rfl, by decide +kernel, by decide +kernel, uw8, tb_4 146 rfl rfl, tyX8_ok, nmX8, fun h => by cases h⟩
theorem lkRX8_15 : LnkOK MT RX8 (0, 22, 8, 6, 2, 0) := ⟨RX8, TX8, 27, tyX8, rfl, rfl, by decide +kernel, by decide +kernel, uw8, tb_4 145 rfl rfl, tyX8_ok, nmX8, fun h => by cases h⟩
theorem lkRX8_16 : LnkOK MT RX8 (3, 91, 125, 1, 8, 0) := ⟨cal125, tb_5 2 rfl rfl, tb_5 4 rfl rfl, tb_p 28 rfl rfl, (RX8, TX8, 27), rfl, rfl⟩
theorem lkRX8_17 : LnkOK MT RX8 (4, 95, 126, 1, 0, 0) := ⟨cal126, Or.inl (tb_5 6 rfl rfl), tb_5 7 rfl rfl⟩
theorem lkRX8_18 : LnkOK MT RX8 (3, 98, 121, 1, 8, 0) := ⟨cal121, tb_5 10 rfl rfl, tb_5 12 rfl rfl, tb_p 29 rfl rfl, (RX8, TX8, 27), rfl, rfl⟩
theorem lkRX8_19 : LnkOK MT RX8 (3, 101, 131, 2, 8, 0) := ⟨cal131, tb_5 15 rfl rfl, tb_5 17 rfl rfl, tb_p 30 rfl rfl, (RX8, TX8, 27), rfl, rfl⟩
theorem lkRX8_20 : LnkOK MT RX8 (3, 105, 134, 2, 8, 0) := ⟨cal134, tb_5 42 rfl rfl, tb_5 44 rfl rfl, tb_p 34 rfl rfl, (RX8, TX8, 27), rfl, rfl⟩
theorem lkRX8_21 : LnkOK MT RX8 (3, 109, 136, 2, 8, 0) := ⟨cal136, tb_5 73 rfl rfl, tb_5 75 rfl rfl, tb_p 39 rfl rfl, (RX8, TX8, 27), rfl, rfl⟩
theorem lkRX8_22 : LnkOK MT RX8 (3, 113, 147, 0, 8, 0) := ⟨cal147, tb_5 27 rfl rfl, tb_5 29 rfl rfl, tb_p 31 rfl rfl, (RX8, TX8, 27), rfl, rfl⟩
theorem lkRX8_23 : LnkOK MT RX8 (4, 117, 118, 2, 0, 0) := ⟨cal118, Or.inl (tb_5 39 rfl rfl), tb_5 40 rfl rfl⟩
theorem lkRX8_24 : LnkOK MT RX8 (3, 120, 135, 1, 8, 0) := ⟨cal135, tb_5 57 rfl rfl, tb_5 59 rfl rfl, tb_p 37 rfl rfl, (RX8, TX8, 27), rfl, rfl⟩
theorem lkRX8_25 : LnkOK MT RX8 (7, 123, 0, 0, 0, 10) := tb_5 61 rfl rfl
theorem lkRX8_26 : LnkOK MT RX8 (7, 125, 0, 0, 0, 14) := tb_5 62 rfl rfl
theorem lkRX8_27 : LnkOK MT RX8 (7, 127, 0, 0, 0, 20) := tb_5 63 rfl rfl
theorem lkRX8_28 : LnkOK MT RX8 (7, 129, 0, 0, 0, 24) := tb_5 64 rfl rfl
theorem lkRX8_29 : LnkOK MT RX8 (3, 131, 137, 1, 8, 0) := ⟨cal137, tb_5 69 rfl rfl, tb_5 71 rfl rfl, tb_p 38 rfl rfl, (RX8, TX8, 27), rfl, rfl⟩
theorem lkRX8_30 : LnkOK MT RX8 (4, 134, 140, 2, 0, 0) := ⟨cal140, Or.inl (tb_5 81 rfl rfl), tb_5 82 rfl rfl⟩
theorem lkRX8_31 : LnkOK MT RX8 (0, 25, 8, 8, 2, 0) := ⟨RX8, TX8, 27, tyX8, rfl, rfl, by decide +kernel, by decide +kernel, uw8, tb_4 147 rfl rfl, tyX8_ok, nmX8, fun h => by cases h⟩
theorem lkRX8_32 : LnkOK MT RX8 (3, 137, 142, 2, 8, 0) := ⟨cal142, tb_5 50 rfl rfl, tb_5 52 rfl rfl, tb_p 36 rfl rfl, (RX8, TX8, 27), rfl, rfl⟩
theorem lkRX8_33 : LnkOK MT RX8 (4, 140, 119, 1, 0, 0) := ⟨cal119, Or.inl (tb_5 88 rfl rfl), tb_5 89 rfl rfl⟩
theorem lkRX8_34 : LnkOK MT RX8 (3, 143, 144, 2, 8, 0) := ⟨cal144, tb_5 35 rfl rfl, tb_5 37 rfl rfl, tb_p 33 rfl rfl, (RX8, TX8, 27), rfl, rfl⟩
theorem lkRX8_35 : LnkOK MT RX8 (3, 146, 143, 2, 8, 0) := ⟨cal143, tb_5 46 rfl rfl, tb_5 48 rfl rfl, tb_p 35 rfl rfl, (RX8, TX8, 27), rfl, rfl⟩
theorem lkRX8_36 : LnkOK MT RX8 (0, 29, 8, 9, 2, 0) := ⟨RX8, TX8, 27, tyX8, rfl, rfl, by decide +kernel, by decide +kernel, uw8, tb_4 148 rfl rfl, tyX8_ok, nmX8, fun h => by cases h⟩
theorem lkRX8_37 : LnkOK MT RX8 (3, 150, 146, 2, 8, 0) := ⟨cal146, tb_5 31 rfl rfl, tb_5 33 rfl rfl, tb_p 32 rfl rfl, (RX8, TX8, 27), rfl, rfl⟩
theorem lkRX8_38 : LnkOK MT RX8 (3, 153, 148, 0, 8, 0) := ⟨cal148, tb_5 91 rfl rfl, tb_5 93 rfl rfl, tb_p 40 rfl rfl, (RX8, TX8, 27), rfl, rfl⟩
theorem lkRX8_39 : LnkOK MT RX8 (3, 156, 151, 0, 8, 0) := ⟨cal151, tb_5 95 rfl rfl, tb_5 97 rfl rfl, tb_p 41 rfl rfl, (RX8, TX8, 27), rfl, rfl⟩
theorem lkRX8_40 : LnkOK MT RX8 (3, 159, 149, 1, 8, 0) := ⟨cal149, tb_5 103 rfl rfl, tb_5 105 rfl rfl, tb_p 42 rfl rfl, (RX8, TX8, 27), rfl, rfl⟩
theorem lkRX8_41 : LnkOK MT RX8 (3, 162, 150, 1, 8, 0) := ⟨cal150, tb_5 107 rfl rfl, tb_5 109 rfl rfl, tb_p 43 rfl rfl, (RX8, TX8, 27), rfl, rfl⟩
theorem lkRX8_42 : LnkOK MT RX8 (0, 41, 8, 13, 2, 0) := ⟨RX8, TX8, 27, tyX8, rfl, rfl, by decide +kernel, by decide +kernel, uw8, tb_4 152 rfl rfl, tyX8_ok, nmX8, fun h => by cases h⟩
theorem lkRX8_43 : LnkOK MT RX8 (0, 35, 8, 11, 2, 0) := ⟨RX8, TX8, 27, tyX8, rfl, rfl, by decide +kernel, by decide +kernel, uw8, tb_4 150 rfl rfl, tyX8_ok, nmX8, fun h => by cases h⟩
theorem lkRX8_44 : LnkOK MT RX8 (0, 38, 8, 12, 2, 0) := ⟨RX8, TX8, 27, tyX8, rfl, rfl, by decide +kernel, by decide +kernel, uw8, tb_4 151 rfl rfl, tyX8_ok, nmX8, fun h => by cases h⟩
theorem lkRX8_45 : LnkOK MT RX8 (7, 166, 0, 0, 0, -99) := tb_5 123 rfl rfl
theorem lkRX8_46 : LnkOK MT RX8 (7, 168, 0, 0, 0, 99) := tb_5 124 rfl rfl
theorem lkRX8_47 : LnkOK MT RX8 (4, 170, 127, 1, 0, 0) := ⟨cal127, Or.inl (tb_5 115 rfl rfl), tb_5 116 rfl rfl⟩
theorem lkRX8_48 : LnkOK MT RX8 (3, 173, 154, 2, 8, 0) := ⟨cal154, tb_5 119 rfl rfl, tb_5 121 rfl rfl, tb_p 44 rfl rfl, (RX8, TX8, 27), rfl, rfl⟩
theorem lkRX8_49 : LnkOK MT RX8 (3, 176, 155, 0, 8, 0) := ⟨cal155, tb_5 125 rfl rfl, tb_5 127 rfl rfl, tb_p 45 rfl rfl, (RX8, TX8, 27), rfl, rfl⟩
theorem lkRX8_50 : LnkOK MT RX8 (3, 180, 122, 1, 8, 0) := ⟨cal122, tb_5 133 rfl rfl, tb_5 135 rfl rfl, tb_p 46 rfl rfl, (RX8, TX8, 27), rfl, rfl⟩
theorem lkRX8_51 : LnkOK MT RX8 (4, 184, 124, 3, 0, 0) := ⟨cal124, Or.inl (tb_5 138 rfl rfl), tb_5 139 rfl rfl⟩
theorem lkRX8_52 : LnkOK MT RX8 (3, 188, 159, 2, 8, 0) := ⟨cal159, tb_5 149 rfl rfl, tb_5 151 rfl rfl, tb_p 47 rfl rfl, (RX8, TX8, 27), rfl, rfl⟩
theorem lkRX8_53 : LnkOK MT RX8 (3, 191, 145, 1, 8, 0) := ⟨cal145, tb_5 165 rfl rfl, tb_5 167 rfl rfl, tb_p 50 rfl rfl, (RX8, TX8, 27), rfl, rfl⟩
theorem lkRX8_54 : LnkOK MT RX8 (3, 194, 128, 1, 8, 0) := ⟨cal128, tb_5 157 rfl rfl, tb_5 159 rfl rfl, tb_p 48 rfl rfl, (RX8, TX8, 27), rfl, rfl⟩
theorem lkRX8_55 : LnkOK MT RX8 (3, 197, 161, 1, 8, 0) := ⟨cal161, tb_5 161 rfl rfl, tb_5 163 rfl rfl, tb_p 49 rfl rfl, (RX8, TX8, 27), rfl, rfl⟩
theorem lkRX8_56 : LnkOK MT RX8 (3, 200, 164, 1, 8, 0) := ⟨cal164, tb_5 177 rfl rfl, tb_5 179 rfl rfl, tb_p 51 rfl rfl, (RX8, TX8, 27), rfl, rfl⟩
theorem lkRX8_57 : LnkOK MT RX8 (3, 203, 166, 0, 8, 0) := ⟨cal166, tb_5 185 rfl rfl, tb_5 187 rfl rfl, tb_p 52 rfl rfl, (RX8, TX8, 27), rfl, rfl⟩
theorem lkRX8_58 : LnkOK MT RX8 (3, 206, 167, 1, 8, 0) := ⟨cal167, tb_5 189 rfl rfl, tb_5 191 rfl rfl, tb_p 53 rfl rfl, (RX8, TX8, 27), rfl, rfl⟩
theorem lkRX8_59 : LnkOK MT RX8 (7, 210, 0, 0, 0, 97) := tb_5 220 rfl rfl
theorem lkRX8_60 : LnkOK MT RX8 (4, 212, 173, 2, 0, 0) := ⟨cal173, Or.inl (tb_5 229 rfl rfl), tb_5 230 rfl rfl⟩
theorem lkRX8_61 : LnkOK MT RX8 (3, 215, 174, 2, 8, 0) := ⟨cal174, tb_5 225 rfl rfl, tb_5 227 rfl rfl, tb_p 57 rfl rfl, (RX8, TX8, 27), rfl, rfl⟩
theorem lkRX8_62 : LnkOK MT RX8 (4, 218, 172, 1, 0, 0) := ⟨cal172, Or.inl (tb_5 217 rfl rfl), tb_5 218 rfl rfl⟩
theorem lkRX8_63 : LnkOK MT RX8 (3, 221, 175, 2, 8, 0) := ⟨cal175, tb_5 221 rfl rfl, tb_5 223 rfl rfl, tb_p 56 rfl rfl, (RX8, TX8, 27), rfl, rfl⟩
theorem lkRX8_64 : LnkOK MT RX8 (3, 224, 176, 0, 8, 0) := ⟨cal176, tb_5 209 rfl rfl, tb_5 211 rfl rfl, tb_p 54 rfl rfl, (RX8, TX8, 27), rfl, rfl⟩
theorem lkRX8_65 : LnkOK MT RX8 (3, 227, 177, 0, 8, 0) := ⟨cal177, tb_5 213 rfl rfl, tb_5 215 rfl rfl, tb_p 55 rfl rfl, (RX8, TX8, 27), rfl, rfl⟩
theorem lkRX8_66 : LnkOK MT RX8 (3, 230, 180, 2, 8, 0) := ⟨cal180, tb_5 236 rfl rfl, tb_5 238 rfl rfl, tb_p 58 rfl rfl, (RX8, TX8, 27), rfl, rfl⟩
theorem lkRX8_67 : LnkOK MT RX8 (3, 233, 179, 1, 8, 0) := ⟨cal179, tb_6 0 rfl rfl, tb_6 2 rfl rfl, tb_p 59 rfl rfl, (RX8, TX8, 27), rfl, rfl⟩
theorem lkRX8_68 : LnkOK MT RX8 (0, 44, 8, 14, 2, 0) := ⟨RX8, TX8, 27, tyX8, rfl, rfl, by decide +kernel, by decide +kernel, uw8, tb_4 153 rfl rfl, tyX8_ok, nmX8, fun h => by cases h⟩
theorem lkRX8_69 : LnkOK MT RX8 (3, 236, 184, 2, 8, 0) := ⟨cal184, tb_6 28 rfl rfl, tb_6 30 rfl rfl, tb_p 63 rfl rfl, (RX8, TX8, 27), rfl, rfl⟩
theorem lkRX8_70 : LnkOK MT RX8 (0, 47, 8, 15, 2, 0) := ⟨RX8, TX8, 27, tyX8, rfl, rfl, by decide +kernel, by decide +kernel, uw8, tb_4 154 rfl rfl, tyX8_ok, nmX8, fun h => by cases h⟩
theorem lkRX8_71 : LnkOK MT RX8 (3, 239, 185, 1, 8, 0) := ⟨cal185, tb_6 24 rfl rfl, tb_6 26 rfl rfl, tb_p 62 rfl rfl, (RX8, TX8, 27), rfl, rfl⟩
theorem lkRX8_72 : LnkOK MT RX8 (3, 242, 186, 2, 8, 0) := ⟨cal186, tb_6 20 rfl rfl, tb_6 22 rfl rfl, tb_p 61 rfl rfl, (RX8, TX8, 27), rfl, rfl⟩
theorem lkRX8_73 : LnkOK MT RX8 (3, 245, 187, 1, 8, 0) := ⟨cal187, tb_6 16 rfl rfl, tb_6 18 rfl rfl, tb_p 60 rfl rfl, (RX8, TX8, 27), rfl, rfl⟩
theorem lkRX8_74 : LnkOK MT RX8 (7, 248, 0, 0, 0, 1000) := tb_6 44 rfl rfl
theorem lkRX8_75 : LnkOK MT RX8 (0, 50, 8, 16, 2, 0) := ⟨RX8, TX8, 27, tyX8, rfl, rfl, by decide +kernel, by decide +kernel, uw8, tb_4 155 rfl rfl, tyX8_ok, nmX8, fun h => by cases h⟩
theorem lkRX8_76 : LnkOK MT RX8 (3, 250, 189, 1, 8, 0) := ⟨cal189, tb_6 40 rfl rfl, tb_6 42 rfl rfl, tb_p 65 rfl rfl, (RX8, TX8, 27), rfl, rfl⟩
theorem lkRX8_77 : LnkOK MT RX8 (3, 253, 190, 2, 8, 0) := ⟨cal190, tb_6 45 rfl rfl, tb_6 47 rfl rfl, tb_p 66 rfl rfl, (RX8, TX8, 27), rfl, rfl⟩
theorem lkRX8_78 : LnkOK MT RX8 (3, 257, 191, 3, 8, 0) := ⟨cal191, tb_6 36 rfl rfl, tb_6 38 rfl rfl, tb_p 64 rfl rfl, (RX8, TX8, 27), rfl, rfl⟩
theorem lkRX8_79 : LnkOK MT RX8 (0, 261, 8, 17, 0, 0) := ⟨RX8, TX8, 27, tyX8, rfl, rfl, by decide +kernel, by decide +kernel, uw8, tb_4 156 rfl rfl, tyX8_ok, nmX8, fun h => by cases h⟩
theorem lkRX8_80 : LnkOK MT RX8 (3, 264, 193, 0, 8, 0) := ⟨cal193, tb_6 73 rfl rfl, tb_6 75 rfl rfl, tb_p 72 rfl rfl, (RX8, TX8, 27), rfl, rfl⟩
theorem lkRX8_81 : LnkOK MT RX8 (7, 267, 0, 0, 0, 48) := tb_6 82 rfl rfl
theorem lkRX8_82 : LnkOK MT RX8 (7, 269, 0, 0, 0, 57) := tb_6 83 rfl rfl
theorem lkRX8_83 : LnkOK MT RX8 (0, 271, 8, 18, 0, 0) := ⟨RX8, TX8, 27, tyX8, rfl, rfl, by decide +kernel, by decide +kernel, uw8, tb_4 157 rfl rfl, tyX8_ok, nmX8, fun h => by cases h⟩
theorem lkRX8_84 : LnkOK MT RX8 (1, 271, 8, 18, 0, 0) := ⟨RX8, TX8, 27, tyX8, rfl, rfl, by decide +kernel, by decide +kernel, uw8, tb_4 157 rfl rfl, tyX8_ok, nmX8, fun _ => ⟨by decide +kernel, by decide +kernel⟩⟩
theorem lkRX8_85 : LnkOK MT RX8 (1, 261, 8, 17, 0, 0) := ⟨RX8, TX8, 27, tyX8, rfl, rfl, by decide +kernel, by decide +kernel, uw8, tb_4 156 rfl rfl, tyX8_ok, nmX8, fun _ => ⟨by decide +kernel, by decide +kernel⟩⟩
theorem lkRX8_86 : LnkOK MT RX8 (3, 274, 200, 0, 8, 0) := ⟨cal200, tb_6 57 rfl rfl, tb_6 59 rfl rfl, tb_p 68 rfl rfl, (RX8, TX8, 27), rfl, rfl⟩
theorem lkRX8_87 : LnkOK MT RX8 (7, 277, 0, 0, 0, 65) := tb_6 77 rfl rfl
theorem lkRX8_88 : LnkOK MT RX8 (3, 279, 195, 0, 8, 0) := ⟨cal195, tb_6 78 rfl rfl, tb_6 80 rfl rfl, tb_p 73 rfl rfl, (RX8, TX8, 27), rfl, rfl⟩
theorem lkRX8_89 : LnkOK MT RX8 (3, 282, 196, 0, 8, 0) := ⟨cal196, tb_6 84 rfl rfl, tb_6 86 rfl rfl, tb_p 74 rfl rfl, (RX8, TX8, 27), rfl, rfl⟩
theorem lkRX8_90 : LnkOK MT RX8 (3, 285, 197, 0, 8, 0) := ⟨cal197, tb_6 69 rfl rfl, tb_6 71 rfl rfl, tb_p 71 rfl rfl, (RX8, TX8, 27), rfl, rfl⟩
theorem lkRX8_91 : LnkOK MT RX8 (0, 288, 8, 19, 0, 0) := ⟨RX8, TX8, 27, tyX8, rfl, rfl, by decide +kernel, by decide +kernel, uw8, tb_4 158 rfl rfl, tyX8_ok, nmX8, fun h => by cases h⟩
theorem lkRX8_92 : LnkOK MT RX8 (1, 288, 8, 19, 0, 0) := ⟨RX8, TX8, 27, tyX8, rfl, rfl, by decide +kernel, by decide +kernel, uw8, tb_4 158 rfl rfl, tyX8_ok, nmX8, fun _ => ⟨by decide +kernel, by decide +kernel⟩⟩
theorem lkRX8_93 : LnkOK MT RX8 (3, 291, 198, 0, 8, 0) := ⟨cal198, tb_6 65 rfl rfl, tb_6 67 rfl rfl, tb_p 70 rfl rfl, (RX8, TX8, 27), rfl, rfl⟩
theorem lkRX8_94 : LnkOK MT RX8 (3, 294, 194, 2, 8, 0) := ⟨cal194, tb_6 88 rfl rfl, tb_6 90 rfl rfl, tb_p 75 rfl rfl, (RX8, TX8, 27), rfl, rfl⟩
theorem lkRX8_95 : LnkOK MT RX8 (3, 297, 199, 0, 8, 0) := ⟨cal199, tb_6 61 rfl rfl, tb_6 63 rfl rfl, tb_p 69 rfl rfl, (RX8, TX8, 27), rfl, rfl⟩
theorem lkRX8_96 : LnkOK MT RX8 (3, 300, 201, 0, 8, 0) := ⟨cal201, tb_6 53 rfl rfl, tb_6 55 rfl rfl, tb_p 67 rfl rfl, (RX8, TX8, 27), rfl, rfl⟩
theorem lkRX8_97 : LnkOK MT RX8 (0, 303, 8, 23, 0, 0) := ⟨RX8, TX8, 27, tyX8, rfl, rfl, by decide +kernel, by decide +kernel, uw8, tb_4 162 rfl rfl, tyX8_ok, nmX8, fun h => by cases h⟩
theorem lkRX8_98 : LnkOK MT RX8 (0, 53, 8, 20, 2, 0) := ⟨RX8, TX8, 27, tyX8, rfl, rfl, by decide +kernel, by decide +kernel, uw8, tb_4 159 rfl rfl, tyX8_ok, nmX8, fun h => by cases h⟩
theorem lkRX8_99 : LnkOK MT RX8 (3, 306, 203, 0, 8, 0) := ⟨cal203, tb_6 116 rfl rfl, tb_6 118 rfl rfl, tb_p 81 rfl rfl, (RX8, TX8, 27), rfl, rfl⟩
theorem lkRX8_100 : LnkOK MT RX8 (1, 303, 8, 23, 0, 0) := ⟨RX8, TX8, 27, tyX8, rfl, rfl, by decide +kernel, by decide +kernel, uw8, tb_4 162 rfl rfl, tyX8_ok, nmX8, fun _ => ⟨by decide +kernel, by decide +kernel⟩⟩
theorem lkRX8_101 : LnkOK MT RX8 (3, 309, 204, 2, 8, 0) := ⟨cal204, tb_6 120 rfl rfl, tb_6 122 rfl rfl, tb_p 82 rfl rfl, (RX8, TX8, 27), rfl, rfl⟩
theorem lkRX8_102 : LnkOK MT RX8 (7, 312, 0, 0, 0, 90) := tb_6 124 rfl rfl
theorem lkRX8_103 : LnkOK MT RX8 (0, 314, 8, 24, 0, 0) := ⟨RX8, TX8, 27, tyX8, rfl, rfl, by decide +kernel, by decide +kernel, uw8, tb_4 163 rfl rfl, tyX8_ok, nmX8, fun h => by cases h⟩
theorem lkRX8_104 : LnkOK MT RX8 (1, 314, 8, 24, 0, 0) := ⟨RX8, TX8, 27, tyX8, rfl, rfl, by decide +kernel, by decide +kernel, uw8, tb_4 163 rfl rfl, tyX8_ok, nmX8, fun _ => ⟨by decide +kernel, by decide +kernel⟩⟩
theorem lkRX8_105 : LnkOK MT RX8 (3, 317, 209, 1, 8, 0) := ⟨cal209, tb_6 100 rfl rfl, tb_6 102 rfl rfl, tb_p 77 rfl rfl, (RX8, TX8, 27), rfl, rfl⟩
theorem lkRX8_106 : LnkOK MT RX8 (0, 59, 8, 22, 2, 0) := ⟨RX8, TX8, 27, tyX8, rfl, rfl, by decide +kernel, by decide +kernel, uw8, tb_4 161 rfl rfl, tyX8_ok, nmX8, fun h => by cases h⟩
theorem lkRX8_107 : LnkOK MT RX8 (3, 320, 205, 1, 8, 0) := ⟨cal205, tb_6 125 rfl rfl, tb_6 127 rfl rfl, tb_p 83 rfl rfl, (RX8, TX8, 27), rfl, rfl⟩
theorem lkRX8_108 : LnkOK MT RX8 (3, 323, 206, 1, 8, 0) := ⟨cal206, tb_6 112 rfl rfl, tb_6 114 rfl rfl, tb_p 80 rfl rfl, (RX8, TX8, 27), rfl, rfl⟩
theorem lkRX8_109 : LnkOK MT RX8 (3, 326, 207, 1, 8, 0) := ⟨cal207, tb_6 108 rfl rfl, tb_6 110 rfl rfl, tb_p 79 rfl rfl, (RX8, TX8, 27), rfl, rfl⟩
theorem lkRX8_110 : LnkOK MT RX8 (3, 329, 208, 1, 8, 0) := ⟨cal208, tb_6 104 rfl rfl, tb_6 106 rfl rfl, tb_p 78 rfl rfl, (RX8, TX8, 27), rfl, rfl⟩
theorem lkRX8_111 : LnkOK MT RX8 (0, 56, 8, 21, 2, 0) := ⟨RX8, TX8, 27, tyX8, rfl, rfl, by decide +kernel, by decide +kernel, uw8, tb_4 160 rfl rfl, tyX8_ok, nmX8, fun h => by cases h⟩
theorem lkRX8_112 : LnkOK MT RX8 (1, 332, 8, 25, 0, 0) := ⟨RX8, TX8, 27, tyX8, rfl, rfl, by decide +kernel, by decide +kernel, uw8, tb_4 164 rfl rfl, tyX8_ok, nmX8, fun _ => ⟨by decide +kernel, by decide +kernel⟩⟩
theorem lkRX8_113 : LnkOK MT RX8 (0, 332, 8, 25, 0, 0) := ⟨RX8, TX8, 27, tyX8, rfl, rfl, by decide +kernel, by decide +kernel, uw8, tb_4 164 rfl rfl, tyX8_ok, nmX8, fun h => by cases h⟩
theorem lkRX8_114 : LnkOK MT RX8 (3, 335, 210, 0, 8, 0) := ⟨cal210, tb_6 96 rfl rfl, tb_6 98 rfl rfl, tb_p 76 rfl rfl, (RX8, TX8, 27), rfl, rfl⟩
theorem lkRX8_115 : LnkOK MT RX8 (0, 338, 8, 26, 0, 0) := ⟨RX8, TX8, 27, tyX8, rfl, rfl, by decide +kernel, by decide +kernel, uw8, tb_4 165 rfl rfl, tyX8_ok, nmX8, fun h => by cases h⟩
theorem lkRX8_116 : LnkOK MT RX8 (6, 341, 0, 0, 0, 1664525) := tb_6 145 rfl rfl
theorem lkRX8_117 : LnkOK MT RX8 (6, 342, 0, 0, 0, 1013904223) := tb_6 146 rfl rfl
theorem lkRX8_118 : LnkOK MT RX8 (1, 338, 8, 26, 0, 0) := ⟨RX8, TX8, 27, tyX8, rfl, rfl, by decide +kernel, by decide +kernel, uw8, tb_4 165 rfl rfl, tyX8_ok, nmX8, fun _ => ⟨by decide +kernel, by decide +kernel⟩⟩
theorem lkRX8_119 : LnkOK MT RX8 (6, 345, 0, 0, 0, 2147483647) := tb_6 147 rfl rfl
theorem lkRX8_120 : LnkOK MT RX8 (3, 346, 214, 1, 8, 0) := ⟨cal214, tb_6 141 rfl rfl, tb_6 143 rfl rfl, tb_p 84 rfl rfl, (RX8, TX8, 27), rfl, rfl⟩
theorem lkRX8_121 : LnkOK MT RX8 (3, 349, 216, 2, 8, 0) := ⟨cal216, tb_6 160 rfl rfl, tb_6 162 rfl rfl, tb_p 86 rfl rfl, (RX8, TX8, 27), rfl, rfl⟩
theorem lkRX8_122 : LnkOK MT RX8 (3, 352, 218, 2, 8, 0) := ⟨cal218, tb_6 156 rfl rfl, tb_6 158 rfl rfl, tb_p 85 rfl rfl, (RX8, TX8, 27), rfl, rfl⟩
theorem lkRX8_123 : LnkOK MT RX8 (0, 13, 8, 1, 2, 0) := ⟨RX8, TX8, 27, tyX8, rfl, rfl, by decide +kernel, by decide +kernel, uw8, tb_4 140 rfl rfl, tyX8_ok, nmX8, fun h => by cases h⟩
theorem lkRX8_124 : LnkOK MT RX8 (1, 355, 8, 2, 3, 0) := ⟨RX8, TX8, 27, tyX8, rfl, rfl, by decide +kernel, by decide +kernel, uw8, tb_4 141 rfl rfl, tyX8_ok, nmX8, fun _ => ⟨by decide +kernel, by decide +kernel⟩⟩
theorem lkRX8_125 : LnkOK MT RX8 (0, 355, 8, 2, 3, 0) := ⟨RX8, TX8, 27, tyX8, rfl, rfl, by decide +kernel, by decide +kernel, uw8, tb_4 141 rfl rfl, tyX8_ok, nmX8, fun h => by cases h⟩
theorem lkRX8_126 : LnkOK MT RX8 (3, 359, 226, 0, 8, 0) := ⟨cal226, tb_6 192 rfl rfl, tb_6 194 rfl rfl, tb_p 87 rfl rfl, (RX8, TX8, 27), rfl, rfl⟩
theorem lkRX8_127 : LnkOK MT RX8 (7, 362, 0, 0, 0, 11) := tb_6 196 rfl rfl
theorem lkRX8_128 : LnkOK MT RX8 (7, 364, 0, 0, 0, 16) := tb_6 197 rfl rfl
def lkRX8 : List Lnk := [(0, 16, 8, 3, 2, 0), (6, 63, 0, 0, 0, 1000000000), (3, 64, 120, 1, 8, 0), (7, 68, 0, 0, 0, 4000000000000000000), (4, 70, 123, 2, 0, 0), (0, 9, 8, 0, 2, 0), (4, 74, 117, 3, 0, 0), (7, 78, 0, 0, 0, 4), (7, 80, 0, 0, 0, 2), (0, 82, 8, 5, 0, 0), (0, 19, 8, 4, 2, 0), (1, 82, 8, 5, 0, 0), (7, 86, 0, 0, 0, 5), (1, 88, 8, 7, 0, 0), (0, 88, 8, 7, 0, 0), (0, 22, 8, 6, 2, 0), (3, 91, 125, 1, 8, 0), (4, 95, 126, 1, 0, 0), (3, 98, 121, 1, 8, 0), (3, 101, 131, 2, 8, 0), (3, 105, 134, 2, 8, 0), (3, 109, 136, 2, 8, 0), (3, 113, 147, 0, 8, 0), (4, 117, 118, 2, 0, 0), (3, 120, 135, 1, 8, 0), (7, 123, 0, 0, 0, 10), (7, 125, 0, 0, 0, 14), (7, 127, 0, 0, 0, 20), (7, 129, 0, 0, 0, 24), (3, 131, 137, 1, 8, 0), (4, 134, 140, 2, 0, 0), (0, 25, 8, 8, 2, 0), (3, 137, 142, 2, 8, 0), (4, 140, 119, 1, 0, 0), (3, 143, 144, 2, 8, 0), (3, 146, 143, 2, 8, 0), (0, 29, 8, 9, 2, 0), (3, 150, 146, 2, 8, 0), (3, 153, 148, 0, 8, 0), (3, 156, 151, 0, 8, 0), (3, 159, 149, 1, 8, 0), (3, 162, 150, 1, 8, 0), (0, 41, 8, 13, 2, 0), (0, 35, 8, 11, 2, 0), (0, 38, 8, 12, 2, 0), (7, 166, 0, 0, 0, -99), (7, 168, 0, 0, 0, 99), (4, 170, 127, 1, 0, 0), (3, 173, 154, 2, 8, 0), (3, 176, 155, 0, 8, 0), (3, 180, 122, 1, 8, 0), (4, 184, 124, 3, 0, 0), (3, 188, 159, 2, 8, 0), (3, 191, 145, 1, 8, 0), (3, 194, 128, 1, 8, 0), (3, 197, 161, 1, 8, 0), (3, 200, 164, 1, 8, 0), (3, 203, 166, 0, 8, 0), (3, 206, 167, 1, 8, 0), (7, 210, 0, 0, 0, 97), (4, 212, 173, 2, 0, 0), (3, 215, 174, 2, 8, 0), (4, 218, 172, 1, 0, 0), (3, 221, 175, 2, 8, 0), (3, 224, 176, 0, 8, 0), (3, 227, 177, 0, 8, 0), (3, 230, 180, 2, 8, 0), (3, 233, 179, 1, 8, 0), (0, 44, 8, 14, 2, 0), (3, 236, 184, 2, 8, 0), (0, 47, 8, 15, 2, 0), (3, 239, 185, 1, 8, 0), (3, 242, 186, 2, 8, 0), (3, 245, 187, 1, 8, 0), (7, 248, 0, 0, 0, 1000), (0, 50, 8, 16, 2, 0), (3, 250, 189, 1, 8, 0), (3, 253, 190, 2, 8, 0), (3, 257, 191, 3, 8, 0), (0, 261, 8, 17, 0, 0), (3, 264, 193, 0, 8, 0), (7, 267, 0, 0, 0, 48), (7, 269, 0, 0, 0, 57), (0, 271, 8, 18, 0, 0), (1, 271, 8, 18, 0, 0), (1, 261, 8, 17, 0, 0), (3, 274, 200, 0, 8, 0), (7, 277, 0, 0, 0, 65), (3, 279, 195, 0, 8, 0), (3, 282, 196, 0, 8, 0), (3, 285, 197, 0, 8, 0), (0, 288, 8, 19, 0, 0), (1, 288, 8, 19, 0, 0), (3, 291, 198, 0, 8, 0), (3, 294, 194, 2, 8, 0), (3, 297, 199, 0, 8, 0), (3, 300, 201, 0, 8, 0), (0, 303, 8, 23, 0, 0), (0, 53, 8, 20, 2, 0), (3, 306, 203, 0, 8, 0), (1, 303, 8, 23, 0, 0), (3, 309, 204, 2, 8, 0), (7, 312, 0, 0, 0, 90), (0, 314, 8, 24, 0, 0), (1, 314, 8, 24, 0, 0), (3, 317, 209, 1, 8, 0), (0, 59, 8, 22, 2, 0), (3, 320, 205, 1, 8, 0), (3, 323, 206, 1, 8, 0), (3, 326, 207, 1, 8, 0), (3, 329, 208, 1, 8, 0), (0, 56, 8, 21, 2, 0), (1, 332, 8, 25, 0, 0), (0, 332, 8, 25, 0, 0), (3, 335, 210, 0, 8, 0), (0, 338, 8, 26, 0, 0), (6, 341, 0, 0, 0, 1664525), (6, 342, 0, 0, 0, 1013904223), (1, 338, 8, 26, 0, 0), (6, 345, 0, 0, 0, 2147483647), (3, 346, 214, 1, 8, 0), (3, 349, 216, 2, 8, 0), (3, 352, 218, 2, 8, 0), (0, 13, 8, 1, 2, 0), (1, 355, 8, 2, 3, 0), (0, 355, 8, 2, 3, 0), (3, 359, 226, 0, 8, 0), (7, 362, 0, 0, 0, 11), (7, 364, 0, 0, 0, 16)]
theorem lkRX8_ok : ∀ q ∈ lkRX8, LnkOK MT RX8 q := List.forall_mem_cons.mpr ⟨lkRX8_0, List.forall_mem_cons.mpr ⟨lkRX8_1, List.forall_mem_cons.mpr ⟨lkRX8_2, List.forall_mem_cons.mpr ⟨lkRX8_3, List.forall_mem_cons.mpr ⟨lkRX8_4, List.forall_mem_cons.mpr ⟨lkRX8_5, List.forall_mem_cons.mpr ⟨lkRX8_6, List.forall_mem_cons.mpr ⟨lkRX8_7, List.forall_mem_cons.mpr ⟨lkRX8_8, List.forall_mem_cons.mpr ⟨lkRX8_9, List.forall_mem_cons.mpr ⟨lkRX8_10, List.forall_mem_cons.mpr ⟨lkRX8_11, List.forall_mem_cons.mpr ⟨lkRX8_12, List.forall_mem_cons.mpr ⟨lkRX8_13, List.forall_mem_cons.mpr ⟨lkRX8_14, List.forall_mem_cons.mpr ⟨lkRX8_15, List.forall_mem_cons.mpr ⟨lkRX8_16, List.forall_mem_cons.mpr ⟨lkRX8_17, List.forall_mem_cons.mpr ⟨lkRX8_18, List.forall_mem_cons.mpr ⟨lkRX8_19, List.forall_mem_cons.mpr ⟨lkRX8_20, List.forall_mem_cons.mpr ⟨lkRX8_21, List.forall_mem_cons.mpr ⟨lkRX8_22, List.forall_mem_cons.mpr ⟨lkRX8_23, List.forall_mem_cons.mpr ⟨lkRX8_24, List.forall_mem_cons.mpr ⟨lkRX8_25, List.forall_mem_cons.mpr ⟨lkRX8_26, List.forall_mem_cons.mpr ⟨lkRX8_27, List.forall_mem_cons.mpr ⟨lkRX8_28, List.forall_mem_cons.mpr ⟨lkRX8_29, List.forall_mem_cons.mpr ⟨lkRX8_30, List.forall_mem_cons.mpr ⟨lkRX8_31, List.forall_mem_cons.mpr ⟨lkRX8_32, List.forall_mem_cons.mpr ⟨lkRX8_33, List.forall_mem_cons.mpr ⟨lkRX8_34, List.forall_mem_cons.mpr ⟨lkRX8_35, List.forall_mem_cons.mpr ⟨lkRX8_36, List.forall_mem_cons.mpr ⟨lkRX8_37, List.forall_mem_cons.mpr ⟨lkRX8_38, List.forall_mem_cons.mpr ⟨lkRX8_39, List.forall_mem_cons.mpr ⟨lkRX8_40, List.forall_mem_cons.mpr ⟨lkRX8_41, List.forall_mem_cons.mpr ⟨lkRX8_42, List.forall_mem_cons.mpr ⟨lkRX8_43, List.forall_mem_cons.mpr ⟨lkRX8_44, List.forall_mem_cons.mpr ⟨lkRX8_45, List.forall_mem_cons.mpr ⟨lkRX8_46, List.forall_mem_cons.mpr ⟨lkRX8_47, List.forall_mem_cons.mpr ⟨lkRX8_48, List.forall_mem_cons.mpr ⟨lkRX8_49, List.forall_mem_cons.mpr ⟨lkRX8_50, List.forall_mem_cons.mpr ⟨lkRX8_51, List.forall_mem_cons.mpr ⟨lkRX8_52, List.forall_mem_cons.mpr ⟨lkRX8_53, List.forall_mem_cons.mpr ⟨lkRX8_54, List.forall_mem_cons.mpr ⟨lkRX8_55, List.forall_mem_cons.mpr ⟨lkRX8_56, List.forall_mem_cons.mpr ⟨lkRX8_57, List.forall_mem_cons.mpr ⟨lkRX8_58, List.forall_mem_cons.mpr ⟨lkRX8_59, List.forall_mem_cons.mpr ⟨lkRX8_60, List.forall_mem_cons.mpr ⟨lkRX8_61, List.forall_mem_cons.mpr ⟨lkRX8_62, List.forall_mem_cons.mpr ⟨lkRX8_63, List.forall_mem_cons.mpr ⟨lkRX8_64, List.forall_mem_cons.mpr ⟨lkRX8_65, List.forall_mem_cons.mpr ⟨lkRX8_66, List.forall_mem_cons.mpr ⟨lkRX8_67, List.forall_mem_cons.mpr ⟨lkRX8_68, List.forall_mem_cons.mpr ⟨lkRX8_69, List.forall_mem_cons.mpr ⟨lkRX8_70, List.forall_mem_cons.mpr ⟨lkRX8_71, List.forall_mem_cons.mpr ⟨lkRX8_72, List.forall_mem_cons.mpr ⟨lkRX8_73, List.forall_mem_cons.mpr ⟨lkRX8_74, List.forall_mem_cons.mpr ⟨lkRX8_75, List.forall_mem_cons.mpr ⟨lkRX8_76, List.forall_mem_cons.mpr ⟨lkRX8_77, List.forall_mem_cons.mpr ⟨lkRX8_78, List.forall_mem_cons.mpr ⟨lkRX8_79, List.forall_mem_cons.mpr ⟨lkRX8_80, List.forall_mem_cons.mpr ⟨lkRX8_81, List.forall_mem_cons.mpr ⟨lkRX8_82, List.forall_mem_cons.mpr ⟨lkRX8_83, List.forall_mem_cons.mpr ⟨lkRX8_84, List.forall_mem_cons.mpr ⟨lkRX8_85, List.forall_mem_cons.mpr ⟨lkRX8_86, List.forall_mem_cons.mpr ⟨lkRX8_87, List.forall_mem_cons.mpr ⟨lkRX8_88, List.forall_mem_cons.mpr ⟨lkRX8_89, List.forall_mem_cons.mpr ⟨lkRX8_90, List.forall_mem_cons.mpr ⟨lkRX8_91, List.forall_mem_cons.mpr ⟨lkRX8_92, List.forall_mem_cons.mpr ⟨lkRX8_93, List.forall_mem_cons.mpr ⟨lkRX8_94, List.forall_mem_cons.mpr ⟨lkRX8_95, List.forall_mem_cons.mpr ⟨lkRX8_96, List.forall_mem_cons.mpr ⟨lkRX8_97, List.forall_mem_cons.mpr ⟨lkRX8_98, List.forall_mem_cons.mpr ⟨lkRX8_99, List.forall_mem_cons.mpr ⟨lkRX8_100, List.forall_mem_cons.mpr ⟨lkRX8_101, List.forall_mem_cons.mpr ⟨lkRX8_102, List.forall_mem_cons.mpr ⟨lkRX8_103, List.forall_mem_cons.mpr ⟨lkRX8_104, List.forall_mem_cons.mpr ⟨lkRX8_105, List.forall_mem_cons.mpr ⟨lkRX8_106, List.forall_mem_cons.mpr ⟨lkRX8_107, List.forall_mem_cons.mpr ⟨lkRX8_108, List.forall_mem_cons.mpr ⟨lkRX8_109, List.forall_mem_cons.mpr ⟨lkRX8_110, List.forall_mem_cons.mpr ⟨lkRX8_111, List.forall_mem_cons.mpr ⟨lkRX8_112, List.forall_mem_cons.mpr ⟨lkRX8_113, List.forall_mem_cons.mpr ⟨lkRX8_114, List.forall_mem_cons.mpr ⟨lkRX8_115, List.forall_mem_cons.mpr ⟨lkRX8_116, List.forall_mem_cons.mpr ⟨lkRX8_117, List.forall_mem_cons.mpr ⟨lkRX8_118, List.forall_mem_cons.mpr ⟨lkRX8_119, List.forall_mem_cons.mpr ⟨lkRX8_120, List.forall_mem_cons.mpr ⟨lkRX8_121, List.forall_mem_cons.mpr ⟨lkRX8_122, List.forall_mem_cons.mpr ⟨lkRX8_123, List.forall_mem_cons.mpr ⟨lkRX8_124, List.forall_mem_cons.mpr ⟨lkRX8_125, List.forall_mem_cons.mpr ⟨lkRX8_126, List.forall_mem_cons.mpr ⟨lkRX8_127, List.forall_mem_cons.mpr ⟨lkRX8_128, fun _ h => absurd h List.not_mem_nil⟩⟩⟩⟩⟩⟩⟩⟩⟩⟩⟩⟩⟩⟩⟩⟩⟩⟩⟩⟩⟩⟩⟩⟩⟩⟩⟩⟩⟩⟩⟩⟩⟩⟩⟩⟩⟩⟩⟩⟩⟩⟩⟩⟩⟩⟩⟩⟩⟩⟩⟩⟩⟩⟩⟩⟩⟩⟩⟩⟩⟩⟩⟩⟩⟩⟩⟩⟩⟩⟩⟩⟩⟩⟩⟩⟩⟩⟩⟩⟩⟩⟩⟩⟩⟩⟩⟩⟩⟩⟩⟩⟩⟩⟩⟩⟩⟩⟩⟩⟩⟩⟩⟩⟩⟩⟩⟩⟩⟩⟩⟩⟩⟩⟩⟩⟩⟩⟩⟩⟩⟩⟩⟩⟩⟩⟩⟩⟩⟩
theorem lkRJ6_0 : LnkOK MT RJ6 (6, 265, 0, 0, 0, 1431655765) := tb_3 80 rfl rfl
theorem lkRJ6_1 : LnkOK MT RJ6 (6, 266, 0, 0, 0, 858993459) := tb_3 81 rfl rfl
theorem lkRJ6_2 : LnkOK MT RJ6 (6, 267, 0, 0, 0, 252645135) := tb_3 82 rfl rfl
def lkRJ6 : List Lnk := [(6, 265, 0, 0, 0, 1431655765), (6, 266, 0, 0, 0, 858993459), (6, 267, 0, 0, 0, 252645135)]
theorem lkRJ6_ok : ∀ q ∈ lkRJ6, LnkOK MT RJ6 q := List.forall_mem_cons.mpr ⟨lkRJ6_0, List.forall_mem_cons.mpr ⟨lkRJ6_1, List.forall_mem_cons.mpr ⟨lkRJ6_2, fun _ h => absurd h List.not_mem_nil⟩⟩⟩
theorem lkRL_0 : LnkOK MT RL (3, 13, 56, 1, 7, 0) := ⟨cal56, tb_2 90 rfl rfl, tb_2 91 rfl rfl, tb_2 92 rfl rfl, (RX7, TX7, 16), rfl, rfl⟩
theorem lkRL_1 : LnkOK MT RL (3, 17, 129, 1, 8, 0) := ⟨cal129, tb_4 222 rfl rfl, tb_4 223 rfl rfl, tb_4 224 rfl rfl, (RX8, TX8, 27), rfl, rfl⟩
theorem lkRL_2 : LnkOK MT RL (3, 18, 57, 1, 7, 0) := ⟨cal57, tb_2 98 rfl rfl, tb_2 99 rfl rfl, tb_2 100 rfl rfl, (RX7, TX7, 16), rfl, rfl⟩
theorem lkRL_3 : LnkOK MT RL (3, 21, 130, 1, 8, 0) := ⟨cal130, tb_4 230 rfl rfl, tb_4 231 rfl rfl, tb_4 232 rfl rfl, (RX8, TX8, 27), rfl, rfl⟩
theorem lkRL_4 : LnkOK MT RL (3, 22, 58, 3, 7, 0) := ⟨cal58, tb_2 151 rfl rfl, tb_2 152 rfl rfl, tb_2 153 rfl rfl, (RX7, TX7, 16), rfl, rfl⟩
theorem lkRL_5 : LnkOK MT RL (3, 26, 132, 3, 8, 0) := ⟨cal132, tb_4 238 rfl rfl, tb_4 239 rfl rfl, tb_5 0 rfl rfl, (RX8, TX8, 27), rfl, rfl⟩
theorem lkRL_6 : LnkOK MT RL (3, 27, 59, 2, 7, 0) := ⟨cal59, tb_2 174 rfl rfl, tb_2 175 rfl rfl, tb_2 176 rfl rfl, (RX7, TX7, 16), rfl, rfl⟩
theorem lkRL_7 : LnkOK MT RL (3, 31, 133, 2, 8, 0) := ⟨cal133, tb_5 19 rfl rfl, tb_5 20 rfl rfl, tb_5 21 rfl rfl, (RX8, TX8, 27), rfl, rfl⟩
theorem lkRL_8 : LnkOK MT RL (3, 32, 60, 2, 7, 0) := ⟨cal60, tb_2 178 rfl rfl, tb_2 179 rfl rfl, tb_2 180 rfl rfl, (RX7, TX7, 16), rfl, rfl⟩
theorem lkRL_9 : LnkOK MT RL (3, 35, 138, 2, 8, 0) := ⟨cal138, tb_5 23 rfl rfl, tb_5 24 rfl rfl, tb_5 25 rfl rfl, (RX8, TX8, 27), rfl, rfl⟩
theorem lkRL_10 : LnkOK MT RL (3, 36, 61, 1, 7, 0) := ⟨cal61, tb_2 190 rfl rfl, tb_2 191 rfl rfl, tb_2 192 rfl rfl, (RX7, TX7, 16), rfl, rfl⟩
theorem lkRL_11 : LnkOK MT RL (3, 39, 139, 1, 8, 0) := ⟨cal139, tb_5 65 rfl rfl, tb_5 66 rfl rfl, tb_5 67 rfl rfl, (RX8, TX8, 27), rfl, rfl⟩
theorem lkRL_12 : LnkOK MT RL (3, 40, 62, 2, 7, 0) := ⟨cal62, tb_2 194 rfl rfl, tb_2 195 rfl rfl, tb_2 196 rfl rfl, (RX7, TX7, 16), rfl, rfl⟩
theorem lkRL_13 : LnkOK MT RL (3, 43, 141, 2, 8, 0) := ⟨cal141, tb_5 77 rfl rfl, tb_5 78 rfl rfl, tb_5 79 rfl rfl, (RX8, TX8, 27), rfl, rfl⟩
theorem lkRL_14 : LnkOK MT RL (3, 44, 63, 1, 7, 0) := ⟨cal63, tb_2 200 rfl rfl, tb_2 201 rfl rfl, tb_2 202 rfl rfl, (RX7, TX7, 16), rfl, rfl⟩
theorem lkRL_15 : LnkOK MT RL (3, 47, 152, 1, 8, 0) := ⟨cal152, tb_5 84 rfl rfl, tb_5 85 rfl rfl, tb_5 86 rfl rfl, (RX8, TX8, 27), rfl, rfl⟩
theorem lkRL_16 : LnkOK MT RL (3, 48, 64, 2, 7, 0) := ⟨cal64, tb_2 208 rfl rfl, tb_2 209 rfl rfl, tb_2 210 rfl rfl, (RX7, TX7, 16), rfl, rfl⟩
theorem lkRL_17 : LnkOK MT RL (3, 51, 153, 2, 8, 0) := ⟨cal153, tb_5 99 rfl rfl, tb_5 100 rfl rfl, tb_5 101 rfl rfl, (RX8, TX8, 27), rfl, rfl⟩
theorem lkRL_18 : LnkOK MT RL (3, 52, 65, 1, 7, 0) := ⟨cal65, tb_2 234 rfl rfl, tb_2 235 rfl rfl, tb_2 236 rfl rfl, (RX7, TX7, 16), rfl, rfl⟩
theorem lkRL_19 : LnkOK MT RL (3, 55, 156, 1, 8, 0) := ⟨cal156, tb_5 111 rfl rfl, tb_5 112 rfl rfl, tb_5 113 rfl rfl, (RX8, TX8, 27), rfl, rfl⟩
theorem lkRL_20 : LnkOK MT RL (3, 56, 66, 3, 7, 0) := ⟨cal66, tb_3 24 rfl rfl, tb_3 25 rfl rfl, tb_3 26 rfl rfl, (RX7, TX7, 16), rfl, rfl⟩
theorem lkRL_21 : LnkOK MT RL (3, 60, 157, 3, 8, 0) := ⟨cal157, tb_5 129 rfl rfl, tb_5 130 rfl rfl, tb_5 131 rfl rfl, (RX8, TX8, 27), rfl, rfl⟩
theorem lkRL_22 : LnkOK MT RL (3, 61, 67, 0, 7, 0) := ⟨cal67, tb_3 40 rfl rfl, tb_3 41 rfl rfl, tb_3 42 rfl rfl, (RX7, TX7, 16), rfl, rfl⟩
theorem lkRL_23 : LnkOK MT RL (3, 65, 158, 0, 8, 0) := ⟨cal158, tb_5 141 rfl rfl, tb_5 142 rfl rfl, tb_5 143 rfl rfl, (RX8, TX8, 27), rfl, rfl⟩
theorem lkRL_24 : LnkOK MT RL (3, 66, 68, 1, 7, 0) := ⟨cal68, tb_3 51 rfl rfl, tb_3 52 rfl rfl, tb_3 53 rfl rfl, (RX7, TX7, 16), rfl, rfl⟩
theorem lkRL_25 : LnkOK MT RL (3, 69, 160, 1, 8, 0) := ⟨cal160, tb_5 145 rfl rfl, tb_5 146 rfl rfl, tb_5 147 rfl rfl, (RX8, TX8, 27), rfl, rfl⟩
theorem lkRL_26 : LnkOK MT RL (3, 70, 69, 1, 7, 0) := ⟨cal69, tb_3 65 rfl rfl, tb_3 66 rfl rfl, tb_3 67 rfl rfl, (RX7, TX7, 16), rfl, rfl⟩
theorem lkRL_27 : LnkOK MT RL (3, 73, 162, 1, 8, 0) := ⟨cal162, tb_5 153 rfl rfl, tb_5 154 rfl rfl, tb_5 155 rfl rfl, (RX8, TX8, 27), rfl, rfl⟩
theorem lkRL_28 : LnkOK MT RL (3, 74, 70, 3, 7, 0) := ⟨cal70, tb_3 84 rfl rfl, tb_3 85 rfl rfl, tb_3 86 rfl rfl, (RX7, TX7, 16), rfl, rfl⟩
theorem lkRL_29 : LnkOK MT RL (3, 77, 163, 3, 8, 0) := ⟨cal163, tb_5 169 rfl rfl, tb_5 170 rfl rfl, tb_5 171 rfl rfl, (RX8, TX8, 27), rfl, rfl⟩
theorem lkRL_30 : LnkOK MT RL (3, 78, 71, 1, 7, 0) := ⟨cal71, tb_3 92 rfl rfl, tb_3 93 rfl rfl, tb_3 94 rfl rfl, (RX7, TX7, 16), rfl, rfl⟩
theorem lkRL_31 : LnkOK MT RL (3, 81, 168, 1, 8, 0) := ⟨cal168, tb_5 181 rfl rfl, tb_5 182 rfl rfl, tb_5 183 rfl rfl, (RX8, TX8, 27), rfl, rfl⟩
theorem lkRL_32 : LnkOK MT RL (3, 82, 72, 1, 7, 0) := ⟨cal72, tb_3 112 rfl rfl, tb_3 113 rfl rfl, tb_3 114 rfl rfl, (RX7, TX7, 16), rfl, rfl⟩
theorem lkRL_33 : LnkOK MT RL (3, 86, 165, 1, 8, 0) := ⟨cal165, tb_5 173 rfl rfl, tb_5 174 rfl rfl, tb_5 175 rfl rfl, (RX8, TX8, 27), rfl, rfl⟩
theorem lkRL_34 : LnkOK MT RL (3, 87, 73, 1, 7, 0) := ⟨cal73, tb_3 117 rfl rfl, tb_3 118 rfl rfl, tb_3 119 rfl rfl, (RX7, TX7, 16), rfl, rfl⟩
theorem lkRL_35 : LnkOK MT RL (3, 90, 169, 1, 8, 0) := ⟨cal169, tb_5 193 rfl rfl, tb_5 194 rfl rfl, tb_5 195 rfl rfl, (RX8, TX8, 27), rfl, rfl⟩
theorem lkRL_36 : LnkOK MT RL (3, 91, 74, 3, 7, 0) := ⟨cal74, tb_3 121 rfl rfl, tb_3 122 rfl rfl, tb_3 123 rfl rfl, (RX7, TX7, 16), rfl, rfl⟩
theorem lkRL_37 : LnkOK MT RL (3, 94, 170, 3, 8, 0) := ⟨cal170, tb_5 197 rfl rfl, tb_5 198 rfl rfl, tb_5 199 rfl rfl, (RX8, TX8, 27), rfl, rfl⟩
theorem lkRL_38 : LnkOK MT RL (3, 95, 75, 2, 7, 0) := ⟨cal75, tb_3 125 rfl rfl, tb_3 126 rfl rfl, tb_3 127 rfl rfl, (RX7, TX7, 16), rfl, rfl⟩
theorem lkRL_39 : LnkOK MT RL (3, 98, 171, 2, 8, 0) := ⟨cal171, tb_5 201 rfl rfl, tb_5 202 rfl rfl, tb_5 203 rfl rfl, (RX8, TX8, 27), rfl, rfl⟩
theorem lkRL_40 : LnkOK MT RL (3, 99, 76, 0, 7, 0) := ⟨cal76, tb_3 133 rfl rfl, tb_3 134 rfl rfl, tb_3 135 rfl rfl, (RX7, TX7, 16), rfl, rfl⟩
theorem lkRL_41 : LnkOK MT RL (3, 102, 178, 0, 8, 0) := ⟨cal178, tb_5 205 rfl rfl, tb_5 206 rfl rfl, tb_5 207 rfl rfl, (RX8, TX8, 27), rfl, rfl⟩
theorem lkRL_42 : LnkOK MT RL (3, 103, 77, 4, 7, 0) := ⟨cal77, tb_3 163 rfl rfl, tb_3 164 rfl rfl, tb_3 165 rfl rfl, (RX7, TX7, 16), rfl, rfl⟩
theorem lkRL_43 : LnkOK MT RL (3, 107, 181, 4, 8, 0) := ⟨cal181, tb_5 232 rfl rfl, tb_5 233 rfl rfl, tb_5 234 rfl rfl, (RX8, TX8, 27), rfl, rfl⟩
theorem lkRL_44 : LnkOK MT RL (3, 108, 78, 2, 7, 0) := ⟨cal78, tb_3 170 rfl rfl, tb_3 171 rfl rfl, tb_3 172 rfl rfl, (RX7, TX7, 16), rfl, rfl⟩
theorem lkRL_45 : LnkOK MT RL (3, 111, 182, 2, 8, 0) := ⟨cal182, tb_6 4 rfl rfl, tb_6 5 rfl rfl, tb_6 6 rfl rfl, (RX8, TX8, 27), rfl, rfl⟩
theorem lkRL_46 : LnkOK MT RL (3, 112, 79, 1, 7, 0) := ⟨cal79, tb_3 174 rfl rfl, tb_3 175 rfl rfl, tb_3 176 rfl rfl, (RX7, TX7, 16), rfl, rfl⟩
theorem lkRL_47 : LnkOK MT RL (3, 115, 183, 1, 8, 0) := ⟨cal183, tb_6 8 rfl rfl, tb_6 9 rfl rfl, tb_6 10 rfl rfl, (RX8, TX8, 27), rfl, rfl⟩
theorem lkRL_48 : LnkOK MT RL (3, 116, 80, 2, 7, 0) := ⟨cal80, tb_3 178 rfl rfl, tb_3 179 rfl rfl, tb_3 180 rfl rfl, (RX7, TX7, 16), rfl, rfl⟩
theorem lkRL_49 : LnkOK MT RL (3, 119, 188, 2, 8, 0) := ⟨cal188, tb_6 12 rfl rfl, tb_6 13 rfl rfl, tb_6 14 rfl rfl, (RX8, TX8, 27), rfl, rfl⟩
theorem lkRL_50 : LnkOK MT RL (3, 120, 81, 1, 7, 0) := ⟨cal81, tb_3 194 rfl rfl, tb_3 195 rfl rfl, tb_3 196 rfl rfl, (RX7, TX7, 16), rfl, rfl⟩
theorem lkRL_51 : LnkOK MT RL (3, 123, 192, 1, 8, 0) := ⟨cal192, tb_6 32 rfl rfl, tb_6 33 rfl rfl, tb_6 34 rfl rfl, (RX8, TX8, 27), rfl, rfl⟩
theorem lkRL_52 : LnkOK MT RL (3, 124, 82, 0, 7, 0) := ⟨cal82, tb_3 214 rfl rfl, tb_3 215 rfl rfl, tb_3 216 rfl rfl, (RX7, TX7, 16), rfl, rfl⟩
theorem lkRL_53 : LnkOK MT RL (3, 127, 202, 0, 8, 0) := ⟨cal202, tb_6 49 rfl rfl, tb_6 50 rfl rfl, tb_6 51 rfl rfl, (RX8, TX8, 27), rfl, rfl⟩
theorem lkRL_54 : LnkOK MT RL (3, 128, 83, 1, 7, 0) := ⟨cal83, tb_4 46 rfl rfl, tb_4 47 rfl rfl, tb_4 48 rfl rfl, (RX7, TX7, 16), rfl, rfl⟩
theorem lkRL_55 : LnkOK MT RL (3, 131, 211, 1, 8, 0) := ⟨cal211, tb_6 92 rfl rfl, tb_6 93 rfl rfl, tb_6 94 rfl rfl, (RX8, TX8, 27), rfl, rfl⟩
theorem lkRL_56 : LnkOK MT RL (3, 132, 84, 2, 7, 0) := ⟨cal84, tb_4 62 rfl rfl, tb_4 63 rfl rfl, tb_4 64 rfl rfl, (RX7, TX7, 16), rfl, rfl⟩
theorem lkRL_57 : LnkOK MT RL (3, 135, 212, 2, 8, 0) := ⟨cal212, tb_6 129 rfl rfl, tb_6 130 rfl rfl, tb_6 131 rfl rfl, (RX8, TX8, 27), rfl, rfl⟩
theorem lkRL_58 : LnkOK MT RL (3, 136, 85, 1, 7, 0) := ⟨cal85, tb_4 70 rfl rfl, tb_4 71 rfl rfl, tb_4 72 rfl rfl, (RX7, TX7, 16), rfl, rfl⟩
theorem lkRL_59 : LnkOK MT RL (3, 139, 213, 1, 8, 0) := ⟨cal213, tb_6 133 rfl rfl, tb_6 134 rfl rfl, tb_6 135 rfl rfl, (RX8, TX8, 27), rfl, rfl⟩
theorem lkRL_60 : LnkOK MT RL (3, 140, 86, 3, 7, 0) := ⟨cal86, tb_4 74 rfl rfl, tb_4 75 rfl rfl, tb_4 76 rfl rfl, (RX7, TX7, 16), rfl, rfl⟩
theorem lkRL_61 : LnkOK MT RL (3, 143, 215, 3, 8, 0) := ⟨cal215, tb_6 137 rfl rfl, tb_6 138 rfl rfl, tb_6 139 rfl rfl, (RX8, TX8, 27), rfl, rfl⟩
theorem lkRL_62 : LnkOK MT RL (3, 144, 87, 2, 7, 0) := ⟨cal87, tb_4 82 rfl rfl, tb_4 83 rfl rfl, tb_4 84 rfl rfl, (RX7, TX7, 16), rfl, rfl⟩
theorem lkRL_63 : LnkOK MT RL (3, 147, 217, 2, 8, 0) := ⟨cal217, tb_6 148 rfl rfl, tb_6 149 rfl rfl, tb_6 150 rfl rfl, (RX8, TX8, 27), rfl, rfl⟩
theorem lkRL_64 : LnkOK MT RL (3, 148, 88, 3, 7, 0) := ⟨cal88, tb_4 87 rfl rfl, tb_4 88 rfl rfl, tb_4 89 rfl rfl, (RX7, TX7, 16), rfl, rfl⟩
theorem lkRL_65 : LnkOK MT RL (3, 151, 219, 3, 8, 0) := ⟨cal219, tb_6 152 rfl rfl, tb_6 153 rfl rfl, tb_6 154 rfl rfl, (RX8, TX8, 27), rfl, rfl⟩
theorem lkRL_66 : LnkOK MT RL (3, 152, 89, 2, 7, 0) := ⟨cal89, tb_4 91 rfl rfl, tb_4 92 rfl rfl, tb_4 93 rfl rfl, (RX7, TX7, 16), rfl, rfl⟩
theorem lkRL_67 : LnkOK MT RL (3, 155, 220, 2, 8, 0) := ⟨cal220, tb_6 164 rfl rfl, tb_6 165 rfl rfl, tb_6 166 rfl rfl, (RX8, TX8, 27), rfl, rfl⟩
theorem lkRL_68 : LnkOK MT RL (3, 156, 90, 3, 7, 0) := ⟨cal90, tb_4 95 rfl rfl, tb_4 96 rfl rfl, tb_4 97 rfl rfl, (RX7, TX7, 16), rfl, rfl⟩
theorem lkRL_69 : LnkOK MT RL (3, 159, 221, 3, 8, 0) := ⟨cal221, tb_6 168 rfl rfl, tb_6 169 rfl rfl, tb_6 170 rfl rfl, (RX8, TX8, 27), rfl, rfl⟩
theorem lkRL_70 : LnkOK MT RL (3, 160, 91, 1, 7, 0) := ⟨cal91, tb_4 100 rfl rfl, tb_4 101 rfl rfl, tb_4 102 rfl rfl, (RX7, TX7, 16), rfl, rfl⟩
theorem lkRL_71 : LnkOK MT RL (3, 163, 222, 1, 8, 0) := ⟨cal222, tb_6 172 rfl rfl, tb_6 173 rfl rfl, tb_6 174 rfl rfl, (RX8, TX8, 27), rfl, rfl⟩
theorem lkRL_72 : LnkOK MT RL (3, 164, 92, 0, 7, 0) := ⟨cal92, tb_4 104 rfl rfl, tb_4 105 rfl rfl, tb_4 106 rfl rfl, (RX7, TX7, 16), rfl, rfl⟩
theorem lkRL_73 : LnkOK MT RL (3, 167, 223, 0, 8, 0) := ⟨cal223, tb_6 176 rfl rfl, tb_6 177 rfl rfl, tb_6 178 rfl rfl, (RX8, TX8, 27), rfl, rfl⟩
theorem lkRL_74 : LnkOK MT RL (3, 168, 93, 0, 7, 0) := ⟨cal93, tb_4 115 rfl rfl, tb_4 116 rfl rfl, tb_4 117 rfl rfl, (RX7, TX7, 16), rfl, rfl⟩
theorem lkRL_75 : LnkOK MT RL (3, 171, 224, 0, 8, 0) := ⟨cal224, tb_6 180 rfl rfl, tb_6 181 rfl rfl, tb_6 182 rfl rfl, (RX8, TX8, 27), rfl, rfl⟩
theorem lkRL_76 : LnkOK MT RL (3, 172, 94, 0, 7, 0) := ⟨cal94, tb_4 124 rfl rfl, tb_4 125 rfl rfl, tb_4 126 rfl rfl, (RX7, TX7, 16), rfl, rfl⟩
theorem lkRL_77 : LnkOK MT RL (3, 175, 225, 0, 8, 0) := ⟨cal225, tb_6 184 rfl rfl, tb_6 185 rfl rfl, tb_6 186 rfl rfl, (RX8, TX8, 27), rfl, rfl⟩
theorem lkRL_78 : LnkOK MT RL (3, 176, 95, 1, 7, 0) := ⟨cal95, tb_4 128 rfl rfl, tb_4 129 rfl rfl, tb_4 130 rfl rfl, (RX7, TX7, 16), rfl, rfl⟩
theorem lkRL_79 : LnkOK MT RL (3, 179, 227, 1, 8, 0) := ⟨cal227, tb_6 188 rfl rfl, tb_6 189 rfl rfl, tb_6 190 rfl rfl, (RX8, TX8, 27), rfl, rfl⟩
def lkRL : List Lnk := [(3, 13, 56, 1, 7, 0), (3, 17, 129, 1, 8, 0), (3, 18, 57, 1, 7, 0), (3, 21, 130, 1, 8, 0), (3, 22, 58, 3, 7, 0), (3, 26, 132, 3, 8, 0), (3, 27, 59, 2, 7, 0), (3, 31, 133, 2, 8, 0), (3, 32, 60, 2, 7, 0), (3, 35, 138, 2, 8, 0), (3, 36, 61, 1, 7, 0), (3, 39, 139, 1, 8, 0), (3, 40, 62, 2, 7, 0), (3, 43, 141, 2, 8, 0), (3, 44, 63, 1, 7, 0), (3, 47, 152, 1, 8, 0), (3, 48, 64, 2, 7, 0), (3, 51, 153, 2, 8, 0), (3, 52, 65, 1, 7, 0), (3, 55, 156, 1, 8, 0), (3, 56, 66, 3, 7, 0), (3, 60, 157, 3, 8, 0), (3, 61, 67, 0, 7, 0), (3, 65, 158, 0, 8, 0), (3, 66, 68, 1, 7, 0), (3, 69, 160, 1, 8, 0), (3, 70, 69, 1, 7, 0), (3, 73, 162, 1, 8, 0), (3, 74, 70, 3, 7, 0), (3, 77, 163, 3, 8, 0), (3, 78, 71, 1, 7, 0), (3, 81, 168, 1, 8, 0), (3, 82, 72, 1, 7, 0), (3, 86, 165, 1, 8, 0), (3, 87, 73, 1, 7, 0), (3, 90, 169, 1, 8, 0), (3, 91, 74, 3, 7, 0), (3, 94, 170, 3, 8, 0), (3, 95, 75, 2, 7, 0), (3, 98, 171, 2, 8, 0), (3, 99, 76, 0, 7, 0), (3, 102, 178, 0, 8, 0), (3, 103, 77, 4, 7, 0), (3, 107, 181, 4, 8, 0), (3, 108, 78, 2, 7, 0), (3, 111, 182, 2, 8, 0), (3, 112, 79, 1, 7, 0), (3, 115, 183, 1, 8, 0), (3, 116, 80, 2, 7, 0), (3, 119, 188, 2, 8, 0), (3, 120, 81, 1, 7, 0), (3, 123, 192, 1, 8, 0), (3, 124, 82, 0, 7, 0), (3, 127, 202, 0, 8, 0), (3, 128, 83, 1, 7, 0), (3, 131, 211, 1, 8, 0), (3, 132, 84, 2, 7, 0), (3, 135, 212, 2, 8, 0), (3, 136, 85, 1, 7, 0), (3, 139, 213, 1, 8, 0), (3, 140, 86, 3, 7, 0), (3, 143, 215, 3, 8, 0), (3, 144, 87, 2, 7, 0), (3, 147, 217, 2, 8, 0), (3, 148, 88, 3, 7, 0), (3, 151, 219, 3, 8, 0), (3, 152, 89, 2, 7, 0), (3, 155, 220, 2, 8, 0), (3, 156, 90, 3, 7, 0), (3, 159, 221, 3, 8, 0), (3, 160, 91, 1, 7, 0), (3, 163, 222, 1, 8, 0), (3, 164, 92, 0, 7, 0), (3, 167, 223, 0, 8, 0), (3, 168, 93, 0, 7, 0), (3, 171, 224, 0, 8, 0), (3, 172, 94, 0, 7, 0), (3, 175, 225, 0, 8, 0), (3, 176, 95, 1, 7, 0), (3, 179, 227, 1, 8, 0)]
theorem lkRL_ok : ∀ q ∈ lkRL, LnkOK MT RL q := List.forall_mem_cons.mpr ⟨lkRL_0, List.forall_mem_cons.mpr ⟨lkRL_1, List.forall_mem_cons.mpr ⟨lkRL_2, List.forall_mem_cons.mpr ⟨lkRL_3, List.forall_mem_cons.mpr ⟨lkRL_4, List.forall_mem_cons.mpr ⟨lkRL_5, List.forall_mem_cons.mpr ⟨lkRL_6, List.forall_mem_cons.mpr ⟨lkRL_7, List.forall_mem_cons.mpr ⟨lkRL_8, List.forall_mem_cons.mpr ⟨lkRL_9, List.forall_mem_cons.mpr ⟨lkRL_10, List.forall_mem_cons.mpr ⟨lkRL_11, List.forall_mem_cons.mpr ⟨lkRL_12, List.forall_mem_cons.mpr ⟨lkRL_13, List.forall_mem_cons.mpr ⟨lkRL_14, List.forall_mem_cons.mpr ⟨lkRL_15, List.forall_mem_cons.mpr ⟨lkRL_16, List.forall_mem_cons.mpr ⟨lkRL_17, List.forall_mem_cons.mpr ⟨lkRL_18, List.forall_mem_cons.mpr ⟨lkRL_19, List.forall_mem_cons.mpr ⟨lkRL_20, List.forall_mem_cons.mpr ⟨lkRL_21, List.forall_mem_cons.mpr ⟨lkRL_22, List.forall_mem_cons.mpr ⟨lkRL_23, List.forall_mem_cons.mpr ⟨lkRL_24, List.forall_mem_cons.mpr ⟨lkRL_25, List.forall_mem_cons.mpr ⟨lkRL_26, List.forall_mem_cons.mpr ⟨lkRL_27, List.forall_mem_cons.mpr ⟨lkRL_28, List.forall_mem_cons.mpr ⟨lkRL_29, List.forall_mem_cons.mpr ⟨lkRL_30, List.forall_mem_cons.mpr ⟨lkRL_31, List.forall_mem_cons.mpr ⟨lkRL_32, List.forall_mem_cons.mpr ⟨lkRL_33, List.forall_mem_cons.mpr ⟨lkRL_34, List.forall_mem_cons.mpr ⟨lkRL_35, List.forall_mem_cons.mpr ⟨lkRL_36, List.forall_mem_cons.mpr ⟨lkRL_37, List.forall_mem_cons.mpr ⟨lkRL_38, List.forall_mem_cons.mpr ⟨lkRL_39, List.forall_mem_cons.mpr ⟨lkRL_40, List.forall_mem_cons.mpr ⟨lkRL_41, List.forall_mem_cons.mpr ⟨lkRL_42, List.forall_mem_cons.mpr ⟨lkRL_43, List.forall_mem_cons.mpr ⟨lkRL_44, List.forall_mem_cons.mpr ⟨lkRL_45, List.forall_mem_cons.mpr ⟨lkRL_46, List.forall_mem_cons.mpr ⟨lkRL_47, List.forall_mem_cons.mpr ⟨lkRL_48, List.forall_mem_cons.mpr ⟨lkRL_49, List.forall_mem_cons.mpr ⟨lkRL_50, List.forall_mem_cons.mpr ⟨lkRL_51, List.forall_mem_cons.mpr ⟨lkRL_52, List.forall_mem_cons.mpr ⟨lkRL_53, List.forall_mem_cons.mpr ⟨lkRL_54, List.forall_mem_cons.mpr ⟨lkRL_55, List.forall_mem_cons.mpr ⟨lkRL_56, List.forall_mem_cons.mpr ⟨lkRL_57, List.forall_mem_cons.mpr ⟨lkRL_58, List.forall_mem_cons.mpr ⟨lkRL_59, List.forall_mem_cons.mpr ⟨lkRL_60, List.forall_mem_cons.mpr ⟨lkRL_61, List.forall_mem_cons.mpr ⟨lkRL_62, List.forall_mem_cons.mpr ⟨lkRL_63, List.forall_mem_cons.mpr ⟨lkRL_64, List.forall_mem_cons.mpr ⟨lkRL_65, List.forall_mem_cons.mpr ⟨lkRL_66, List.forall_mem_cons.mpr ⟨lkRL_67, List.forall_mem_cons.mpr ⟨lkRL_68, List.forall_mem_cons.mpr ⟨lkRL_69, List.forall_mem_cons.mpr ⟨lkRL_70, List.forall_mem_cons.mpr ⟨lkRL_71, List.forall_mem_cons.mpr ⟨lkRL_72, List.forall_mem_cons.mpr ⟨lkRL_73, List.forall_mem_cons.mpr ⟨lkRL_74, List.forall_mem_cons.mpr ⟨lkRL_75, List.forall_mem_cons.mpr ⟨lkRL_76, List.forall_mem_cons.mpr ⟨lkRL_77, List.forall_mem_cons.mpr ⟨lkRL_78, List.forall_mem_cons.mpr ⟨lkRL_79, fun _ h => absurd h List.not_mem_nil⟩⟩⟩⟩⟩⟩⟩⟩⟩⟩⟩⟩⟩⟩⟩⟩⟩⟩⟩⟩⟩⟩⟩⟩⟩⟩⟩⟩⟩⟩⟩⟩⟩⟩⟩⟩⟩⟩⟩⟩⟩⟩⟩⟩⟩⟩⟩⟩⟩⟩⟩⟩⟩⟩⟩⟩⟩⟩⟩⟩⟩⟩⟩⟩⟩⟩⟩⟩⟩⟩⟩⟩⟩⟩⟩⟩⟩⟩⟩⟩
def lkRJ9 : List Lnk := []
theorem lkRJ9_ok : ∀ q ∈ lkRJ9, LnkOK MT RJ9 q := fun _ h => absurd h List.not_mem_nil
def lkRJ7 : List Lnk := []
theorem lkRJ7_ok : ∀ q ∈ lkRJ7, LnkOK MT RJ7 q := fun _ h => absurd h List.not_mem_nil
