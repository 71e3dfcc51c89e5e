abbrev mj_I : Type := Nat × ByteArray × Nat × Option FieldType × MethodName × Nat × Nat × List Nat
abbrev mj_M : Type := Nat → Nat → Int32
abbrev mj_r0 : mj_I := (8, prog_2_method_2_code, 9, (some .int), ⟨"CourtHand$Blots", "doLines", "(LCourtHand$Tape;ILCourtHand$Court;)I"⟩, 3, 100, [607, 606, 606, 104])
abbrev mj_r1 : mj_I := (8, prog_2_method_3_code, 7, (some .int), ⟨"CourtHand$Blots", "faultAhead", "(LCourtHand$Tape;IIILCourtHand$Court;)I"⟩, 5, 100, [610, 609, 609, 104])
abbrev mj_r2 : mj_I := (8, prog_2_method_4_code, 5, (some .int), ⟨"CourtHand$Blots", "lineEnd", "(LCourtHand$Tape;II)I"⟩, 3, 100, [617, 616, 616, 104])
abbrev mj_r3 : mj_I := (8, prog_2_method_5_code, 6, (some .int), ⟨"CourtHand$Blots", "blotted", "(ILCourtHand$Tape;II)I"⟩, 4, 100, [624, 623, 623, 104])
abbrev mj_r4 : mj_I := (0, prog_3_method_2_code, 2, none, ⟨"CourtHand$Court", "copyFrom", "(LCourtHand$Court;)V"⟩, 1, 0, [603, 601, 602, 89])
abbrev mj_r5 : mj_I := (0, prog_3_method_3_code, 2, (some .boolean), ⟨"CourtHand$Court", "has", "(I)Z"⟩, 1, 0, [356, 354, 355, 89])
abbrev mj_r6 : mj_I := (0, prog_3_method_4_code, 4, none, ⟨"CourtHand$Court", "tell", "(III)V"⟩, 3, 0, [342, 340, 341, 89])
abbrev mj_r7 : mj_I := (0, prog_3_method_5_code, 4, none, ⟨"CourtHand$Court", "setForm", "(III)V"⟩, 3, 0, [364, 362, 363, 89])
abbrev mj_r8 : mj_I := (0, prog_3_method_6_code, 4, (some .int), ⟨"CourtHand$Court", "formAt", "(II)I"⟩, 2, 0, [621, 619, 620, 89])
abbrev mj_r9 : mj_I := (0, prog_3_method_7_code, 5, (some .int), ⟨"CourtHand$Court", "faultsOf", "(I)I"⟩, 1, 0, [662, 660, 661, 89])
abbrev mj_r10 : mj_I := (0, prog_3_method_8_code, 5, (some .int), ⟨"CourtHand$Court", "handsApart", "(II)I"⟩, 2, 0, [848, 846, 847, 89])
abbrev mj_r11 : mj_I := (0, prog_3_method_9_code, 3, none, ⟨"CourtHand$Court", "rankAll", "()V"⟩, 0, 0, [658, 656, 657, 89])
abbrev mj_r12 : mj_I := (0, prog_3_method_10_code, 3, (some .boolean), ⟨"CourtHand$Court", "isAhead", "(II)Z"⟩, 2, 0, [673, 672, 18, 89])
abbrev mj_r13 : mj_I := (0, prog_3_method_11_code, 2, (some .int), ⟨"CourtHand$Court", "firstInRank", "()I"⟩, 0, 0, [735, 733, 734, 89])
abbrev mj_r14 : mj_I := (0, prog_3_method_12_code, 4, none, ⟨"CourtHand$Court", "passMoons", "(ILCourtHand$Law;)V"⟩, 2, 0, [650, 648, 649, 89])
abbrev mj_r15 : mj_I := (0, prog_3_method_13_code, 3, none, ⟨"CourtHand$Court", "passMoon", "(LCourtHand$Law;)V"⟩, 1, 0, [654, 653, 17, 89])
abbrev mj_r16 : mj_I := (0, prog_3_method_14_code, 4, none, ⟨"CourtHand$Court", "takeTurn", "(ILCourtHand$Law;)V"⟩, 2, 0, [677, 676, 19, 89])
abbrev mj_r17 : mj_I := (0, prog_3_method_15_code, 10, none, ⟨"CourtHand$Court", "practise", "(IILCourtHand$Law;)V"⟩, 3, 0, [708, 707, 21, 89])
abbrev mj_r18 : mj_I := (0, prog_3_method_16_code, 5, none, ⟨"CourtHand$Court", "mend", "(II)V"⟩, 2, 0, [722, 721, 23, 89])
abbrev mj_r19 : mj_I := (0, prog_3_method_17_code, 1, (some .int), ⟨"CourtHand$Court", "draw", "()I"⟩, 0, 0, [717, 716, 22, 89])
abbrev mj_r20 : mj_I := (9, prog_4_method_2_code, 1, (some .boolean), ⟨"CourtHand$Grids", "fits", "(I)Z"⟩, 1, 100, [329, 328, 328, 96])
abbrev mj_r21 : mj_I := (9, prog_4_method_3_code, 2, (some .int), ⟨"CourtHand$Grids", "gap", "(II)I"⟩, 2, 100, [775, 774, 774, 96])
abbrev mj_r22 : mj_I := (9, prog_4_method_4_code, 1, (some .int), ⟨"CourtHand$Grids", "toLeft", "(I)I"⟩, 1, 100, [628, 627, 627, 96])
abbrev mj_r23 : mj_I := (9, prog_4_method_5_code, 1, (some .int), ⟨"CourtHand$Grids", "toRight", "(I)I"⟩, 1, 100, [632, 631, 631, 96])
abbrev mj_r24 : mj_I := (9, prog_4_method_6_code, 1, (some .int), ⟨"CourtHand$Grids", "toTop", "(I)I"⟩, 1, 100, [892, 891, 891, 96])
abbrev mj_r25 : mj_I := (9, prog_4_method_7_code, 1, (some .int), ⟨"CourtHand$Grids", "toBottom", "(I)I"⟩, 1, 100, [895, 894, 894, 96])
abbrev mj_r26 : mj_I := (9, prog_4_method_8_code, 1, (some .int), ⟨"CourtHand$Grids", "mirrored", "(I)I"⟩, 1, 100, [636, 635, 635, 96])
abbrev mj_r27 : mj_I := (9, prog_4_method_9_code, 5, (some .int), ⟨"CourtHand$Grids", "turned", "(I)I"⟩, 1, 100, [906, 905, 905, 96])
abbrev mj_r28 : mj_I := (9, prog_4_method_10_code, 4, (some .int), ⟨"CourtHand$Grids", "likeness", "(II)I"⟩, 2, 100, [917, 916, 916, 96])
abbrev mj_r29 : mj_I := (9, prog_4_method_11_code, 7, (some .int), ⟨"CourtHand$Grids", "lowestPart", "(IZ)I"⟩, 2, 100, [887, 886, 886, 96])
abbrev mj_r30 : mj_I := (9, prog_4_method_12_code, 5, (some .int), ⟨"CourtHand$Grids", "loops", "(I)I"⟩, 1, 100, [884, 883, 883, 96])
abbrev mj_r31 : mj_I := (9, prog_4_method_13_code, 4, (some .int), ⟨"CourtHand$Grids", "strokes", "(I)I"⟩, 1, 100, [899, 898, 898, 96])
abbrev mj_r32 : mj_I := (9, prog_4_method_14_code, 8, (some .int), ⟨"CourtHand$Grids", "cross", "(I)I"⟩, 1, 100, [902, 901, 901, 96])
abbrev mj_r33 : mj_I := (9, prog_4_method_15_code, 6, (some .int), ⟨"CourtHand$Grids", "penLifts", "(I)I"⟩, 1, 100, [909, 908, 908, 96])
abbrev mj_r34 : mj_I := (1, prog_5_method_2_code, 5, none, ⟨"CourtHand$Law", "meet", "(IIII)V"⟩, 4, 1, [681, 679, 680, 94])
abbrev mj_r35 : mj_I := (1, prog_5_method_3_code, 3, none, ⟨"CourtHand$Law", "see", "(II)V"⟩, 2, 1, [685, 683, 684, 94])
abbrev mj_r36 : mj_I := (1, prog_5_method_4_code, 4, none, ⟨"CourtHand$Law", "lookAt", "(III)V"⟩, 3, 1, [689, 687, 688, 94])
abbrev mj_r37 : mj_I := (1, prog_5_method_5_code, 4, (some .int), ⟨"CourtHand$Law", "worth", "(II)I"⟩, 2, 1, [693, 691, 692, 94])
abbrev mj_r38 : mj_I := (1, prog_5_method_6_code, 2, (some .boolean), ⟨"CourtHand$Law", "forbids", "()Z"⟩, 0, 1, [713, 711, 712, 94])
abbrev mj_r39 : mj_I := (1, prog_5_method_7_code, 7, (some .int), ⟨"CourtHand$Law", "run", "(I)I"⟩, 1, 1, [697, 696, 20, 94])
abbrev mj_r40 : mj_I := (1, prog_5_method_8_code, 3, (some .int), ⟨"CourtHand$Law", "reckon", "(III)I"⟩, 3, 100, [700, 699, 699, 94])
abbrev mj_r41 : mj_I := (1, prog_5_method_9_code, 1, none, ⟨"CourtHand$Law", "begin", "()V"⟩, 0, 1, [392, 390, 391, 94])
abbrev mj_r42 : mj_I := (1, prog_5_method_10_code, 2, none, ⟨"CourtHand$Law", "put", "(I)V"⟩, 1, 1, [529, 527, 528, 94])
abbrev mj_r43 : mj_I := (1, prog_5_method_11_code, 2, (some .int), ⟨"CourtHand$Law", "putLeap", "(I)I"⟩, 1, 1, [549, 547, 548, 94])
abbrev mj_r44 : mj_I := (1, prog_5_method_12_code, 2, none, ⟨"CourtHand$Law", "endLeap", "(I)V"⟩, 1, 1, [554, 552, 553, 94])
abbrev mj_r45 : mj_I := (1, prog_5_method_13_code, 4, none, ⟨"CourtHand$Law", "addRule", "(III)V"⟩, 3, 1, [558, 556, 557, 94])
abbrev mj_r46 : mj_I := (2, prog_6_method_2_code, 3, (some (.object "CourtHand$Law")), ⟨"CourtHand$LawReader", "handOver", "(LCourtHand$Law;)LCourtHand$Law;"⟩, 1, 2, [562, 560, 561, 93])
abbrev mj_r47 : mj_I := (2, prog_6_method_3_code, 3, (some .int), ⟨"CourtHand$LawReader", "readLaw", "(I)I"⟩, 1, 2, [388, 386, 387, 93])
abbrev mj_r48 : mj_I := (2, prog_6_method_4_code, 1, (some .int), ⟨"CourtHand$LawReader", "sign", "()I"⟩, 0, 2, [400, 399, 1, 93])
abbrev mj_r49 : mj_I := (2, prog_6_method_5_code, 4, (some .boolean), ⟨"CourtHand$LawReader", "isSign", "(II)Z"⟩, 2, 2, [533, 532, 9, 93])
abbrev mj_r50 : mj_I := (2, prog_6_method_6_code, 2, none, ⟨"CourtHand$LawReader", "fail", "(I)V"⟩, 1, 2, [408, 407, 2, 93])
abbrev mj_r51 : mj_I := (2, prog_6_method_7_code, 2, none, ⟨"CourtHand$LawReader", "pass", "(I)V"⟩, 1, 2, [518, 517, 7, 93])
abbrev mj_r52 : mj_I := (2, prog_6_method_8_code, 2, (some .boolean), ⟨"CourtHand$LawReader", "opens", "(I)Z"⟩, 1, 2, [514, 513, 6, 93])
abbrev mj_r53 : mj_I := (2, prog_6_method_9_code, 4, none, ⟨"CourtHand$LawReader", "readRule", "()V"⟩, 0, 2, [396, 395, 0, 93])
abbrev mj_r54 : mj_I := (2, prog_6_method_10_code, 4, none, ⟨"CourtHand$LawReader", "readCondition", "(I)V"⟩, 1, 2, [537, 536, 10, 93])
abbrev mj_r55 : mj_I := (2, prog_6_method_11_code, 4, none, ⟨"CourtHand$LawReader", "readPart", "(I)V"⟩, 1, 2, [541, 540, 11, 93])
abbrev mj_r56 : mj_I := (2, prog_6_method_12_code, 4, none, ⟨"CourtHand$LawReader", "readTest", "(I)V"⟩, 1, 2, [545, 544, 12, 93])
abbrev mj_r57 : mj_I := (2, prog_6_method_13_code, 4, none, ⟨"CourtHand$LawReader", "readSum", "(I)V"⟩, 1, 2, [415, 414, 3, 93])
abbrev mj_r58 : mj_I := (2, prog_6_method_14_code, 4, none, ⟨"CourtHand$LawReader", "readProduct", "(I)V"⟩, 1, 2, [419, 418, 4, 93])
abbrev mj_r59 : mj_I := (2, prog_6_method_15_code, 4, none, ⟨"CourtHand$LawReader", "readFactor", "(I)V"⟩, 1, 2, [423, 422, 5, 93])
abbrev mj_r60 : mj_I := (2, prog_6_method_16_code, 3, none, ⟨"CourtHand$LawReader", "readNumber", "()V"⟩, 0, 2, [525, 524, 8, 93])
abbrev mj_r61 : mj_I := (2, prog_6_method_17_code, 1, (some .boolean), ⟨"CourtHand$LawReader", "isDigit", "(I)Z"⟩, 1, 100, [521, 520, 520, 93])
abbrev mj_r62 : mj_I := (3, prog_7_method_2_code, 2, (some .boolean), ⟨"CourtHand$Models", "has", "(I)Z"⟩, 1, 3, [360, 358, 359, 88])
abbrev mj_r63 : mj_I := (3, prog_7_method_3_code, 3, none, ⟨"CourtHand$Models", "tell", "(II)V"⟩, 2, 3, [334, 332, 333, 88])
abbrev mj_r64 : mj_I := (3, prog_7_method_4_code, 6, (some .int), ⟨"CourtHand$Models", "nearest", "(I)I"⟩, 1, 3, [754, 752, 753, 88])
abbrev mj_r65 : mj_I := (3, prog_7_method_5_code, 5, (some .int), ⟨"CourtHand$Models", "behind", "(II)I"⟩, 2, 3, [815, 813, 814, 88])
abbrev mj_r66 : mj_I := (3, prog_7_method_6_code, 5, (some .int), ⟨"CourtHand$Models", "leastApart", "(I)I"⟩, 1, 3, [927, 925, 926, 88])
abbrev mj_r67 : mj_I := (4, prog_8_method_2_code, 8, (some .int), ⟨"CourtHand$Order", "readOrder", "(LCourtHand$Tape;I)I"⟩, 2, 4, [571, 569, 570, 92])
abbrev mj_r68 : mj_I := (4, prog_8_method_3_code, 2, (some .int), ⟨"CourtHand$Order", "openRound", "(I)I"⟩, 1, 4, [579, 578, 13, 92])
abbrev mj_r69 : mj_I := (4, prog_8_method_4_code, 3, (some .int), ⟨"CourtHand$Order", "shutRound", "(II)I"⟩, 2, 4, [584, 583, 14, 92])
abbrev mj_r70 : mj_I := (4, prog_8_method_5_code, 4, (some .int), ⟨"CourtHand$Order", "putLetter", "(III)I"⟩, 3, 4, [592, 591, 16, 92])
abbrev mj_r71 : mj_I := (4, prog_8_method_6_code, 7, (some .int), ⟨"CourtHand$Order", "repeat", "(III)I"⟩, 3, 4, [588, 587, 15, 92])
abbrev mj_r72 : mj_I := (4, prog_8_method_7_code, 4, (some .int), ⟨"CourtHand$Order", "timesAt", "(LCourtHand$Tape;II)I"⟩, 3, 100, [575, 574, 574, 92])
abbrev mj_r73 : mj_I := (5, prog_9_method_2_code, 1, (some .boolean), ⟨"CourtHand$Tape", "hasRoom", "()Z"⟩, 0, 5, [372, 370, 371, 91])
abbrev mj_r74 : mj_I := (5, prog_9_method_3_code, 3, none, ⟨"CourtHand$Tape", "addInt", "(I)V"⟩, 1, 5, [376, 374, 375, 91])
abbrev mj_r75 : mj_I := (5, prog_9_method_4_code, 4, (some .boolean), ⟨"CourtHand$Tape", "has", "(III)Z"⟩, 3, 5, [384, 382, 383, 91])
abbrev mj_r76 : mj_I := (5, prog_9_method_5_code, 2, (some .int), ⟨"CourtHand$Tape", "byteAt", "(I)I"⟩, 1, 5, [404, 402, 403, 91])
abbrev mj_r77 : mj_I := (5, prog_9_method_6_code, 4, (some .int), ⟨"CourtHand$Tape", "intAt", "(I)I"⟩, 1, 5, [830, 828, 829, 91])
abbrev mj_r78 : mj_I := (6, prog_1_method_2_code, 3, (some .boolean), ⟨"CourtHand", "model", "(II)Z"⟩, 2, 6, [326, 324, 325, 87])
abbrev mj_r79 : mj_I := (6, prog_1_method_3_code, 4, (some .boolean), ⟨"CourtHand", "courtier", "(III)Z"⟩, 3, 6, [338, 336, 337, 87])
abbrev mj_r80 : mj_I := (6, prog_1_method_4_code, 4, (some .boolean), ⟨"CourtHand", "form", "(III)Z"⟩, 3, 6, [352, 350, 351, 87])
abbrev mj_r81 : mj_I := (6, prog_1_method_5_code, 6, (some .int), ⟨"CourtHand", "feed", "(IIIII)I"⟩, 5, 6, [368, 366, 367, 87])
abbrev mj_r82 : mj_I := (6, prog_1_method_6_code, 3, (some .int), ⟨"CourtHand", "law", "(I)I"⟩, 1, 6, [380, 378, 379, 87])
abbrev mj_r83 : mj_I := (6, prog_1_method_7_code, 3, (some .int), ⟨"CourtHand", "order", "(I)I"⟩, 1, 6, [567, 565, 566, 87])
abbrev mj_r84 : mj_I := (6, prog_1_method_8_code, 3, (some .int), ⟨"CourtHand", "blots", "(I)I"⟩, 1, 6, [599, 597, 598, 87])
abbrev mj_r85 : mj_I := (6, prog_1_method_9_code, 2, (some .int), ⟨"CourtHand", "moons", "(I)I"⟩, 1, 6, [646, 644, 645, 87])
abbrev mj_r86 : mj_I := (6, prog_1_method_10_code, 3, (some .int), ⟨"CourtHand", "tried", "(II)I"⟩, 2, 6, [727, 725, 726, 87])
abbrev mj_r87 : mj_I := (6, prog_1_method_11_code, 2, (some .boolean), ⟨"CourtHand", "canBeTried", "(I)Z"⟩, 1, 6, [731, 730, 24, 87])
abbrev mj_r88 : mj_I := (6, prog_1_method_12_code, 3, (some .int), ⟨"CourtHand", "triedOfOne", "(II)I"⟩, 2, 6, [739, 738, 25, 87])
abbrev mj_r89 : mj_I := (6, prog_1_method_13_code, 3, (some .int), ⟨"CourtHand", "courtierIs", "(II)I"⟩, 2, 6, [745, 743, 744, 87])
abbrev mj_r90 : mj_I := (6, prog_1_method_14_code, 5, (some .int), ⟨"CourtHand", "formsRead", "(IZ)I"⟩, 2, 6, [749, 748, 26, 87])
abbrev mj_r91 : mj_I := (6, prog_1_method_15_code, 3, (some .int), ⟨"CourtHand", "formOf", "(II)I"⟩, 2, 6, [760, 758, 759, 87])
abbrev mj_r92 : mj_I := (6, prog_1_method_16_code, 2, (some .int), ⟨"CourtHand", "modelOf", "(I)I"⟩, 1, 6, [764, 762, 763, 87])
abbrev mj_r93 : mj_I := (6, prog_1_method_17_code, 2, (some .int), ⟨"CourtHand", "read", "(I)I"⟩, 1, 6, [768, 766, 767, 87])
abbrev mj_r94 : mj_I := (6, prog_1_method_18_code, 3, (some .int), ⟨"CourtHand", "apart", "(II)I"⟩, 2, 6, [772, 770, 771, 87])
abbrev mj_r95 : mj_I := (6, prog_1_method_19_code, 6, (some .int), ⟨"CourtHand", "written", "(II)I"⟩, 2, 6, [780, 778, 779, 87])
abbrev mj_r96 : mj_I := (6, prog_1_method_20_code, 6, (some .int), ⟨"CourtHand", "writtenLetter", "(III)I"⟩, 3, 6, [789, 788, 28, 87])
abbrev mj_r97 : mj_I := (6, prog_1_method_21_code, 5, (some .int), ⟨"CourtHand", "inkLastsFor", "(I)I"⟩, 1, 6, [784, 783, 27, 87])
abbrev mj_r98 : mj_I := (6, prog_1_method_22_code, 5, (some .int), ⟨"CourtHand", "copied", "(II)I"⟩, 2, 6, [793, 791, 792, 87])
abbrev mj_r99 : mj_I := (6, prog_1_method_23_code, 9, (some .int), ⟨"CourtHand", "copyAlong", "(I)I"⟩, 1, 6, [798, 797, 29, 87])
abbrev mj_r100 : mj_I := (6, prog_1_method_24_code, 4, (some .int), ⟨"CourtHand", "placesAsTheyWere", "(I)I"⟩, 1, 6, [803, 802, 30, 87])
abbrev mj_r101 : mj_I := (6, prog_1_method_25_code, 5, (some .int), ⟨"CourtHand", "another", "(III)I"⟩, 3, 6, [807, 805, 806, 87])
abbrev mj_r102 : mj_I := (6, prog_1_method_26_code, 6, (some .int), ⟨"CourtHand", "fewestDots", "(II)I"⟩, 2, 6, [811, 810, 31, 87])
abbrev mj_r103 : mj_I := (6, prog_1_method_27_code, 10, (some .int), ⟨"CourtHand", "leastDots", "(III)I"⟩, 3, 6, [822, 821, 32, 87])
abbrev mj_r104 : mj_I := (6, prog_1_method_28_code, 6, (some .int), ⟨"CourtHand", "whose", "(II)I"⟩, 2, 6, [826, 824, 825, 87])
abbrev mj_r105 : mj_I := (6, prog_1_method_29_code, 8, (some .int), ⟨"CourtHand", "nearestHand", "(II)I"⟩, 2, 6, [835, 834, 33, 87])
abbrev mj_r106 : mj_I := (6, prog_1_method_30_code, 6, (some .int), ⟨"CourtHand", "farFromSheet", "(II)I"⟩, 2, 6, [840, 839, 34, 87])
abbrev mj_r107 : mj_I := (6, prog_1_method_31_code, 3, (some .int), ⟨"CourtHand", "forge", "(II)I"⟩, 2, 6, [844, 842, 843, 87])
abbrev mj_r108 : mj_I := (6, prog_1_method_32_code, 3, (some .int), ⟨"CourtHand", "alike", "(II)I"⟩, 2, 6, [853, 851, 852, 87])
abbrev mj_r109 : mj_I := (6, prog_1_method_33_code, 4, none, ⟨"CourtHand", "markNear", "(I)V"⟩, 1, 6, [857, 856, 35, 87])
abbrev mj_r110 : mj_I := (6, prog_1_method_34_code, 4, (some .int), ⟨"CourtHand", "groups", "()I"⟩, 0, 6, [861, 860, 36, 87])
abbrev mj_r111 : mj_I := (6, prog_1_method_35_code, 5, (some .int), ⟨"CourtHand", "groupOf", "(I)I"⟩, 1, 6, [865, 864, 37, 87])
abbrev mj_r112 : mj_I := (6, prog_1_method_36_code, 7, (some .int), ⟨"CourtHand", "rises", "(II)I"⟩, 2, 6, [869, 867, 868, 87])
abbrev mj_r113 : mj_I := (6, prog_1_method_37_code, 1, (some .int), ⟨"CourtHand", "commands", "()I"⟩, 0, 6, [873, 871, 872, 87])
abbrev mj_r114 : mj_I := (6, prog_1_method_38_code, 9, (some .int), ⟨"CourtHand", "clear", "(II)I"⟩, 2, 6, [877, 875, 876, 87])
abbrev mj_r115 : mj_I := (6, prog_1_method_39_code, 3, (some .int), ⟨"CourtHand", "shape", "(II)I"⟩, 2, 6, [881, 879, 880, 87])
abbrev mj_r116 : mj_I := (6, prog_1_method_40_code, 3, (some .int), ⟨"CourtHand", "like", "(II)I"⟩, 2, 6, [914, 912, 913, 87])
abbrev mj_r117 : mj_I := (6, prog_1_method_41_code, 7, (some .int), ⟨"CourtHand", "toldApart", "(II)I"⟩, 2, 6, [923, 921, 922, 87])
abbrev mj_r118 : mj_I := (6, prog_1_method_42_code, 2, (some .boolean), ⟨"CourtHand", "seed", "(I)Z"⟩, 1, 6, [931, 929, 930, 87])
abbrev mj_r119 : mj_I := (6, prog_1_method_43_code, 1, (some .int), ⟨"CourtHand", "keep", "()I"⟩, 0, 6, [936, 934, 935, 87])
abbrev mj_r120 : mj_I := (6, prog_1_method_44_code, 1, (some .boolean), ⟨"CourtHand", "undo", "()Z"⟩, 0, 6, [940, 938, 939, 87])
abbrev mj_r121 : mj_I := (6, prog_1_method_45_code, 4, (some .int), ⟨"CourtHand", "check", "(I)I"⟩, 1, 6, [944, 942, 943, 87])
abbrev mj_r122 : mj_I := (6, prog_1_method_46_code, 2, (some .int), ⟨"CourtHand", "count", "(I)I"⟩, 1, 6, [948, 946, 947, 87])
abbrev mj_r123 : mj_I := (6, prog_1_method_47_code, 2, (some .int), ⟨"CourtHand", "fault", "(II)I"⟩, 2, 100, [411, 410, 410, 87])
abbrev mj_r124 : mj_I := (7, prog_11_method_2_code, 3, (some .boolean), ⟨"CourtHandModel", "in", "(III)Z"⟩, 3, 100, [1100, 1099, 1099, 95])
abbrev mj_r125 : mj_I := (7, prog_11_method_3_code, 2, (some .int), ⟨"CourtHandModel", "min", "(II)I"⟩, 2, 100, [1316, 1315, 1315, 95])
abbrev mj_r126 : mj_I := (7, prog_11_method_4_code, 2, (some .int), ⟨"CourtHandModel", "max", "(II)I"⟩, 2, 100, [1450, 1449, 1449, 95])
abbrev mj_r127 : mj_I := (7, prog_11_method_5_code, 2, (some .boolean), ⟨"CourtHandModel", "has", "(II)Z"⟩, 2, 100, [1265, 1264, 1264, 95])
abbrev mj_r128 : mj_I := (7, prog_11_method_6_code, 3, (some .int), ⟨"CourtHandModel", "bits", "(I)I"⟩, 1, 100, [1298, 1297, 1297, 95])
abbrev mj_r129 : mj_I := (7, prog_11_method_7_code, 3, none, ⟨"CourtHandModel", "copies", "([I[I)V"⟩, 2, 100, [1245, 1244, 1244, 95])
abbrev mj_r130 : mj_I := (7, prog_11_method_8_code, 1, (some .boolean), ⟨"CourtHandModel", "isGrid", "(I)Z"⟩, 1, 100, [1103, 1102, 1102, 95])
abbrev mj_r131 : mj_I := (7, prog_11_method_9_code, 2, (some .boolean), ⟨"CourtHandModel", "isLetter", "(I)Z"⟩, 1, 7, [1123, 1122, 39, 95])
abbrev mj_r132 : mj_I := (7, prog_11_method_10_code, 2, (some .boolean), ⟨"CourtHandModel", "isTold", "(I)Z"⟩, 1, 7, [1119, 1118, 38, 95])
abbrev mj_r133 : mj_I := (7, prog_11_method_11_code, 3, (some .int), ⟨"CourtHandModel", "modelSet", "()I"⟩, 0, 7, [1386, 1385, 80, 95])
abbrev mj_r134 : mj_I := (7, prog_11_method_12_code, 3, (some .int), ⟨"CourtHandModel", "toldSet", "()I"⟩, 0, 7, [1390, 1389, 81, 95])
abbrev mj_r135 : mj_I := (7, prog_11_method_13_code, 2, (some .int), ⟨"CourtHandModel", "own", "(II)I"⟩, 2, 100, [1111, 1110, 1110, 95])
abbrev mj_r136 : mj_I := (7, prog_11_method_14_code, 3, (some .int), ⟨"CourtHandModel", "formNow", "(II)I"⟩, 2, 7, [1253, 1252, 65, 95])
abbrev mj_r137 : mj_I := (7, prog_11_method_15_code, 4, (some .int), ⟨"CourtHandModel", "faultsOf", "(I)I"⟩, 1, 7, [1295, 1294, 70, 95])
abbrev mj_r138 : mj_I := (7, prog_11_method_16_code, 5, (some .boolean), ⟨"CourtHandModel", "isAhead", "(II)Z"⟩, 2, 7, [1291, 1290, 69, 95])
abbrev mj_r139 : mj_I := (7, prog_11_method_17_code, 4, (some .int), ⟨"CourtHandModel", "rankOf", "(I)I"⟩, 1, 7, [1287, 1286, 68, 95])
abbrev mj_r140 : mj_I := (7, prog_11_method_18_code, 6, (some .int), ⟨"CourtHandModel", "readsAs", "(I)I"⟩, 1, 7, [1345, 1344, 78, 95])
abbrev mj_r141 : mj_I := (7, prog_11_method_19_code, 3, (some .boolean), ⟨"CourtHandModel", "model", "(II)Z"⟩, 2, 7, [1097, 1095, 1096, 95])
abbrev mj_r142 : mj_I := (7, prog_11_method_20_code, 5, (some .boolean), ⟨"CourtHandModel", "courtier", "(III)Z"⟩, 3, 7, [1108, 1106, 1107, 95])
abbrev mj_r143 : mj_I := (7, prog_11_method_21_code, 4, (some .boolean), ⟨"CourtHandModel", "form", "(III)Z"⟩, 3, 7, [1115, 1113, 1114, 95])
abbrev mj_r144 : mj_I := (7, prog_11_method_22_code, 3, none, ⟨"CourtHandModel", "types", "(I)V"⟩, 1, 7, [1131, 1130, 40, 95])
abbrev mj_r145 : mj_I := (7, prog_11_method_23_code, 6, (some .int), ⟨"CourtHandModel", "feed", "(IIIII)I"⟩, 5, 7, [1127, 1125, 1126, 95])
abbrev mj_r146 : mj_I := (7, prog_11_method_24_code, 2, (some .int), ⟨"CourtHandModel", "octet", "(I)I"⟩, 1, 7, [1234, 1233, 62, 95])
abbrev mj_r147 : mj_I := (7, prog_11_method_25_code, 1, (some .int), ⟨"CourtHandModel", "here", "()I"⟩, 0, 7, [1147, 1146, 43, 95])
abbrev mj_r148 : mj_I := (7, prog_11_method_26_code, 1, (some .boolean), ⟨"CourtHandModel", "isDigit", "()Z"⟩, 0, 7, [1168, 1167, 48, 95])
abbrev mj_r149 : mj_I := (7, prog_11_method_27_code, 3, (some .boolean), ⟨"CourtHandModel", "wrongAt", "(II)Z"⟩, 2, 7, [1151, 1150, 44, 95])
abbrev mj_r150 : mj_I := (7, prog_11_method_28_code, 2, (some .boolean), ⟨"CourtHandModel", "takes", "(I)Z"⟩, 1, 7, [1218, 1217, 59, 95])
abbrev mj_r151 : mj_I := (7, prog_11_method_29_code, 2, (some .boolean), ⟨"CourtHandModel", "readsNumber", "()Z"⟩, 0, 7, [1172, 1171, 49, 95])
abbrev mj_r152 : mj_I := (7, prog_11_method_30_code, 3, none, ⟨"CourtHandModel", "notes", "(II)V"⟩, 2, 7, [1176, 1175, 50, 95])
abbrev mj_r153 : mj_I := (7, prog_11_method_31_code, 2, (some .boolean), ⟨"CourtHandModel", "opens", "(I)Z"⟩, 1, 7, [1163, 1162, 47, 95])
abbrev mj_r154 : mj_I := (7, prog_11_method_32_code, 1, (some .int), ⟨"CourtHandModel", "waitTop", "()I"⟩, 0, 7, [1190, 1189, 52, 95])
abbrev mj_r155 : mj_I := (7, prog_11_method_33_code, 1, (some .int), ⟨"CourtHandModel", "factOf", "(I)I"⟩, 1, 100, [1179, 1178, 1178, 95])
abbrev mj_r156 : mj_I := (7, prog_11_method_34_code, 1, (some .int), ⟨"CourtHandModel", "sumSign", "(I)I"⟩, 1, 100, [1182, 1181, 1181, 95])
abbrev mj_r157 : mj_I := (7, prog_11_method_35_code, 2, none, ⟨"CourtHandModel", "closesSums", "(Z)V"⟩, 1, 7, [1186, 1185, 51, 95])
abbrev mj_r158 : mj_I := (7, prog_11_method_36_code, 2, (some .boolean), ⟨"CourtHandModel", "readsFactor", "()Z"⟩, 0, 7, [1159, 1158, 46, 95])
abbrev mj_r159 : mj_I := (7, prog_11_method_37_code, 3, (some .boolean), ⟨"CourtHandModel", "hasOpenSum", "(I)Z"⟩, 1, 7, [1194, 1193, 53, 95])
abbrev mj_r160 : mj_I := (7, prog_11_method_38_code, 3, (some .boolean), ⟨"CourtHandModel", "readsSum", "()Z"⟩, 0, 7, [1155, 1154, 45, 95])
abbrev mj_r161 : mj_I := (7, prog_11_method_39_code, 1, none, ⟨"CourtHandModel", "endsPiece", "()V"⟩, 0, 7, [1206, 1205, 56, 95])
abbrev mj_r162 : mj_I := (7, prog_11_method_40_code, 3, none, ⟨"CourtHandModel", "lands", "(Z)V"⟩, 1, 7, [1210, 1209, 57, 95])
abbrev mj_r163 : mj_I := (7, prog_11_method_41_code, 2, none, ⟨"CourtHandModel", "jumps", "(I)V"⟩, 1, 7, [1214, 1213, 58, 95])
abbrev mj_r164 : mj_I := (7, prog_11_method_42_code, 2, (some .boolean), ⟨"CourtHandModel", "readsCompared", "()Z"⟩, 0, 7, [1202, 1201, 55, 95])
abbrev mj_r165 : mj_I := (7, prog_11_method_43_code, 1, (some .boolean), ⟨"CourtHandModel", "readsCondition", "()Z"⟩, 0, 7, [1198, 1197, 54, 95])
abbrev mj_r166 : mj_I := (7, prog_11_method_44_code, 2, (some .boolean), ⟨"CourtHandModel", "readsRule", "()Z"⟩, 0, 7, [1143, 1142, 42, 95])
abbrev mj_r167 : mj_I := (7, prog_11_method_45_code, 2, none, ⟨"CourtHandModel", "beginsText", "(I)V"⟩, 1, 7, [1139, 1138, 41, 95])
abbrev mj_r168 : mj_I := (7, prog_11_method_46_code, 4, (some .int), ⟨"CourtHandModel", "law", "(I)I"⟩, 1, 7, [1135, 1133, 1134, 95])
abbrev mj_r169 : mj_I := (7, prog_11_method_47_code, 3, (some .int), ⟨"CourtHandModel", "reckon", "(III)I"⟩, 3, 100, [1313, 1312, 1312, 95])
abbrev mj_r170 : mj_I := (7, prog_11_method_48_code, 8, (some .int), ⟨"CourtHandModel", "comesTo", "(II)I"⟩, 2, 7, [1310, 1309, 73, 95])
abbrev mj_r171 : mj_I := (7, prog_11_method_49_code, 5, (some .int), ⟨"CourtHandModel", "byLaw", "(II)I"⟩, 2, 7, [1306, 1305, 72, 95])
abbrev mj_r172 : mj_I := (7, prog_11_method_50_code, 3, (some .boolean), ⟨"CourtHandModel", "holdsAny", "(I)Z"⟩, 1, 7, [1324, 1323, 75, 95])
abbrev mj_r173 : mj_I := (7, prog_11_method_51_code, 1, (some .int), ⟨"CourtHandModel", "readsTimes", "()I"⟩, 0, 7, [1230, 1229, 61, 95])
abbrev mj_r174 : mj_I := (7, prog_11_method_52_code, 6, (some .boolean), ⟨"CourtHandModel", "repeats", "(III)Z"⟩, 3, 7, [1238, 1237, 63, 95])
abbrev mj_r175 : mj_I := (7, prog_11_method_53_code, 4, (some .boolean), ⟨"CourtHandModel", "readsItem", "()Z"⟩, 0, 7, [1226, 1225, 60, 95])
abbrev mj_r176 : mj_I := (7, prog_11_method_54_code, 4, (some .int), ⟨"CourtHandModel", "order", "(I)I"⟩, 1, 7, [1222, 1220, 1221, 95])
abbrev mj_r177 : mj_I := (7, prog_11_method_55_code, 2, (some .int), ⟨"CourtHandModel", "dot", "(II)I"⟩, 2, 100, [1271, 1270, 1270, 95])
abbrev mj_r178 : mj_I := (7, prog_11_method_56_code, 3, (some .int), ⟨"CourtHandModel", "mirroredOf", "(I)I"⟩, 1, 100, [1268, 1267, 1267, 95])
abbrev mj_r179 : mj_I := (7, prog_11_method_57_code, 3, (some .int), ⟨"CourtHandModel", "turnedOf", "(I)I"⟩, 1, 100, [1453, 1452, 1452, 95])
abbrev mj_r180 : mj_I := (7, prog_11_method_58_code, 4, (some .int), ⟨"CourtHandModel", "movedOf", "(II)I"⟩, 2, 100, [1262, 1261, 1261, 95])
abbrev mj_r181 : mj_I := (7, prog_11_method_59_code, 2, (some .int), ⟨"CourtHandModel", "blotted", "(II)I"⟩, 2, 100, [1259, 1258, 1258, 95])
abbrev mj_r182 : mj_I := (7, prog_11_method_60_code, 1, (some .boolean), ⟨"CourtHandModel", "isSign", "(I)Z"⟩, 1, 100, [1256, 1255, 1255, 95])
abbrev mj_r183 : mj_I := (7, prog_11_method_61_code, 4, (some .boolean), ⟨"CourtHandModel", "readsBlot", "()Z"⟩, 0, 7, [1249, 1248, 64, 95])
abbrev mj_r184 : mj_I := (7, prog_11_method_62_code, 3, (some .int), ⟨"CourtHandModel", "blots", "(I)I"⟩, 1, 7, [1242, 1240, 1241, 95])
abbrev mj_r185 : mj_I := (7, prog_11_method_63_code, 1, (some .int), ⟨"CourtHandModel", "draws", "()I"⟩, 0, 7, [1328, 1327, 76, 95])
abbrev mj_r186 : mj_I := (7, prog_11_method_64_code, 5, none, ⟨"CourtHandModel", "feels", "(IIII)V"⟩, 4, 7, [1302, 1301, 71, 95])
abbrev mj_r187 : mj_I := (7, prog_11_method_65_code, 10, none, ⟨"CourtHandModel", "practises", "(II)V"⟩, 2, 7, [1320, 1319, 74, 95])
abbrev mj_r188 : mj_I := (7, prog_11_method_66_code, 3, none, ⟨"CourtHandModel", "moonGoes", "()V"⟩, 0, 7, [1283, 1282, 67, 95])
abbrev mj_r189 : mj_I := (7, prog_11_method_67_code, 3, none, ⟨"CourtHandModel", "moonsGo", "(I)V"⟩, 1, 7, [1279, 1278, 66, 95])
abbrev mj_r190 : mj_I := (7, prog_11_method_68_code, 2, (some .int), ⟨"CourtHandModel", "moons", "(I)I"⟩, 1, 7, [1275, 1273, 1274, 95])
abbrev mj_r191 : mj_I := (7, prog_11_method_69_code, 2, (some .int), ⟨"CourtHandModel", "firstInRank", "()I"⟩, 0, 7, [1337, 1336, 77, 95])
abbrev mj_r192 : mj_I := (7, prog_11_method_70_code, 4, (some .int), ⟨"CourtHandModel", "tried", "(II)I"⟩, 2, 7, [1333, 1331, 1332, 95])
abbrev mj_r193 : mj_I := (7, prog_11_method_71_code, 7, (some .int), ⟨"CourtHandModel", "courtierIs", "(II)I"⟩, 2, 7, [1341, 1339, 1340, 95])
abbrev mj_r194 : mj_I := (7, prog_11_method_72_code, 3, (some .int), ⟨"CourtHandModel", "formOf", "(II)I"⟩, 2, 7, [1350, 1348, 1349, 95])
abbrev mj_r195 : mj_I := (7, prog_11_method_73_code, 2, (some .int), ⟨"CourtHandModel", "modelOf", "(I)I"⟩, 1, 7, [1354, 1352, 1353, 95])
abbrev mj_r196 : mj_I := (7, prog_11_method_74_code, 2, (some .int), ⟨"CourtHandModel", "read", "(I)I"⟩, 1, 7, [1358, 1356, 1357, 95])
abbrev mj_r197 : mj_I := (7, prog_11_method_75_code, 3, (some .int), ⟨"CourtHandModel", "apart", "(II)I"⟩, 2, 7, [1362, 1360, 1361, 95])
abbrev mj_r198 : mj_I := (7, prog_11_method_76_code, 12, (some .int), ⟨"CourtHandModel", "written", "(II)I"⟩, 2, 7, [1366, 1364, 1365, 95])
abbrev mj_r199 : mj_I := (7, prog_11_method_77_code, 8, (some .int), ⟨"CourtHandModel", "copied", "(II)I"⟩, 2, 7, [1370, 1368, 1369, 95])
abbrev mj_r200 : mj_I := (7, prog_11_method_78_code, 5, none, ⟨"CourtHandModel", "mayBe", "(III)V"⟩, 3, 7, [1378, 1377, 79, 95])
abbrev mj_r201 : mj_I := (7, prog_11_method_79_code, 7, (some .int), ⟨"CourtHandModel", "another", "(III)I"⟩, 3, 7, [1374, 1372, 1373, 95])
abbrev mj_r202 : mj_I := (7, prog_11_method_80_code, 5, (some .boolean), ⟨"CourtHandModel", "readsSheet", "(I)Z"⟩, 1, 7, [1394, 1393, 82, 95])
abbrev mj_r203 : mj_I := (7, prog_11_method_81_code, 9, (some .int), ⟨"CourtHandModel", "whose", "(II)I"⟩, 2, 7, [1382, 1380, 1381, 95])
abbrev mj_r204 : mj_I := (7, prog_11_method_82_code, 5, (some .int), ⟨"CourtHandModel", "apartInAll", "(II)I"⟩, 2, 7, [1402, 1401, 83, 95])
abbrev mj_r205 : mj_I := (7, prog_11_method_83_code, 3, (some .int), ⟨"CourtHandModel", "forge", "(II)I"⟩, 2, 7, [1398, 1396, 1397, 95])
abbrev mj_r206 : mj_I := (7, prog_11_method_84_code, 7, (some .int), ⟨"CourtHandModel", "groupOf", "(II)I"⟩, 2, 7, [1410, 1409, 84, 95])
abbrev mj_r207 : mj_I := (7, prog_11_method_85_code, 6, (some .int), ⟨"CourtHandModel", "alike", "(II)I"⟩, 2, 7, [1406, 1404, 1405, 95])
abbrev mj_r208 : mj_I := (7, prog_11_method_86_code, 6, (some .int), ⟨"CourtHandModel", "rises", "(II)I"⟩, 2, 7, [1414, 1412, 1413, 95])
abbrev mj_r209 : mj_I := (7, prog_11_method_87_code, 1, (some .int), ⟨"CourtHandModel", "commands", "()I"⟩, 0, 7, [1418, 1416, 1417, 95])
abbrev mj_r210 : mj_I := (7, prog_11_method_88_code, 9, (some .int), ⟨"CourtHandModel", "clear", "(II)I"⟩, 2, 7, [1422, 1420, 1421, 95])
abbrev mj_r211 : mj_I := (7, prog_11_method_89_code, 6, (some .int), ⟨"CourtHandModel", "partOf", "(IIZ)I"⟩, 3, 100, [1432, 1431, 1431, 95])
abbrev mj_r212 : mj_I := (7, prog_11_method_90_code, 8, (some .boolean), ⟨"CourtHandModel", "touches", "(IIZ)Z"⟩, 3, 100, [1435, 1434, 1434, 95])
abbrev mj_r213 : mj_I := (7, prog_11_method_91_code, 2, (some .boolean), ⟨"CourtHandModel", "isAtEdge", "(I)Z"⟩, 1, 100, [1438, 1437, 1437, 95])
abbrev mj_r214 : mj_I := (7, prog_11_method_92_code, 5, (some .int), ⟨"CourtHandModel", "loopsOf", "(I)I"⟩, 1, 100, [1429, 1428, 1428, 95])
abbrev mj_r215 : mj_I := (7, prog_11_method_93_code, 4, (some .int), ⟨"CourtHandModel", "strokesOf", "(I)I"⟩, 1, 100, [1441, 1440, 1440, 95])
abbrev mj_r216 : mj_I := (7, prog_11_method_94_code, 3, (some .boolean), ⟨"CourtHandModel", "isBlack", "(III)Z"⟩, 3, 100, [1447, 1446, 1446, 95])
abbrev mj_r217 : mj_I := (7, prog_11_method_95_code, 6, (some .int), ⟨"CourtHandModel", "crossOf", "(I)I"⟩, 1, 100, [1444, 1443, 1443, 95])
abbrev mj_r218 : mj_I := (7, prog_11_method_96_code, 4, (some .int), ⟨"CourtHandModel", "neighbours", "(II)I"⟩, 2, 100, [1459, 1458, 1458, 95])
abbrev mj_r219 : mj_I := (7, prog_11_method_97_code, 7, (some .int), ⟨"CourtHandModel", "penOf", "(I)I"⟩, 1, 100, [1456, 1455, 1455, 95])
abbrev mj_r220 : mj_I := (7, prog_11_method_98_code, 3, (some .int), ⟨"CourtHandModel", "shape", "(II)I"⟩, 2, 7, [1426, 1424, 1425, 95])
abbrev mj_r221 : mj_I := (7, prog_11_method_99_code, 5, (some .int), ⟨"CourtHandModel", "like", "(II)I"⟩, 2, 7, [1463, 1461, 1462, 95])
abbrev mj_r222 : mj_I := (7, prog_11_method_100_code, 5, (some .int), ⟨"CourtHandModel", "leastIn", "(I)I"⟩, 1, 7, [1471, 1470, 85, 95])
abbrev mj_r223 : mj_I := (7, prog_11_method_101_code, 6, (some .int), ⟨"CourtHandModel", "toldApart", "(II)I"⟩, 2, 7, [1467, 1465, 1466, 95])
abbrev mj_r224 : mj_I := (7, prog_11_method_102_code, 2, (some .boolean), ⟨"CourtHandModel", "seed", "(I)Z"⟩, 1, 7, [1475, 1473, 1474, 95])
abbrev mj_r225 : mj_I := (7, prog_11_method_103_code, 1, (some .int), ⟨"CourtHandModel", "keep", "()I"⟩, 0, 7, [1480, 1478, 1479, 95])
abbrev mj_r226 : mj_I := (7, prog_11_method_104_code, 1, (some .boolean), ⟨"CourtHandModel", "undo", "()Z"⟩, 0, 7, [1484, 1482, 1483, 95])
abbrev mj_r227 : mj_I := (7, prog_11_method_105_code, 3, (some .int), ⟨"CourtHandModel", "check", "(I)I"⟩, 1, 7, [1488, 1486, 1487, 95])
abbrev mj_r228 : mj_I := (7, prog_11_method_106_code, 2, (some .int), ⟨"CourtHandModel", "count", "(I)I"⟩, 1, 7, [1492, 1490, 1491, 95])
abbrev mj_r229 : mj_I := (11, prog_13_method_49_code, 1, (some .int), ⟨"java/lang/Integer", "bitCount", "(I)I"⟩, 1, 100, [665, 664, 664, 105])
abbrev mj_r230 : mj_I := (13, prog_19_method_30_code, 3, none, ⟨"java/util/Arrays", "rangeCheck", "(III)V"⟩, 3, 100, [348, 347, 347, 90])
abbrev mj_r231 : mj_I := (13, prog_19_method_104_code, 5, none, ⟨"java/util/Arrays", "fill", "([IIII)V"⟩, 4, 100, [345, 344, 344, 90])
abbrev mj_r232 : mj_I := (10, code, 4, (some .boolean), ⟨"CourtHandLaw", "law", "([I)Z"⟩, 1, 100, [0, 0, 0, 0])
abbrev mj_r233 : mj_I := (14, prog_15_method_54_code, 1, (some .int), ⟨"java/lang/String", "length", "()I"⟩, 0, 14, [442, 440, 441, 97])
abbrev mj_r234 : mj_I := (14, prog_15_method_79_code, 2, (some .int), ⟨"java/lang/String", "indexOf", "(I)I"⟩, 1, 14, [428, 426, 427, 97])
abbrev mj_r235 : mj_I := (14, prog_15_method_80_code, 3, (some .int), ⟨"java/lang/String", "indexOf", "(II)I"⟩, 2, 14, [432, 430, 431, 97])
abbrev mj_r236 : mj_I := (14, prog_15_method_152_code, 1, (some .byte), ⟨"java/lang/String", "coder", "()B"⟩, 0, 14, [446, 444, 445, 97])
abbrev mj_r237 : mj_I := (14, prog_15_method_154_code, 1, (some .boolean), ⟨"java/lang/String", "isLatin1", "()Z"⟩, 0, 14, [436, 434, 435, 97])
abbrev mj_r238 : mj_I := (15, prog_16_method_4_code, 1, (some .boolean), ⟨"java/lang/StringLatin1", "canEncode", "(I)Z"⟩, 1, 100, [452, 451, 451, 98])
abbrev mj_r239 : mj_I := (15, prog_16_method_22_code, 4, (some .int), ⟨"java/lang/StringLatin1", "indexOf", "([BIII)I"⟩, 4, 100, [449, 448, 448, 98])
abbrev mj_r240 : mj_I := (15, prog_16_method_23_code, 6, (some .int), ⟨"java/lang/StringLatin1", "indexOfChar", "([BIII)I"⟩, 4, 100, [461, 460, 460, 98])
def mj_tab : List mj_I := [mj_r0, mj_r1, mj_r2, mj_r3, mj_r4, mj_r5, mj_r6, mj_r7, mj_r8, mj_r9, mj_r10, mj_r11, mj_r12, mj_r13, mj_r14, mj_r15, mj_r16, mj_r17, mj_r18, mj_r19, mj_r20, mj_r21, mj_r22, mj_r23, mj_r24, mj_r25, mj_r26, mj_r27, mj_r28, mj_r29, mj_r30, mj_r31, mj_r32, mj_r33, mj_r34, mj_r35, mj_r36, mj_r37, mj_r38, mj_r39, mj_r40, mj_r41, mj_r42, mj_r43, mj_r44, mj_r45, mj_r46, mj_r47, mj_r48, mj_r49, mj_r50, mj_r51, mj_r52, mj_r53, mj_r54, mj_r55, mj_r56, mj_r57, mj_r58, mj_r59, mj_r60, mj_r61, mj_r62, mj_r63, mj_r64, mj_r65, mj_r66, mj_r67, mj_r68, mj_r69, mj_r70, mj_r71, mj_r72, mj_r73, mj_r74, mj_r75, mj_r76, mj_r77, mj_r78, mj_r79, mj_r80, mj_r81, mj_r82, mj_r83, mj_r84, mj_r85, mj_r86, mj_r87, mj_r88, mj_r89, mj_r90, mj_r91, mj_r92, mj_r93, mj_r94, mj_r95, mj_r96, mj_r97, mj_r98, mj_r99, mj_r100, mj_r101, mj_r102, mj_r103, mj_r104, mj_r105, mj_r106, mj_r107, mj_r108, mj_r109, mj_r110, mj_r111, mj_r112, mj_r113, mj_r114, mj_r115, mj_r116, mj_r117, mj_r118, mj_r119, mj_r120, mj_r121, mj_r122, mj_r123, mj_r124, mj_r125, mj_r126, mj_r127, mj_r128, mj_r129, mj_r130, mj_r131, mj_r132, mj_r133, mj_r134, mj_r135, mj_r136, mj_r137, mj_r138, mj_r139, mj_r140, mj_r141, mj_r142, mj_r143, mj_r144, mj_r145, mj_r146, mj_r147, mj_r148, mj_r149, mj_r150, mj_r151, mj_r152, mj_r153, mj_r154, mj_r155, mj_r156, mj_r157, mj_r158, mj_r159, mj_r160, mj_r161, mj_r162, mj_r163, mj_r164, mj_r165, mj_r166, mj_r167, mj_r168, mj_r169, mj_r170, mj_r171, mj_r172, mj_r173, mj_r174, mj_r175, mj_r176, mj_r177, mj_r178, mj_r179, mj_r180, mj_r181, mj_r182, mj_r183, mj_r184, mj_r185, mj_r186, mj_r187, mj_r188, mj_r189, mj_r190, mj_r191, mj_r192, mj_r193, mj_r194, mj_r195, mj_r196, mj_r197, mj_r198, mj_r199, mj_r200, mj_r201, mj_r202, mj_r203, mj_r204, mj_r205, mj_r206, mj_r207, mj_r208, mj_r209, mj_r210, mj_r211, mj_r212, mj_r213, mj_r214, mj_r215, mj_r216, mj_r217, mj_r218, mj_r219, mj_r220, mj_r221, mj_r222, mj_r223, mj_r224, mj_r225, mj_r226, mj_r227, mj_r228, mj_r229, mj_r230, mj_r231, mj_r232, mj_r233, mj_r234, mj_r235, mj_r236, mj_r237, mj_r238, mj_r239, mj_r240]
def mj_cn : Nat → String := fun k => ["CourtHand$Court", "CourtHand$Law", "CourtHand$LawReader", "CourtHand$Models", "CourtHand$Order", "CourtHand$Tape", "CourtHand", "CourtHandModel", "CourtHand$Blots", "CourtHand$Grids", "CourtHandLaw", "java/lang/Integer", "java/lang/Math", "java/util/Arrays", "java/lang/String", "java/lang/StringLatin1"].getD k ""
def mj_fTab : List (Nat × Nat × Nat × Nat × Nat × Nat) := [(3, 9, 3, 0, 1, 120), (0, 56, 3, 0, 1, 121), (6, 178, 3, 0, 1, 122), (3, 15, 3, 1, 0, 123), (6, 224, 3, 1, 0, 124), (0, 31, 0, 0, 1, 140), (8, 46, 0, 0, 1, 141), (0, 9, 0, 1, 1, 142), (6, 165, 0, 1, 1, 143), (0, 15, 0, 2, 1, 144), (6, 162, 0, 2, 1, 145), (0, 18, 0, 3, 1, 146), (0, 21, 0, 4, 1, 147), (0, 24, 0, 5, 1, 148), (6, 159, 0, 5, 1, 149), (0, 47, 0, 6, 0, 150), (6, 227, 0, 6, 0, 151), (0, 50, 0, 7, 0, 152), (6, 278, 0, 7, 0, 153), (0, 27, 0, 8, 0, 154), (6, 275, 0, 8, 0, 155), (6, 133, 0, 9, 0, 156), (0, 91, 0, 9, 0, 157), (6, 139, 0, 10, 0, 158), (0, 94, 0, 10, 0, 159), (6, 142, 0, 11, 0, 160), (0, 97, 0, 11, 0, 161), (5, 11, 5, 0, 1, 193), (5, 15, 5, 1, 0, 194), (6, 100, 5, 1, 0, 195), (4, 9, 4, 0, 1, 207), (6, 188, 4, 0, 1, 208), (4, 15, 4, 1, 1, 209), (4, 18, 4, 2, 1, 210), (4, 21, 4, 3, 1, 211), (4, 61, 4, 4, 0, 212), (6, 187, 4, 4, 0, 213), (4, 24, 4, 5, 0, 214), (4, 28, 4, 6, 0, 215), (1, 11, 1, 0, 1, 243), (1, 15, 1, 1, 1, 244), (1, 18, 1, 2, 1, 245), (1, 21, 1, 3, 1, 246), (1, 24, 1, 4, 1, 247), (1, 27, 1, 5, 1, 248), (1, 47, 1, 6, 0, 249), (2, 62, 1, 6, 0, 250), (2, 38, 1, 7, 0, 251), (1, 30, 1, 7, 0, 252), (6, 281, 1, 7, 0, 253), (2, 18, 2, 0, 1, 271), (2, 12, 2, 1, 2, 272), (2, 22, 2, 2, 0, 273), (2, 26, 2, 3, 0, 274), (2, 29, 2, 4, 0, 275), (6, 10, 6, 0, 1, 289), (6, 21, 6, 1, 1, 290), (6, 25, 6, 2, 1, 291), (6, 28, 6, 3, 1, 292), (6, 34, 6, 4, 1, 293), (6, 41, 6, 5, 1, 294), (6, 50, 6, 6, 1, 295), (6, 54, 6, 7, 1, 296), (6, 58, 6, 8, 1, 297), (6, 64, 6, 9, 2, 298), (6, 68, 6, 10, 3, 299), (7, 7, 7, 0, 1, 955), (7, 13, 7, 1, 1, 956), (7, 16, 7, 2, 1, 957), (7, 19, 7, 3, 1, 958), (7, 22, 7, 4, 1, 959), (7, 123, 7, 5, 0, 960), (7, 131, 7, 6, 0, 961), (7, 134, 7, 7, 0, 962), (7, 141, 7, 8, 0, 963), (7, 147, 7, 9, 0, 964), (7, 158, 7, 10, 0, 965), (7, 154, 7, 11, 0, 966), (7, 161, 7, 12, 0, 967), (7, 208, 7, 13, 0, 968), (7, 223, 7, 14, 0, 969), (7, 26, 7, 15, 1, 970), (7, 29, 7, 16, 1, 971), (7, 32, 7, 17, 1, 972), (7, 35, 7, 18, 1, 973), (7, 38, 7, 19, 1, 974), (7, 41, 7, 20, 1, 975), (7, 44, 7, 21, 1, 976), (7, 47, 7, 22, 1, 977), (7, 50, 7, 23, 1, 978), (7, 53, 7, 24, 1, 979), (7, 56, 7, 25, 1, 980), (7, 59, 7, 26, 1, 981), (7, 62, 7, 27, 1, 982), (7, 65, 7, 28, 1, 983), (7, 68, 7, 29, 1, 984), (7, 71, 7, 30, 1, 985), (7, 74, 7, 31, 1, 986), (7, 251, 7, 32, 0, 987), (7, 236, 7, 33, 0, 988), (7, 239, 7, 34, 0, 989), (7, 266, 7, 35, 0, 990), (7, 77, 7, 36, 1, 991), (7, 299, 7, 37, 0, 992), (7, 302, 7, 38, 0, 993), (7, 293, 7, 39, 0, 994), (7, 80, 7, 40, 1, 995), (7, 329, 7, 41, 0, 996), (7, 326, 7, 42, 0, 997), (7, 83, 7, 43, 1, 998), (7, 86, 7, 44, 1, 999), (7, 390, 7, 45, 3, 1000), (14, 15, 14, 0, 5, 1493), (14, 9, 14, 1, 4, 1494)]
def mj_cTab : List (Nat × Nat × Nat × Nat × Nat) := [(10, 13, 0, 78, 323), (6, 72, 1, 20, 327), (6, 78, 0, 63, 331), (10, 18, 0, 79, 335), (6, 82, 0, 6, 339), (0, 53, 1, 231, 343), (13, 13, 1, 230, 346), (10, 23, 0, 80, 349), (6, 85, 0, 5, 353), (6, 88, 0, 62, 357), (6, 89, 0, 7, 361), (10, 27, 0, 81, 365), (6, 92, 0, 73, 369), (6, 96, 0, 74, 373), (10, 32, 0, 82, 377), (6, 104, 0, 75, 381), (6, 107, 0, 47, 385), (2, 32, 0, 41, 389), (2, 35, 0, 53, 393), (2, 51, 0, 48, 397), (2, 45, 0, 76, 401), (2, 59, 0, 50, 405), (2, 55, 2, 123, 409), (2, 65, 0, 57, 412), (2, 98, 0, 58, 416), (2, 101, 0, 59, 420), (2, 106, 0, 234, 425), (14, 633, 0, 235, 429), (14, 492, 0, 237, 433), (14, 505, 0, 233, 439), (14, 335, 0, 236, 443), (14, 637, 1, 239, 447), (15, 88, 1, 238, 450), (15, 92, 5, 0, 453), (15, 38, 6, 0, 456), (15, 95, 1, 240, 459), (2, 94, 0, 52, 511), (2, 41, 0, 51, 515), (2, 111, 1, 61, 519), (2, 114, 0, 60, 522), (2, 68, 0, 42, 526), (2, 81, 0, 49, 530), (2, 71, 0, 54, 534), (2, 78, 0, 55, 538), (2, 91, 0, 56, 542), (2, 85, 0, 43, 546), (1, 54, 0, 42, 550), (2, 88, 0, 44, 551), (2, 74, 0, 45, 555), (6, 111, 0, 46, 559), (10, 37, 0, 83, 564), (6, 115, 0, 67, 568), (4, 31, 0, 76, 572), (4, 37, 1, 72, 573), (4, 41, 0, 68, 576), (4, 52, 2, 123, 580), (4, 44, 0, 69, 581), (4, 64, 0, 71, 585), (4, 48, 0, 70, 589), (4, 55, 3, 0, 593), (10, 41, 0, 84, 596), (6, 119, 0, 4, 600), (0, 41, 3, 0, 604), (6, 123, 1, 0, 605), (8, 11, 1, 1, 608), (8, 15, 0, 76, 611), (8, 25, 2, 123, 612), (8, 42, 0, 5, 613), (8, 50, 0, 62, 614), (8, 21, 1, 2, 615), (8, 29, 0, 8, 618), (8, 34, 1, 3, 622), (8, 56, 1, 22, 626), (8, 59, 1, 23, 630), (8, 62, 1, 26, 634), (8, 38, 0, 7, 642), (10, 45, 0, 85, 643), (6, 129, 0, 14, 647), (0, 100, 0, 15, 651), (0, 88, 0, 11, 655), (0, 80, 0, 9, 659), (0, 61, 1, 229, 663), (0, 83, 0, 5, 669), (0, 84, 0, 12, 670), (0, 104, 0, 16, 674), (0, 113, 0, 34, 678), (0, 119, 0, 35, 682), (0, 123, 0, 36, 686), (0, 127, 0, 37, 690), (1, 34, 0, 39, 694), (1, 50, 1, 40, 698), (1, 38, 6, 0, 701), (1, 44, 5, 0, 702), (0, 108, 6, 0, 703), (0, 67, 0, 62, 704), (0, 130, 0, 17, 705), (0, 71, 0, 8, 709), (0, 134, 0, 38, 710), (0, 138, 0, 19, 714), (0, 142, 0, 18, 719), (0, 145, 0, 7, 723), (10, 49, 0, 86, 724), (6, 136, 0, 87, 728), (6, 145, 0, 13, 732), (6, 149, 0, 88, 736), (6, 153, 0, 9, 740), (6, 156, 0, 11, 741), (10, 54, 0, 89, 742), (6, 168, 0, 90, 746), (6, 172, 0, 8, 750), (6, 175, 0, 64, 751), (3, 22, 1, 229, 756), (10, 58, 0, 91, 757), (10, 62, 0, 92, 761), (10, 66, 0, 93, 765), (10, 70, 0, 94, 769), (6, 181, 1, 21, 773), (9, 12, 1, 229, 776), (10, 74, 0, 95, 777), (6, 184, 0, 97, 781), (6, 195, 1, 229, 785), (6, 191, 0, 96, 786), (10, 78, 0, 98, 790), (6, 200, 0, 76, 794), (6, 203, 0, 99, 795), (6, 209, 3, 0, 799), (6, 206, 0, 100, 800), (10, 82, 0, 101, 804), (6, 215, 0, 102, 808), (6, 218, 0, 65, 812), (3, 28, 0, 62, 816), (3, 32, 1, 21, 817), (3, 36, 6, 0, 818), (6, 221, 0, 103, 819), (10, 87, 0, 104, 823), (6, 228, 0, 77, 827), (5, 19, 0, 76, 831), (6, 231, 0, 105, 832), (6, 235, 0, 106, 837), (10, 91, 0, 107, 841), (6, 238, 0, 10, 845), (0, 75, 1, 21, 849), (10, 95, 0, 108, 850), (6, 241, 0, 109, 854), (6, 244, 0, 110, 858), (6, 247, 0, 111, 862), (10, 99, 0, 112, 866), (10, 103, 0, 113, 870), (10, 108, 0, 114, 874), (10, 112, 0, 115, 878), (6, 250, 1, 30, 882), (9, 43, 1, 29, 885), (9, 31, 1, 22, 888), (9, 34, 1, 23, 889), (9, 37, 1, 24, 890), (9, 40, 1, 25, 893), (6, 253, 1, 31, 897), (6, 256, 1, 32, 900), (6, 259, 1, 26, 903), (6, 262, 1, 27, 904), (6, 265, 1, 33, 907), (9, 48, 5, 0, 910), (10, 116, 0, 116, 911), (6, 268, 1, 28, 915), (9, 25, 1, 26, 918), (9, 28, 1, 27, 919), (10, 120, 0, 117, 920), (6, 271, 0, 66, 924), (10, 124, 0, 118, 928), (10, 129, 0, 119, 933), (10, 133, 0, 120, 937), (10, 138, 0, 121, 941), (10, 142, 0, 122, 945), (10, 17, 0, 141, 1094), (7, 90, 1, 124, 1098), (7, 120, 1, 130, 1101), (10, 22, 0, 142, 1105), (7, 101, 1, 135, 1109), (10, 26, 0, 143, 1112), (7, 98, 0, 132, 1116), (7, 94, 0, 131, 1120), (10, 31, 0, 145, 1124), (7, 127, 0, 144, 1128), (10, 36, 0, 168, 1132), (7, 214, 0, 167, 1136), (7, 217, 0, 166, 1140), (7, 137, 0, 147, 1144), (7, 144, 0, 149, 1148), (7, 193, 0, 160, 1152), (7, 180, 0, 158, 1156), (7, 171, 0, 153, 1160), (7, 150, 0, 148, 1165), (7, 174, 0, 151, 1169), (7, 167, 0, 152, 1173), (7, 177, 1, 155, 1177), (7, 183, 1, 156, 1180), (7, 186, 0, 157, 1183), (7, 164, 0, 154, 1187), (7, 190, 0, 159, 1191), (7, 211, 0, 165, 1195), (7, 199, 0, 164, 1199), (7, 196, 0, 161, 1203), (7, 202, 0, 162, 1207), (7, 205, 0, 163, 1211), (7, 220, 0, 150, 1215), (10, 40, 0, 176, 1219), (7, 248, 0, 175, 1223), (7, 242, 0, 173, 1227), (7, 233, 0, 146, 1231), (7, 245, 0, 174, 1235), (10, 44, 0, 184, 1239), (7, 275, 1, 129, 1243), (7, 279, 0, 183, 1246), (7, 105, 0, 136, 1250), (7, 269, 1, 182, 1254), (7, 272, 1, 181, 1257), (7, 260, 1, 180, 1260), (7, 254, 1, 127, 1263), (7, 263, 1, 178, 1266), (7, 257, 1, 177, 1269), (10, 48, 0, 190, 1272), (7, 317, 0, 189, 1276), (7, 314, 0, 188, 1280), (7, 305, 0, 139, 1284), (7, 115, 0, 138, 1288), (7, 112, 0, 137, 1292), (7, 108, 1, 128, 1296), (7, 283, 0, 186, 1299), (7, 290, 0, 171, 1303), (7, 230, 0, 170, 1307), (7, 226, 1, 169, 1311), (7, 308, 1, 125, 1314), (7, 311, 0, 187, 1317), (7, 287, 0, 172, 1321), (7, 296, 0, 185, 1325), (10, 53, 0, 192, 1330), (7, 320, 0, 191, 1334), (10, 57, 0, 193, 1338), (7, 323, 0, 140, 1342), (10, 61, 0, 194, 1347), (10, 65, 0, 195, 1351), (10, 69, 0, 196, 1355), (10, 73, 0, 197, 1359), (10, 77, 0, 198, 1363), (10, 81, 0, 199, 1367), (10, 86, 0, 201, 1371), (7, 332, 0, 200, 1375), (10, 90, 0, 203, 1379), (7, 336, 0, 133, 1383), (7, 339, 0, 134, 1387), (7, 342, 0, 202, 1391), (10, 94, 0, 205, 1395), (7, 345, 0, 204, 1399), (10, 98, 0, 207, 1403), (7, 348, 0, 206, 1407), (10, 102, 0, 208, 1411), (10, 107, 0, 209, 1415), (10, 111, 0, 210, 1419), (10, 115, 0, 220, 1423), (7, 371, 1, 214, 1427), (7, 355, 1, 211, 1430), (7, 351, 1, 212, 1433), (7, 359, 1, 213, 1436), (7, 374, 1, 215, 1439), (7, 377, 1, 217, 1442), (7, 362, 1, 216, 1445), (7, 365, 1, 126, 1448), (7, 380, 1, 179, 1451), (7, 383, 1, 219, 1454), (7, 368, 1, 218, 1457), (10, 119, 0, 221, 1460), (10, 123, 0, 223, 1464), (7, 386, 0, 222, 1468), (10, 128, 0, 224, 1472), (10, 132, 0, 225, 1477), (10, 137, 0, 226, 1481), (10, 141, 0, 227, 1485), (10, 145, 0, 228, 1489)]
def mj_kTab : List (Nat × Nat × Int32 × Nat) := [(9, 11, 33554431, 330), (8, 55, 33554431, 625), (9, 18, (-1082402), 629), (9, 19, (-17318417), 633), (9, 20, 1082401, 637), (9, 21, 2164802, 638), (9, 22, 4329604, 639), (9, 23, 8659208, 640), (9, 24, 17318416, 641), (11, 265, 1431655765, 666), (11, 266, 858993459, 667), (11, 267, 252645135, 668), (0, 148, 65535, 718), (3, 21, 2147483647, 755), (6, 234, 2147483647, 836), (9, 47, 33080895, 896), (6, 274, 65535, 932), (7, 89, 33554431, 1104), (7, 157, 1048576, 1164), (7, 282, 65536, 1329), (7, 119, 1000000, 1346), (7, 389, 65535, 1476)]
def mj_fT (k j : Nat) : Option (Nat × Nat × Nat) := (mj_fTab.find? (fun e => e.1 == k && e.2.1 == j)).map (fun e => (e.2.2.1, e.2.2.2.1, e.2.2.2.2.1))
def mj_cT (k j : Nat) : Option (Nat × Nat) := (mj_cTab.find? (fun e => e.1 == k && e.2.1 == j)).map (fun e => (e.2.2.1, e.2.2.2.1))
def mj_kT (k j : Nat) : Option Int32 := (mj_kTab.find? (fun e => e.1 == k && e.2.1 == j)).map (fun e => e.2.2.1)
def mj_oclL : List Nat := [6, 3, 100, 0, 100, 100, 100, 100, 100, 0, 100, 100, 100, 100, 100, 0, 100, 100, 100, 100, 100, 5, 100, 4, 100, 100, 100, 100, 2, 1, 100, 100, 100, 100, 100, 100, 100, 100, 1, 100, 100, 100, 100, 100, 100, 7, 100, 100, 100, 100, 100, 100, 100, 100, 100, 100, 100, 100, 100, 100, 100, 100, 100, 100, 100, 100, 100, 100, 100, 100, 100, 100, 100, 14, 100]
def mj_ialL : List Nat := [0, 0, 8, 0, 10, 10, 80, 10, 10, 0, 10, 10, 80, 10, 10, 0, 10, 10, 80, 10, 10, 0, 260, 0, 60, 60, 2, 2, 0, 0, 480, 32, 9, 16, 16, 16, 10, 60, 0, 480, 32, 9, 16, 16, 16, 0, 112, 112, 112, 8, 0, 260, 260, 16, 16, 16, 16, 260, 16, 16, 16, 16, 260, 9, 60, 60, 2, 2, 10, 60, 8, 10]
def mj_ocl (a : Nat) : Nat := mj_oclL.getD a 100
def mj_ial (a : Nat) : Nat := mj_ialL.getD a 0
def mj_bal (a : Nat) : Nat := if a = 50 then 260 else 0
def mj_bln (a : Nat) : Nat := if a = 74 then 9 else mj_bal a
def mj_sTab : List (Nat × Nat × Nat) := [(14, 38, 437)]
def mj_sT (k j : Nat) : Bool := (mj_sTab.find? (fun e => e.1 == k && e.2.1 == j)).isSome
def mj_nf (c : Nat) : Nat := ([12, 8, 5, 2, 7, 2, 11, 46] : List Nat).getD c 0
def mj_rfL : List (List Nat) := [[1, 3, 9, 15, 21, 23, 28, 36, 37, 0, 0], [2, 0], [], [1, 4, 5, 6, 7, 8, 0, 0, 0, 0, 0, 0], [], [], [], [], [], [1, 10, 11, 12, 13, 14, 0, 0, 0, 0, 0, 0], [], [], [], [], [], [1, 16, 17, 18, 19, 20, 0, 0, 0, 0, 0, 0], [], [], [], [], [], [22, 0], [], [24, 25, 26, 27, 0, 0, 0], [], [], [], [], [21, 0, 0, 0, 0], [30, 31, 32, 33, 34, 35, 0, 0], [], [], [], [], [], [], [], [], [39, 40, 41, 42, 43, 44, 0, 0], [], [], [], [], [], [], [46, 47, 48, 49, 50, 0, 0, 0, 0, 0, 0, 0, 0, 0, 0, 51, 52, 53, 54, 55, 56, 57, 58, 59, 60, 61, 62, 63, 64, 65, 66, 67, 0, 0, 0, 0, 68, 0, 0, 0, 69, 0, 0, 70, 71, 0], [], [], [], [], [], [], [], [], [], [], [], [], [], [], [], [], [], [], [], [], [], [], [], [], [], []]
def mj_rf (a j : Nat) : Nat := (mj_rfL.getD a []).getD j 0
def mj_fkL : List (List Nat) := [[1, 1, 1, 1, 1, 1, 0, 0, 0, 0, 0, 0], [1, 1, 1, 1, 1, 1, 0, 0], [1, 2, 0, 0, 0], [1, 0], [1, 1, 1, 1, 0, 0, 0], [1, 0], [1, 1, 1, 1, 1, 1, 1, 1, 1, 2, 3], [1, 1, 1, 1, 1, 0, 0, 0, 0, 0, 0, 0, 0, 0, 0, 1, 1, 1, 1, 1, 1, 1, 1, 1, 1, 1, 1, 1, 1, 1, 1, 1, 0, 0, 0, 0, 1, 0, 0, 0, 1, 0, 0, 1, 1, 3]]
def mj_fk (c j : Nat) : Nat := (mj_fkL.getD c []).getD j 0
def mj_row (M : mj_M) (i : Nat) (f : Nat → Int32) : mj_M := fun j => if j = i then f else M j
def mj_st (M : mj_M) (i k : Nat) (x : Int32) : mj_M := mj_row M i (upd (M i) k x)
def mj_lw (x : Int32) : Nat := if x = 0 then 29 else 38
def mj_in (i : Int32) (n : Nat) : Prop := ¬ (i < 0 ∨ n ≤ i.toNatClampNeg)
def mj_inB (i : Int32) (n : Nat) : Bool := !(decide (i < 0) || decide (n ≤ i.toNatClampNeg))
def mj_fv (M : mj_M) (a j kd : Nat) : Value := if kd = 1 then .ref (mj_rf a j) else if kd = 2 then .ref (mj_lw (M a j)) else if kd = 4 then .ref 74 else if kd = 5 then .int 0 else .int (M a j)
def mj_sl (i : Instr) : Nat := match i with
  | .bipush _ => 2
  | .ldc _ => 2
  | .iload _ => 2
  | .istore _ => 2
  | .aload _ => 2
  | .sipush _ => 3
  | .ldc_w _ => 3
  | .getfield _ => 3
  | .putfield _ => 3
  | .goto _ => 3
  | .if_icmp _ _ => 3
  | .ifCond _ _ => 3
  | .iinc _ _ => 3
  | .invokevirtual _ => 3
  | .invokestatic _ => 3
  | .getstatic _ => 3
  | .tableswitch _ _ _ _ => 0
  | .lookupswitch _ _ => 0
  | _ => 1
def mj_at (id pc : Nat) : Option Instr := match mj_tab[id]? with
  | none => none
  | some me => match decode me.2.1 pc with
    | .ok (i, n) => if mj_sl i = 0 ∨ mj_sl i = n then some i else none
    | .error _ => none
def mj_own (id : Nat) : Nat := match mj_tab[id]? with
  | none => 100
  | some me => me.1
def mj_cmp (c : Jvm.ClassFile.Cond) (x y : Int32) : Bool := match c with
  | .eq => decide (x = y)
  | .ne => decide (¬ x = y)
  | .lt => decide (x < y)
  | .ge => decide (y ≤ x)
  | .gt => decide (y < x)
  | .le => decide (x ≤ y)
abbrev mj_O : Type := (Nat × List Value × List Value × mj_M) ⊕ (Option Value ⊕ (Nat × List Value × List Value))
def mj_nx (pc : Nat) (L st : List Value) (M : mj_M) : Option mj_O := some (.inl (pc, L, st, M))
def mj_go (pc : Nat) (off : Int) (L st : List Value) (M : mj_M) : Option mj_O := if 0 ≤ (pc : Int) + off then some (.inl (((pc : Int) + off).toNat, L, st, M)) else none
def mj_br (c : Bool) (pc : Nat) (off : Int) (L st : List Value) (M : mj_M) : Option mj_O := match c with
  | true => mj_go pc off L st M
  | false => if 0 ≤ (pc : Int) + off then mj_nx (pc + 3) L st M else none
def mj_ldi (j n pc : Nat) (L st : List Value) (M : mj_M) : Option mj_O := match L[j]? with
  | some (.int x) => mj_nx (pc + n) L (.int x :: st) M
  | _ => none
def mj_lda (j n pc : Nat) (L st : List Value) (M : mj_M) : Option mj_O := match L[j]? with
  | some (.ref x) => mj_nx (pc + n) L (.ref x :: st) M
  | _ => none
def mj_sti (j n pc : Nat) (L st : List Value) (M : mj_M) : Option mj_O := match st with
  | .int x :: st' => if j < L.length then mj_nx (pc + n) (L.set j (.int x)) st' M else none
  | _ => none
def mj_sta (j n pc : Nat) (L st : List Value) (M : mj_M) : Option mj_O := match st with
  | .ref x :: st' => if j < L.length then mj_nx (pc + n) (L.set j (.ref x)) st' M else none
  | _ => none
def mj_bin (f : Int32 → Int32 → Int32) (pc : Nat) (L st : List Value) (M : mj_M) : Option mj_O := match st with
  | .int y :: .int x :: st' => mj_nx (pc + 1) L (.int (f x y) :: st') M
  | _ => none
def mj_dv (f : Int32 → Int32 → Int32) (pc : Nat) (L st : List Value) (M : mj_M) : Option mj_O := match st with
  | .int y :: .int x :: st' => if y = 0 then none else mj_nx (pc + 1) L (.int (f x y) :: st') M
  | _ => none
def mj_un (f : Int32 → Int32) (pc : Nat) (L st : List Value) (M : mj_M) : Option mj_O := match st with
  | .int x :: st' => mj_nx (pc + 1) L (.int (f x) :: st') M
  | _ => none
def mj_dup (pc : Nat) (L st : List Value) (M : mj_M) : Option mj_O := match st with
  | .int x :: st' => mj_nx (pc + 1) L (.int x :: .int x :: st') M
  | .ref x :: st' => mj_nx (pc + 1) L (.ref x :: .ref x :: st') M
  | _ => none
def mj_dup2 (pc : Nat) (L st : List Value) (M : mj_M) : Option mj_O := match st with
  | .int x :: .int y :: st' => mj_nx (pc + 1) L (.int x :: .int y :: .int x :: .int y :: st') M
  | .int x :: .ref y :: st' => mj_nx (pc + 1) L (.int x :: .ref y :: .int x :: .ref y :: st') M
  | _ => none
def mj_icmp (c : Jvm.ClassFile.Cond) (off : Int) (pc : Nat) (L st : List Value) (M : mj_M) : Option mj_O := match st with
  | .int y :: .int x :: st' => mj_br (mj_cmp c x y) pc off L st' M
  | _ => none
def mj_ifc (c : Jvm.ClassFile.Cond) (off : Int) (pc : Nat) (L st : List Value) (M : mj_M) : Option mj_O := match st with
  | .int x :: st' => mj_br (mj_cmp c x 0) pc off L st' M
  | _ => none
def mj_tsw (dflt lo hi : Int) (offs : Array Int) (pc : Nat) (L st : List Value) (M : mj_M) : Option mj_O := match st with
  | .int x :: st' => if x.toInt < lo ∨ hi < x.toInt then mj_go pc dflt L st' M else match offs[(x.toInt - lo).toNat]? with
    | some off => mj_go pc off L st' M
    | none => none
  | _ => none
def mj_lsw (dflt : Int) (ps : Array (Int × Int)) (pc : Nat) (L st : List Value) (M : mj_M) : Option mj_O := match st with
  | .int x :: st' => if (ps.toList.zip (ps.toList.drop 1)).all (fun (a, next) => a.1 < next.1) = true then mj_go pc (Op.lookupswitch.offset ps.toList dflt x.toInt) L st' M else none
  | _ => none
def mj_gf (k j pc : Nat) (L st : List Value) (M : mj_M) : Option mj_O := match mj_fT k j with
  | some (ci, sl, kd) => match st with
    | .ref a :: st' => if mj_ocl a = ci then mj_nx (pc + 3) L (mj_fv M a sl kd :: st') M else none
    | _ => none
  | none => none
def mj_pf (k j pc : Nat) (L st : List Value) (M : mj_M) : Option mj_O := match mj_fT k j with
  | some (ci, sl, kd) => match st with
    | .int x :: .ref a :: st' => if mj_ocl a = ci ∧ (kd = 0 ∨ (kd = 3 ∧ x &&& 1 = x)) then mj_nx (pc + 3) L st' (mj_st M a sl x) else none
    | .ref b :: .ref a :: st' => if mj_ocl a = ci ∧ kd = 2 ∧ (b = 29 ∨ b = 38) then mj_nx (pc + 3) L st' (mj_st M a sl (if b = 29 then 0 else 1)) else none
    | _ => none
  | none => none
def mj_ild (sl pc : Nat) (L st : List Value) (M : mj_M) : Option mj_O := match st with
  | .int i :: .ref a :: st' => if mj_inB i (if a = 72 then sl else mj_ial a) = true then mj_nx (pc + 1) L (.int (M a i.toNatClampNeg) :: st') M else none
  | _ => none
def mj_ist (pc : Nat) (L st : List Value) (M : mj_M) : Option mj_O := match st with
  | .int x :: .int i :: .ref a :: st' => if mj_inB i (mj_ial a) = true then mj_nx (pc + 1) L st' (mj_st M a i.toNatClampNeg x) else none
  | _ => none
def mj_bld (pc : Nat) (L st : List Value) (M : mj_M) : Option mj_O := match st with
  | .int i :: .ref a :: st' => if mj_inB i (mj_bln a) = true then mj_nx (pc + 1) L (.int (M a i.toNatClampNeg) :: st') M else none
  | _ => none
def mj_bst (pc : Nat) (L st : List Value) (M : mj_M) : Option mj_O := match st with
  | .int x :: .int i :: .ref a :: st' => if mj_inB i (mj_bal a) = true then mj_nx (pc + 1) L st' (mj_st M a i.toNatClampNeg x.toInt8.toInt32) else none
  | _ => none
def mj_aln (sl pc : Nat) (L st : List Value) (M : mj_M) : Option mj_O := match st with
  | .ref a :: st' => if a = 72 then mj_nx (pc + 1) L (.int (nI sl) :: st') M else if a = 74 then mj_nx (pc + 1) L (.int (nI 9) :: st') M else if mj_ial a = 0 then none else mj_nx (pc + 1) L (.int (nI (mj_ial a)) :: st') M
  | _ => none
def mj_vcl (id : Nat) (st : List Value) : Option mj_O := match mj_tab[id]? with
  | some me => match st.drop me.2.2.2.2.2.1 with
    | .ref b :: rest => if mj_ocl b = me.2.2.2.2.2.2.1 ∧ rest.length ≤ 8 then some (.inr (.inr (id, .ref b :: (st.take me.2.2.2.2.2.1).reverse, rest))) else none
    | _ => none
  | none => none
def mj_scl (id : Nat) (st : List Value) : Option mj_O := match mj_tab[id]? with
  | some me => if me.2.2.2.2.2.1 ≤ st.length ∧ (st.drop me.2.2.2.2.2.1).length ≤ 8 ∧ me.2.2.2.2.2.2.1 = 100 then some (.inr (.inr (id, (st.take me.2.2.2.2.2.1).reverse, st.drop me.2.2.2.2.2.1))) else none
  | none => none
def mj_acp (d pc : Nat) (L st : List Value) (M : mj_M) : Option mj_O := match st with
  | .int n :: .int dp :: .ref b :: .int sp :: .ref a :: st' =>
    if 1 ≤ d ∧ st'.length ≤ 8 ∧ ¬ sp < 0 ∧ ¬ dp < 0 ∧ ¬ n < 0 ∧ mj_ial a ≠ 0 ∧ mj_ial b ≠ 0 ∧ sp.toNatClampNeg + n.toNatClampNeg ≤ mj_ial a ∧ dp.toNatClampNeg + n.toNatClampNeg ≤ mj_ial b then mj_nx (pc + 3) L st' (mj_row M b (va_cpy (M a) (M b) sp.toNatClampNeg dp.toNatClampNeg n.toNatClampNeg)) else none
  | _ => none
def mj_mx (x y : Int32) : Int32 := if x < y then y else x
def mj_mn (x y : Int32) : Int32 := if y < x then y else x
def mj_mth (f : Int32 → Int32 → Int32) (d pc : Nat) (L st : List Value) (M : mj_M) : Option mj_O := match st with
  | .int y :: .int x :: st' => if 1 ≤ d ∧ st'.length ≤ 8 then mj_nx (pc + 3) L (.int (f x y) :: st') M else none
  | _ => none
def mj_ivv (k j : Nat) (st : List Value) : Option mj_O := match mj_cT k j with
  | some (kd, id) => if kd = 0 then mj_vcl id st else none
  | none => none
def mj_ivs (d k j pc : Nat) (L st : List Value) (M : mj_M) : Option mj_O := match mj_cT k j with
  | some (kd, id) => if kd = 1 ∨ kd = 2 then mj_scl id st else if kd = 3 then mj_acp d pc L st M else if kd = 5 then mj_mth mj_mx d pc L st M else if kd = 6 then mj_mth mj_mn d pc L st M else none
  | none => none
def mj_ldc (n k j pc : Nat) (L st : List Value) (M : mj_M) : Option mj_O := match mj_kT k j with
  | some v => mj_nx (pc + n) L (.int v :: st) M
  | none => if k = 2 ∧ j = 104 ∧ n = 2 then mj_nx (pc + n) L (.ref 73 :: st) M else none
def mj_gs (k j pc : Nat) (L st : List Value) (M : mj_M) : Option mj_O := if mj_sT k j = true then mj_nx (pc + 3) L (.int 1 :: st) M else none
def mj_rti (id : Nat) (st : List Value) : Option mj_O := match st with
  | [.int v] => match mj_tab[id]? with
    | some me => if me.2.2.2.1 = some .int ∨ (me.2.2.2.1 = some .boolean ∧ v &&& 1 = v) ∨ (me.2.2.2.1 = some .byte ∧ v.toInt8.toInt32 = v) then some (.inr (.inl (some (.int v)))) else none
    | none => none
  | _ => none
def mj_rta (id : Nat) (st : List Value) : Option mj_O := match st with
  | [.ref v] => match mj_tab[id]? with
    | some me => if me.2.2.2.1 = some (.object "CourtHand$Law") then some (.inr (.inl (some (.ref v)))) else none
    | none => none
  | _ => none
def mj_rtv (id : Nat) (st : List Value) : Option mj_O := match st with
  | [] => match mj_tab[id]? with
    | some me => if me.2.2.2.1 = none then some (.inr (.inl none)) else none
    | none => none
  | _ => none
def mj_stp (sl d id : Nat) (i : Instr) (pc : Nat) (L st : List Value) (M : mj_M) : Option mj_O := match i with
  | .iconst n => mj_nx (pc + 1) L (.int (Int32.ofInt n) :: st) M
  | .bipush n => mj_nx (pc + 2) L (.int (Int8.ofInt n).toInt32 :: st) M
  | .sipush n => mj_nx (pc + 3) L (.int (Int16.ofInt n).toInt32 :: st) M
  | .ldc j => mj_ldc 2 (mj_own id) j pc L st M
  | .ldc_w j => mj_ldc 3 (mj_own id) j pc L st M
  | .iload_n j => mj_ldi j 1 pc L st M
  | .iload j => mj_ldi j 2 pc L st M
  | .aload_n j => mj_lda j 1 pc L st M
  | .aload j => mj_lda j 2 pc L st M
  | .istore_n j => mj_sti j 1 pc L st M
  | .istore j => mj_sti j 2 pc L st M
  | .astore_n j => mj_sta j 1 pc L st M
  | .iinc j n => match L[j]? with
    | some (.int x) => mj_nx (pc + 3) (L.set j (.int (x + Int32.ofInt n))) st M
    | _ => none
  | .dup => mj_dup pc L st M
  | .dup2 => mj_dup2 pc L st M
  | .iadd => mj_bin (fun x y => x + y) pc L st M
  | .isub => mj_bin (fun x y => x - y) pc L st M
  | .imul => mj_bin (fun x y => x * y) pc L st M
  | .iand => mj_bin (fun x y => x &&& y) pc L st M
  | .ior => mj_bin (fun x y => x ||| y) pc L st M
  | .ixor => mj_bin (fun x y => x ^^^ y) pc L st M
  | .ishl => mj_bin (fun x y => x <<< (y &&& 31)) pc L st M
  | .ishr => mj_bin (fun x y => x >>> (y &&& 31)) pc L st M
  | .iushr => mj_bin (fun x y => (x.toUInt32 >>> (y.toUInt32 &&& Int32.toUInt32 31)).toInt32) pc L st M
  | .idiv => mj_dv (fun x y => x / y) pc L st M
  | .irem => mj_dv (fun x y => x - x / y * y) pc L st M
  | .ineg => mj_un (fun x => -x) pc L st M
  | .i2b => mj_un (fun x => x.toInt8.toInt32) pc L st M
  | .i2c => mj_un (fun x => (x.toUInt32 % 65536).toInt32) pc L st M
  | .goto off => mj_go pc off L st M
  | .if_icmp c off => mj_icmp c off pc L st M
  | .ifCond c off => mj_ifc c off pc L st M
  | .tableswitch dflt lo hi offs => mj_tsw dflt lo hi offs pc L st M
  | .lookupswitch dflt ps => mj_lsw dflt ps pc L st M
  | .getfield j => mj_gf (mj_own id) j pc L st M
  | .getstatic j => mj_gs (mj_own id) j pc L st M
  | .putfield j => mj_pf (mj_own id) j pc L st M
  | .iaload => mj_ild sl pc L st M
  | .iastore => mj_ist pc L st M
  | .baload => mj_bld pc L st M
  | .bastore => mj_bst pc L st M
  | .arraylength => mj_aln sl pc L st M
  | .invokevirtual j => mj_ivv (mj_own id) j st
  | .invokestatic j => mj_ivs d (mj_own id) j pc L st M
  | .ireturn => mj_rti id st
  | .areturn => mj_rta id st
  | .return_ => mj_rtv id st
  | _ => none
def mj_ml (id : Nat) : Nat := match mj_tab[id]? with
  | none => 0
  | some me => me.2.2.1
def mj_ent (id : Nat) (as : List Value) : List Value := as ++ List.replicate (mj_ml id - as.length) Value.null
def mj_ex (sl : Nat) : Nat → Nat → Nat → Nat → List Value → List Value → mj_M → Option (Option Value × mj_M)
  | 0, _, _, _, _, _, _ => none
  | n + 1, d, id, pc, L, st, M => match mj_at id pc with
    | none => none
    | some i => match mj_stp sl d id i pc L st M with
      | none => none
      | some (.inl (pc', L', st', M')) => mj_ex sl n d id pc' L' st' M'
      | some (.inr (.inl r)) => some (r, M)
      | some (.inr (.inr (y, as, rest))) => match d with
        | 0 => none
        | d' + 1 => match mj_ex sl n d' y 0 (mj_ent y as) [] M with
          | none => none
          | some (r, M1) => mj_ex sl n (d' + 1) id (pc + 3) L (r.toList ++ rest) M1

