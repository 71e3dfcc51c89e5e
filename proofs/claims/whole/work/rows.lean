section
/-- a private method of a class that the tables say can be made, by its rows of tables_1 -/
def lw_okq (q : MethodName × Nat) : Prop := (q.1.cls ≠ "java/lang/invoke/MethodHandle" ∧ q.1.cls ≠ "java/lang/invoke/VarHandle") ∧ Cond.instantiable q.1.cls q.2 ∈ tables_1 ∧ Cond.privateMethod q.1 ∈ tables_1 ∧ Cond.instanceMethod q.1 ∈ tables_1
theorem lw_p0 : lw_okq (⟨"CourtHand$LawReader", "readRule", "()V"⟩, 5) := ⟨⟨by decide +kernel, by decide +kernel⟩, List.mem_of_getElem? (i := 146) (by decide +kernel), List.mem_of_getElem? (i := 308) (by decide +kernel), List.mem_of_getElem? (i := 309) (by decide +kernel)⟩
theorem lw_p1 : lw_okq (⟨"CourtHand$LawReader", "sign", "()I"⟩, 5) := ⟨⟨by decide +kernel, by decide +kernel⟩, List.mem_of_getElem? (i := 146) (by decide +kernel), List.mem_of_getElem? (i := 312) (by decide +kernel), List.mem_of_getElem? (i := 313) (by decide +kernel)⟩
theorem lw_p2 : lw_okq (⟨"CourtHand$LawReader", "fail", "(I)V"⟩, 5) := ⟨⟨by decide +kernel, by decide +kernel⟩, List.mem_of_getElem? (i := 146) (by decide +kernel), List.mem_of_getElem? (i := 320) (by decide +kernel), List.mem_of_getElem? (i := 321) (by decide +kernel)⟩
theorem lw_p3 : lw_okq (⟨"CourtHand$LawReader", "readSum", "(I)V"⟩, 5) := ⟨⟨by decide +kernel, by decide +kernel⟩, List.mem_of_getElem? (i := 146) (by decide +kernel), List.mem_of_getElem? (i := 327) (by decide +kernel), List.mem_of_getElem? (i := 328) (by decide +kernel)⟩
theorem lw_p4 : lw_okq (⟨"CourtHand$LawReader", "readProduct", "(I)V"⟩, 5) := ⟨⟨by decide +kernel, by decide +kernel⟩, List.mem_of_getElem? (i := 146) (by decide +kernel), List.mem_of_getElem? (i := 331) (by decide +kernel), List.mem_of_getElem? (i := 332) (by decide +kernel)⟩
theorem lw_p5 : lw_okq (⟨"CourtHand$LawReader", "readFactor", "(I)V"⟩, 5) := ⟨⟨by decide +kernel, by decide +kernel⟩, List.mem_of_getElem? (i := 146) (by decide +kernel), List.mem_of_getElem? (i := 335) (by decide +kernel), List.mem_of_getElem? (i := 336) (by decide +kernel)⟩
theorem lw_p6 : lw_okq (⟨"CourtHand$LawReader", "opens", "(I)Z"⟩, 5) := ⟨⟨by decide +kernel, by decide +kernel⟩, List.mem_of_getElem? (i := 146) (by decide +kernel), List.mem_of_getElem? (i := 426) (by decide +kernel), List.mem_of_getElem? (i := 427) (by decide +kernel)⟩
theorem lw_p7 : lw_okq (⟨"CourtHand$LawReader", "pass", "(I)V"⟩, 5) := ⟨⟨by decide +kernel, by decide +kernel⟩, List.mem_of_getElem? (i := 146) (by decide +kernel), List.mem_of_getElem? (i := 430) (by decide +kernel), List.mem_of_getElem? (i := 431) (by decide +kernel)⟩
theorem lw_p8 : lw_okq (⟨"CourtHand$LawReader", "readNumber", "()V"⟩, 5) := ⟨⟨by decide +kernel, by decide +kernel⟩, List.mem_of_getElem? (i := 146) (by decide +kernel), List.mem_of_getElem? (i := 437) (by decide +kernel), List.mem_of_getElem? (i := 438) (by decide +kernel)⟩
theorem lw_p9 : lw_okq (⟨"CourtHand$LawReader", "isSign", "(II)Z"⟩, 5) := ⟨⟨by decide +kernel, by decide +kernel⟩, List.mem_of_getElem? (i := 146) (by decide +kernel), List.mem_of_getElem? (i := 445) (by decide +kernel), List.mem_of_getElem? (i := 446) (by decide +kernel)⟩
theorem lw_p10 : lw_okq (⟨"CourtHand$LawReader", "readCondition", "(I)V"⟩, 5) := ⟨⟨by decide +kernel, by decide +kernel⟩, List.mem_of_getElem? (i := 146) (by decide +kernel), List.mem_of_getElem? (i := 449) (by decide +kernel), List.mem_of_getElem? (i := 450) (by decide +kernel)⟩
theorem lw_p11 : lw_okq (⟨"CourtHand$LawReader", "readPart", "(I)V"⟩, 5) := ⟨⟨by decide +kernel, by decide +kernel⟩, List.mem_of_getElem? (i := 146) (by decide +kernel), List.mem_of_getElem? (i := 453) (by decide +kernel), List.mem_of_getElem? (i := 454) (by decide +kernel)⟩
theorem lw_p12 : lw_okq (⟨"CourtHand$LawReader", "readTest", "(I)V"⟩, 5) := ⟨⟨by decide +kernel, by decide +kernel⟩, List.mem_of_getElem? (i := 146) (by decide +kernel), List.mem_of_getElem? (i := 457) (by decide +kernel), List.mem_of_getElem? (i := 458) (by decide +kernel)⟩
theorem lw_p13 : lw_okq (⟨"CourtHand$Order", "openRound", "(I)I"⟩, 7) := ⟨⟨by decide +kernel, by decide +kernel⟩, List.mem_of_getElem? (i := 116) (by decide +kernel), List.mem_of_getElem? (i := 491) (by decide +kernel), List.mem_of_getElem? (i := 492) (by decide +kernel)⟩
theorem lw_p14 : lw_okq (⟨"CourtHand$Order", "shutRound", "(II)I"⟩, 7) := ⟨⟨by decide +kernel, by decide +kernel⟩, List.mem_of_getElem? (i := 116) (by decide +kernel), List.mem_of_getElem? (i := 496) (by decide +kernel), List.mem_of_getElem? (i := 497) (by decide +kernel)⟩
theorem lw_p15 : lw_okq (⟨"CourtHand$Order", "repeat", "(III)I"⟩, 7) := ⟨⟨by decide +kernel, by decide +kernel⟩, List.mem_of_getElem? (i := 116) (by decide +kernel), List.mem_of_getElem? (i := 500) (by decide +kernel), List.mem_of_getElem? (i := 501) (by decide +kernel)⟩
def lw_privs_1 : List (MethodName × Nat) := [(⟨"CourtHand$LawReader", "readRule", "()V"⟩, 5), (⟨"CourtHand$LawReader", "sign", "()I"⟩, 5), (⟨"CourtHand$LawReader", "fail", "(I)V"⟩, 5), (⟨"CourtHand$LawReader", "readSum", "(I)V"⟩, 5), (⟨"CourtHand$LawReader", "readProduct", "(I)V"⟩, 5), (⟨"CourtHand$LawReader", "readFactor", "(I)V"⟩, 5), (⟨"CourtHand$LawReader", "opens", "(I)Z"⟩, 5), (⟨"CourtHand$LawReader", "pass", "(I)V"⟩, 5), (⟨"CourtHand$LawReader", "readNumber", "()V"⟩, 5), (⟨"CourtHand$LawReader", "isSign", "(II)Z"⟩, 5), (⟨"CourtHand$LawReader", "readCondition", "(I)V"⟩, 5), (⟨"CourtHand$LawReader", "readPart", "(I)V"⟩, 5), (⟨"CourtHand$LawReader", "readTest", "(I)V"⟩, 5), (⟨"CourtHand$Order", "openRound", "(I)I"⟩, 7), (⟨"CourtHand$Order", "shutRound", "(II)I"⟩, 7), (⟨"CourtHand$Order", "repeat", "(III)I"⟩, 7)]
theorem lw_r1 : ∀ q ∈ lw_privs_1, lw_okq q := List.forall_mem_cons.mpr ⟨lw_p0, List.forall_mem_cons.mpr ⟨lw_p1, List.forall_mem_cons.mpr ⟨lw_p2, List.forall_mem_cons.mpr ⟨lw_p3, List.forall_mem_cons.mpr ⟨lw_p4, List.forall_mem_cons.mpr ⟨lw_p5, List.forall_mem_cons.mpr ⟨lw_p6, List.forall_mem_cons.mpr ⟨lw_p7, List.forall_mem_cons.mpr ⟨lw_p8, List.forall_mem_cons.mpr ⟨lw_p9, List.forall_mem_cons.mpr ⟨lw_p10, List.forall_mem_cons.mpr ⟨lw_p11, List.forall_mem_cons.mpr ⟨lw_p12, List.forall_mem_cons.mpr ⟨lw_p13, List.forall_mem_cons.mpr ⟨lw_p14, List.forall_mem_cons.mpr ⟨lw_p15, fun _ h => absurd h List.not_mem_nil⟩⟩⟩⟩⟩⟩⟩⟩⟩⟩⟩⟩⟩⟩⟩⟩
theorem lw_p16 : lw_okq (⟨"CourtHand$Order", "putLetter", "(III)I"⟩, 7) := ⟨⟨by decide +kernel, by decide +kernel⟩, List.mem_of_getElem? (i := 116) (by decide +kernel), List.mem_of_getElem? (i := 504) (by decide +kernel), List.mem_of_getElem? (i := 505) (by decide +kernel)⟩
theorem lw_p17 : lw_okq (⟨"CourtHand$Court", "passMoon", "(LCourtHand$Law;)V"⟩, 12) := ⟨⟨by decide +kernel, by decide +kernel⟩, List.mem_of_getElem? (i := 46) (by decide +kernel), List.mem_of_getElem? (i := 566) (by decide +kernel), List.mem_of_getElem? (i := 567) (by decide +kernel)⟩
theorem lw_p18 : lw_okq (⟨"CourtHand$Court", "isAhead", "(II)Z"⟩, 12) := ⟨⟨by decide +kernel, by decide +kernel⟩, List.mem_of_getElem? (i := 46) (by decide +kernel), List.mem_of_getElem? (i := 585) (by decide +kernel), List.mem_of_getElem? (i := 586) (by decide +kernel)⟩
theorem lw_p19 : lw_okq (⟨"CourtHand$Court", "takeTurn", "(ILCourtHand$Law;)V"⟩, 12) := ⟨⟨by decide +kernel, by decide +kernel⟩, List.mem_of_getElem? (i := 46) (by decide +kernel), List.mem_of_getElem? (i := 589) (by decide +kernel), List.mem_of_getElem? (i := 590) (by decide +kernel)⟩
theorem lw_p20 : lw_okq (⟨"CourtHand$Law", "run", "(I)I"⟩, 8) := ⟨⟨by decide +kernel, by decide +kernel⟩, List.mem_of_getElem? (i := 152) (by decide +kernel), List.mem_of_getElem? (i := 609) (by decide +kernel), List.mem_of_getElem? (i := 610) (by decide +kernel)⟩
theorem lw_p21 : lw_okq (⟨"CourtHand$Court", "practise", "(IILCourtHand$Law;)V"⟩, 12) := ⟨⟨by decide +kernel, by decide +kernel⟩, List.mem_of_getElem? (i := 46) (by decide +kernel), List.mem_of_getElem? (i := 620) (by decide +kernel), List.mem_of_getElem? (i := 621) (by decide +kernel)⟩
theorem lw_p22 : lw_okq (⟨"CourtHand$Court", "draw", "()I"⟩, 12) := ⟨⟨by decide +kernel, by decide +kernel⟩, List.mem_of_getElem? (i := 46) (by decide +kernel), List.mem_of_getElem? (i := 629) (by decide +kernel), List.mem_of_getElem? (i := 630) (by decide +kernel)⟩
theorem lw_p23 : lw_okq (⟨"CourtHand$Court", "mend", "(II)V"⟩, 12) := ⟨⟨by decide +kernel, by decide +kernel⟩, List.mem_of_getElem? (i := 46) (by decide +kernel), List.mem_of_getElem? (i := 634) (by decide +kernel), List.mem_of_getElem? (i := 635) (by decide +kernel)⟩
theorem lw_p24 : lw_okq (⟨"CourtHand", "canBeTried", "(I)Z"⟩, 11) := ⟨⟨by decide +kernel, by decide +kernel⟩, List.mem_of_getElem? (i := 21) (by decide +kernel), List.mem_of_getElem? (i := 643) (by decide +kernel), List.mem_of_getElem? (i := 644) (by decide +kernel)⟩
theorem lw_p25 : lw_okq (⟨"CourtHand", "triedOfOne", "(II)I"⟩, 11) := ⟨⟨by decide +kernel, by decide +kernel⟩, List.mem_of_getElem? (i := 21) (by decide +kernel), List.mem_of_getElem? (i := 651) (by decide +kernel), List.mem_of_getElem? (i := 652) (by decide +kernel)⟩
theorem lw_p26 : lw_okq (⟨"CourtHand", "formsRead", "(IZ)I"⟩, 11) := ⟨⟨by decide +kernel, by decide +kernel⟩, List.mem_of_getElem? (i := 21) (by decide +kernel), List.mem_of_getElem? (i := 661) (by decide +kernel), List.mem_of_getElem? (i := 662) (by decide +kernel)⟩
theorem lw_p27 : lw_okq (⟨"CourtHand", "inkLastsFor", "(I)I"⟩, 11) := ⟨⟨by decide +kernel, by decide +kernel⟩, List.mem_of_getElem? (i := 21) (by decide +kernel), List.mem_of_getElem? (i := 696) (by decide +kernel), List.mem_of_getElem? (i := 697) (by decide +kernel)⟩
theorem lw_p28 : lw_okq (⟨"CourtHand", "writtenLetter", "(III)I"⟩, 11) := ⟨⟨by decide +kernel, by decide +kernel⟩, List.mem_of_getElem? (i := 21) (by decide +kernel), List.mem_of_getElem? (i := 701) (by decide +kernel), List.mem_of_getElem? (i := 702) (by decide +kernel)⟩
theorem lw_p29 : lw_okq (⟨"CourtHand", "copyAlong", "(I)I"⟩, 11) := ⟨⟨by decide +kernel, by decide +kernel⟩, List.mem_of_getElem? (i := 21) (by decide +kernel), List.mem_of_getElem? (i := 710) (by decide +kernel), List.mem_of_getElem? (i := 711) (by decide +kernel)⟩
theorem lw_p30 : lw_okq (⟨"CourtHand", "placesAsTheyWere", "(I)I"⟩, 11) := ⟨⟨by decide +kernel, by decide +kernel⟩, List.mem_of_getElem? (i := 21) (by decide +kernel), List.mem_of_getElem? (i := 715) (by decide +kernel), List.mem_of_getElem? (i := 716) (by decide +kernel)⟩
theorem lw_p31 : lw_okq (⟨"CourtHand", "fewestDots", "(II)I"⟩, 11) := ⟨⟨by decide +kernel, by decide +kernel⟩, List.mem_of_getElem? (i := 21) (by decide +kernel), List.mem_of_getElem? (i := 723) (by decide +kernel), List.mem_of_getElem? (i := 724) (by decide +kernel)⟩
def lw_privs_2 : List (MethodName × Nat) := [(⟨"CourtHand$Order", "putLetter", "(III)I"⟩, 7), (⟨"CourtHand$Court", "passMoon", "(LCourtHand$Law;)V"⟩, 12), (⟨"CourtHand$Court", "isAhead", "(II)Z"⟩, 12), (⟨"CourtHand$Court", "takeTurn", "(ILCourtHand$Law;)V"⟩, 12), (⟨"CourtHand$Law", "run", "(I)I"⟩, 8), (⟨"CourtHand$Court", "practise", "(IILCourtHand$Law;)V"⟩, 12), (⟨"CourtHand$Court", "draw", "()I"⟩, 12), (⟨"CourtHand$Court", "mend", "(II)V"⟩, 12), (⟨"CourtHand", "canBeTried", "(I)Z"⟩, 11), (⟨"CourtHand", "triedOfOne", "(II)I"⟩, 11), (⟨"CourtHand", "formsRead", "(IZ)I"⟩, 11), (⟨"CourtHand", "inkLastsFor", "(I)I"⟩, 11), (⟨"CourtHand", "writtenLetter", "(III)I"⟩, 11), (⟨"CourtHand", "copyAlong", "(I)I"⟩, 11), (⟨"CourtHand", "placesAsTheyWere", "(I)I"⟩, 11), (⟨"CourtHand", "fewestDots", "(II)I"⟩, 11)]
theorem lw_r2 : ∀ q ∈ lw_privs_2, lw_okq q := List.forall_mem_cons.mpr ⟨lw_p16, List.forall_mem_cons.mpr ⟨lw_p17, List.forall_mem_cons.mpr ⟨lw_p18, List.forall_mem_cons.mpr ⟨lw_p19, List.forall_mem_cons.mpr ⟨lw_p20, List.forall_mem_cons.mpr ⟨lw_p21, List.forall_mem_cons.mpr ⟨lw_p22, List.forall_mem_cons.mpr ⟨lw_p23, List.forall_mem_cons.mpr ⟨lw_p24, List.forall_mem_cons.mpr ⟨lw_p25, List.forall_mem_cons.mpr ⟨lw_p26, List.forall_mem_cons.mpr ⟨lw_p27, List.forall_mem_cons.mpr ⟨lw_p28, List.forall_mem_cons.mpr ⟨lw_p29, List.forall_mem_cons.mpr ⟨lw_p30, List.forall_mem_cons.mpr ⟨lw_p31, fun _ h => absurd h List.not_mem_nil⟩⟩⟩⟩⟩⟩⟩⟩⟩⟩⟩⟩⟩⟩⟩⟩
theorem lw_p32 : lw_okq (⟨"CourtHand", "leastDots", "(III)I"⟩, 11) := ⟨⟨by decide +kernel, by decide +kernel⟩, List.mem_of_getElem? (i := 21) (by decide +kernel), List.mem_of_getElem? (i := 734) (by decide +kernel), List.mem_of_getElem? (i := 735) (by decide +kernel)⟩
theorem lw_p33 : lw_okq (⟨"CourtHand", "nearestHand", "(II)I"⟩, 11) := ⟨⟨by decide +kernel, by decide +kernel⟩, List.mem_of_getElem? (i := 21) (by decide +kernel), List.mem_of_getElem? (i := 747) (by decide +kernel), List.mem_of_getElem? (i := 748) (by decide +kernel)⟩
theorem lw_p34 : lw_okq (⟨"CourtHand", "farFromSheet", "(II)I"⟩, 11) := ⟨⟨by decide +kernel, by decide +kernel⟩, List.mem_of_getElem? (i := 21) (by decide +kernel), List.mem_of_getElem? (i := 752) (by decide +kernel), List.mem_of_getElem? (i := 753) (by decide +kernel)⟩
theorem lw_p35 : lw_okq (⟨"CourtHand", "markNear", "(I)V"⟩, 11) := ⟨⟨by decide +kernel, by decide +kernel⟩, List.mem_of_getElem? (i := 21) (by decide +kernel), List.mem_of_getElem? (i := 769) (by decide +kernel), List.mem_of_getElem? (i := 770) (by decide +kernel)⟩
theorem lw_p36 : lw_okq (⟨"CourtHand", "groups", "()I"⟩, 11) := ⟨⟨by decide +kernel, by decide +kernel⟩, List.mem_of_getElem? (i := 21) (by decide +kernel), List.mem_of_getElem? (i := 773) (by decide +kernel), List.mem_of_getElem? (i := 774) (by decide +kernel)⟩
theorem lw_p37 : lw_okq (⟨"CourtHand", "groupOf", "(I)I"⟩, 11) := ⟨⟨by decide +kernel, by decide +kernel⟩, List.mem_of_getElem? (i := 21) (by decide +kernel), List.mem_of_getElem? (i := 777) (by decide +kernel), List.mem_of_getElem? (i := 778) (by decide +kernel)⟩
theorem lw_p38 : lw_okq (⟨"CourtHandModel", "isTold", "(I)Z"⟩, 46) := ⟨⟨by decide +kernel, by decide +kernel⟩, List.mem_of_getElem? (i := 864) (by decide +kernel), List.mem_of_getElem? (i := 1031) (by decide +kernel), List.mem_of_getElem? (i := 1032) (by decide +kernel)⟩
theorem lw_p39 : lw_okq (⟨"CourtHandModel", "isLetter", "(I)Z"⟩, 46) := ⟨⟨by decide +kernel, by decide +kernel⟩, List.mem_of_getElem? (i := 864) (by decide +kernel), List.mem_of_getElem? (i := 1035) (by decide +kernel), List.mem_of_getElem? (i := 1036) (by decide +kernel)⟩
theorem lw_p40 : lw_okq (⟨"CourtHandModel", "types", "(I)V"⟩, 46) := ⟨⟨by decide +kernel, by decide +kernel⟩, List.mem_of_getElem? (i := 864) (by decide +kernel), List.mem_of_getElem? (i := 1043) (by decide +kernel), List.mem_of_getElem? (i := 1044) (by decide +kernel)⟩
theorem lw_p41 : lw_okq (⟨"CourtHandModel", "beginsText", "(I)V"⟩, 46) := ⟨⟨by decide +kernel, by decide +kernel⟩, List.mem_of_getElem? (i := 864) (by decide +kernel), List.mem_of_getElem? (i := 1051) (by decide +kernel), List.mem_of_getElem? (i := 1052) (by decide +kernel)⟩
theorem lw_p42 : lw_okq (⟨"CourtHandModel", "readsRule", "()Z"⟩, 46) := ⟨⟨by decide +kernel, by decide +kernel⟩, List.mem_of_getElem? (i := 864) (by decide +kernel), List.mem_of_getElem? (i := 1055) (by decide +kernel), List.mem_of_getElem? (i := 1056) (by decide +kernel)⟩
theorem lw_p43 : lw_okq (⟨"CourtHandModel", "here", "()I"⟩, 46) := ⟨⟨by decide +kernel, by decide +kernel⟩, List.mem_of_getElem? (i := 864) (by decide +kernel), List.mem_of_getElem? (i := 1059) (by decide +kernel), List.mem_of_getElem? (i := 1060) (by decide +kernel)⟩
theorem lw_p44 : lw_okq (⟨"CourtHandModel", "wrongAt", "(II)Z"⟩, 46) := ⟨⟨by decide +kernel, by decide +kernel⟩, List.mem_of_getElem? (i := 864) (by decide +kernel), List.mem_of_getElem? (i := 1063) (by decide +kernel), List.mem_of_getElem? (i := 1064) (by decide +kernel)⟩
theorem lw_p45 : lw_okq (⟨"CourtHandModel", "readsSum", "()Z"⟩, 46) := ⟨⟨by decide +kernel, by decide +kernel⟩, List.mem_of_getElem? (i := 864) (by decide +kernel), List.mem_of_getElem? (i := 1067) (by decide +kernel), List.mem_of_getElem? (i := 1068) (by decide +kernel)⟩
theorem lw_p46 : lw_okq (⟨"CourtHandModel", "readsFactor", "()Z"⟩, 46) := ⟨⟨by decide +kernel, by decide +kernel⟩, List.mem_of_getElem? (i := 864) (by decide +kernel), List.mem_of_getElem? (i := 1071) (by decide +kernel), List.mem_of_getElem? (i := 1072) (by decide +kernel)⟩
theorem lw_p47 : lw_okq (⟨"CourtHandModel", "opens", "(I)Z"⟩, 46) := ⟨⟨by decide +kernel, by decide +kernel⟩, List.mem_of_getElem? (i := 864) (by decide +kernel), List.mem_of_getElem? (i := 1075) (by decide +kernel), List.mem_of_getElem? (i := 1076) (by decide +kernel)⟩
def lw_privs_3 : List (MethodName × Nat) := [(⟨"CourtHand", "leastDots", "(III)I"⟩, 11), (⟨"CourtHand", "nearestHand", "(II)I"⟩, 11), (⟨"CourtHand", "farFromSheet", "(II)I"⟩, 11), (⟨"CourtHand", "markNear", "(I)V"⟩, 11), (⟨"CourtHand", "groups", "()I"⟩, 11), (⟨"CourtHand", "groupOf", "(I)I"⟩, 11), (⟨"CourtHandModel", "isTold", "(I)Z"⟩, 46), (⟨"CourtHandModel", "isLetter", "(I)Z"⟩, 46), (⟨"CourtHandModel", "types", "(I)V"⟩, 46), (⟨"CourtHandModel", "beginsText", "(I)V"⟩, 46), (⟨"CourtHandModel", "readsRule", "()Z"⟩, 46), (⟨"CourtHandModel", "here", "()I"⟩, 46), (⟨"CourtHandModel", "wrongAt", "(II)Z"⟩, 46), (⟨"CourtHandModel", "readsSum", "()Z"⟩, 46), (⟨"CourtHandModel", "readsFactor", "()Z"⟩, 46), (⟨"CourtHandModel", "opens", "(I)Z"⟩, 46)]
theorem lw_r3 : ∀ q ∈ lw_privs_3, lw_okq q := List.forall_mem_cons.mpr ⟨lw_p32, List.forall_mem_cons.mpr ⟨lw_p33, List.forall_mem_cons.mpr ⟨lw_p34, List.forall_mem_cons.mpr ⟨lw_p35, List.forall_mem_cons.mpr ⟨lw_p36, List.forall_mem_cons.mpr ⟨lw_p37, List.forall_mem_cons.mpr ⟨lw_p38, List.forall_mem_cons.mpr ⟨lw_p39, List.forall_mem_cons.mpr ⟨lw_p40, List.forall_mem_cons.mpr ⟨lw_p41, List.forall_mem_cons.mpr ⟨lw_p42, List.forall_mem_cons.mpr ⟨lw_p43, List.forall_mem_cons.mpr ⟨lw_p44, List.forall_mem_cons.mpr ⟨lw_p45, List.forall_mem_cons.mpr ⟨lw_p46, List.forall_mem_cons.mpr ⟨lw_p47, fun _ h => absurd h List.not_mem_nil⟩⟩⟩⟩⟩⟩⟩⟩⟩⟩⟩⟩⟩⟩⟩⟩
theorem lw_p48 : lw_okq (⟨"CourtHandModel", "isDigit", "()Z"⟩, 46) := ⟨⟨by decide +kernel, by decide +kernel⟩, List.mem_of_getElem? (i := 864) (by decide +kernel), List.mem_of_getElem? (i := 1080) (by decide +kernel), List.mem_of_getElem? (i := 1081) (by decide +kernel)⟩
theorem lw_p49 : lw_okq (⟨"CourtHandModel", "readsNumber", "()Z"⟩, 46) := ⟨⟨by decide +kernel, by decide +kernel⟩, List.mem_of_getElem? (i := 864) (by decide +kernel), List.mem_of_getElem? (i := 1084) (by decide +kernel), List.mem_of_getElem? (i := 1085) (by decide +kernel)⟩
theorem lw_p50 : lw_okq (⟨"CourtHandModel", "notes", "(II)V"⟩, 46) := ⟨⟨by decide +kernel, by decide +kernel⟩, List.mem_of_getElem? (i := 864) (by decide +kernel), List.mem_of_getElem? (i := 1088) (by decide +kernel), List.mem_of_getElem? (i := 1089) (by decide +kernel)⟩
theorem lw_p51 : lw_okq (⟨"CourtHandModel", "closesSums", "(Z)V"⟩, 46) := ⟨⟨by decide +kernel, by decide +kernel⟩, List.mem_of_getElem? (i := 864) (by decide +kernel), List.mem_of_getElem? (i := 1098) (by decide +kernel), List.mem_of_getElem? (i := 1099) (by decide +kernel)⟩
theorem lw_p52 : lw_okq (⟨"CourtHandModel", "waitTop", "()I"⟩, 46) := ⟨⟨by decide +kernel, by decide +kernel⟩, List.mem_of_getElem? (i := 864) (by decide +kernel), List.mem_of_getElem? (i := 1102) (by decide +kernel), List.mem_of_getElem? (i := 1103) (by decide +kernel)⟩
theorem lw_p53 : lw_okq (⟨"CourtHandModel", "hasOpenSum", "(I)Z"⟩, 46) := ⟨⟨by decide +kernel, by decide +kernel⟩, List.mem_of_getElem? (i := 864) (by decide +kernel), List.mem_of_getElem? (i := 1106) (by decide +kernel), List.mem_of_getElem? (i := 1107) (by decide +kernel)⟩
theorem lw_p54 : lw_okq (⟨"CourtHandModel", "readsCondition", "()Z"⟩, 46) := ⟨⟨by decide +kernel, by decide +kernel⟩, List.mem_of_getElem? (i := 864) (by decide +kernel), List.mem_of_getElem? (i := 1110) (by decide +kernel), List.mem_of_getElem? (i := 1111) (by decide +kernel)⟩
theorem lw_p55 : lw_okq (⟨"CourtHandModel", "readsCompared", "()Z"⟩, 46) := ⟨⟨by decide +kernel, by decide +kernel⟩, List.mem_of_getElem? (i := 864) (by decide +kernel), List.mem_of_getElem? (i := 1114) (by decide +kernel), List.mem_of_getElem? (i := 1115) (by decide +kernel)⟩
theorem lw_p56 : lw_okq (⟨"CourtHandModel", "endsPiece", "()V"⟩, 46) := ⟨⟨by decide +kernel, by decide +kernel⟩, List.mem_of_getElem? (i := 864) (by decide +kernel), List.mem_of_getElem? (i := 1118) (by decide +kernel), List.mem_of_getElem? (i := 1119) (by decide +kernel)⟩
theorem lw_p57 : lw_okq (⟨"CourtHandModel", "lands", "(Z)V"⟩, 46) := ⟨⟨by decide +kernel, by decide +kernel⟩, List.mem_of_getElem? (i := 864) (by decide +kernel), List.mem_of_getElem? (i := 1122) (by decide +kernel), List.mem_of_getElem? (i := 1123) (by decide +kernel)⟩
theorem lw_p58 : lw_okq (⟨"CourtHandModel", "jumps", "(I)V"⟩, 46) := ⟨⟨by decide +kernel, by decide +kernel⟩, List.mem_of_getElem? (i := 864) (by decide +kernel), List.mem_of_getElem? (i := 1126) (by decide +kernel), List.mem_of_getElem? (i := 1127) (by decide +kernel)⟩
theorem lw_p59 : lw_okq (⟨"CourtHandModel", "takes", "(I)Z"⟩, 46) := ⟨⟨by decide +kernel, by decide +kernel⟩, List.mem_of_getElem? (i := 864) (by decide +kernel), List.mem_of_getElem? (i := 1130) (by decide +kernel), List.mem_of_getElem? (i := 1131) (by decide +kernel)⟩
theorem lw_p60 : lw_okq (⟨"CourtHandModel", "readsItem", "()Z"⟩, 46) := ⟨⟨by decide +kernel, by decide +kernel⟩, List.mem_of_getElem? (i := 864) (by decide +kernel), List.mem_of_getElem? (i := 1138) (by decide +kernel), List.mem_of_getElem? (i := 1139) (by decide +kernel)⟩
theorem lw_p61 : lw_okq (⟨"CourtHandModel", "readsTimes", "()I"⟩, 46) := ⟨⟨by decide +kernel, by decide +kernel⟩, List.mem_of_getElem? (i := 864) (by decide +kernel), List.mem_of_getElem? (i := 1142) (by decide +kernel), List.mem_of_getElem? (i := 1143) (by decide +kernel)⟩
theorem lw_p62 : lw_okq (⟨"CourtHandModel", "octet", "(I)I"⟩, 46) := ⟨⟨by decide +kernel, by decide +kernel⟩, List.mem_of_getElem? (i := 864) (by decide +kernel), List.mem_of_getElem? (i := 1146) (by decide +kernel), List.mem_of_getElem? (i := 1147) (by decide +kernel)⟩
theorem lw_p63 : lw_okq (⟨"CourtHandModel", "repeats", "(III)Z"⟩, 46) := ⟨⟨by decide +kernel, by decide +kernel⟩, List.mem_of_getElem? (i := 864) (by decide +kernel), List.mem_of_getElem? (i := 1150) (by decide +kernel), List.mem_of_getElem? (i := 1151) (by decide +kernel)⟩
def lw_privs_4 : List (MethodName × Nat) := [(⟨"CourtHandModel", "isDigit", "()Z"⟩, 46), (⟨"CourtHandModel", "readsNumber", "()Z"⟩, 46), (⟨"CourtHandModel", "notes", "(II)V"⟩, 46), (⟨"CourtHandModel", "closesSums", "(Z)V"⟩, 46), (⟨"CourtHandModel", "waitTop", "()I"⟩, 46), (⟨"CourtHandModel", "hasOpenSum", "(I)Z"⟩, 46), (⟨"CourtHandModel", "readsCondition", "()Z"⟩, 46), (⟨"CourtHandModel", "readsCompared", "()Z"⟩, 46), (⟨"CourtHandModel", "endsPiece", "()V"⟩, 46), (⟨"CourtHandModel", "lands", "(Z)V"⟩, 46), (⟨"CourtHandModel", "jumps", "(I)V"⟩, 46), (⟨"CourtHandModel", "takes", "(I)Z"⟩, 46), (⟨"CourtHandModel", "readsItem", "()Z"⟩, 46), (⟨"CourtHandModel", "readsTimes", "()I"⟩, 46), (⟨"CourtHandModel", "octet", "(I)I"⟩, 46), (⟨"CourtHandModel", "repeats", "(III)Z"⟩, 46)]
theorem lw_r4 : ∀ q ∈ lw_privs_4, lw_okq q := List.forall_mem_cons.mpr ⟨lw_p48, List.forall_mem_cons.mpr ⟨lw_p49, List.forall_mem_cons.mpr ⟨lw_p50, List.forall_mem_cons.mpr ⟨lw_p51, List.forall_mem_cons.mpr ⟨lw_p52, List.forall_mem_cons.mpr ⟨lw_p53, List.forall_mem_cons.mpr ⟨lw_p54, List.forall_mem_cons.mpr ⟨lw_p55, List.forall_mem_cons.mpr ⟨lw_p56, List.forall_mem_cons.mpr ⟨lw_p57, List.forall_mem_cons.mpr ⟨lw_p58, List.forall_mem_cons.mpr ⟨lw_p59, List.forall_mem_cons.mpr ⟨lw_p60, List.forall_mem_cons.mpr ⟨lw_p61, List.forall_mem_cons.mpr ⟨lw_p62, List.forall_mem_cons.mpr ⟨lw_p63, fun _ h => absurd h List.not_mem_nil⟩⟩⟩⟩⟩⟩⟩⟩⟩⟩⟩⟩⟩⟩⟩⟩
theorem lw_p64 : lw_okq (⟨"CourtHandModel", "readsBlot", "()Z"⟩, 46) := ⟨⟨by decide +kernel, by decide +kernel⟩, List.mem_of_getElem? (i := 864) (by decide +kernel), List.mem_of_getElem? (i := 1161) (by decide +kernel), List.mem_of_getElem? (i := 1162) (by decide +kernel)⟩
theorem lw_p65 : lw_okq (⟨"CourtHandModel", "formNow", "(II)I"⟩, 46) := ⟨⟨by decide +kernel, by decide +kernel⟩, List.mem_of_getElem? (i := 864) (by decide +kernel), List.mem_of_getElem? (i := 1165) (by decide +kernel), List.mem_of_getElem? (i := 1166) (by decide +kernel)⟩
theorem lw_p66 : lw_okq (⟨"CourtHandModel", "moonsGo", "(I)V"⟩, 46) := ⟨⟨by decide +kernel, by decide +kernel⟩, List.mem_of_getElem? (i := 864) (by decide +kernel), List.mem_of_getElem? (i := 1191) (by decide +kernel), List.mem_of_getElem? (i := 1192) (by decide +kernel)⟩
theorem lw_p67 : lw_okq (⟨"CourtHandModel", "moonGoes", "()V"⟩, 46) := ⟨⟨by decide +kernel, by decide +kernel⟩, List.mem_of_getElem? (i := 864) (by decide +kernel), List.mem_of_getElem? (i := 1195) (by decide +kernel), List.mem_of_getElem? (i := 1196) (by decide +kernel)⟩
theorem lw_p68 : lw_okq (⟨"CourtHandModel", "rankOf", "(I)I"⟩, 46) := ⟨⟨by decide +kernel, by decide +kernel⟩, List.mem_of_getElem? (i := 864) (by decide +kernel), List.mem_of_getElem? (i := 1199) (by decide +kernel), List.mem_of_getElem? (i := 1200) (by decide +kernel)⟩
theorem lw_p69 : lw_okq (⟨"CourtHandModel", "isAhead", "(II)Z"⟩, 46) := ⟨⟨by decide +kernel, by decide +kernel⟩, List.mem_of_getElem? (i := 864) (by decide +kernel), List.mem_of_getElem? (i := 1203) (by decide +kernel), List.mem_of_getElem? (i := 1204) (by decide +kernel)⟩
theorem lw_p70 : lw_okq (⟨"CourtHandModel", "faultsOf", "(I)I"⟩, 46) := ⟨⟨by decide +kernel, by decide +kernel⟩, List.mem_of_getElem? (i := 864) (by decide +kernel), List.mem_of_getElem? (i := 1207) (by decide +kernel), List.mem_of_getElem? (i := 1208) (by decide +kernel)⟩
theorem lw_p71 : lw_okq (⟨"CourtHandModel", "feels", "(IIII)V"⟩, 46) := ⟨⟨by decide +kernel, by decide +kernel⟩, List.mem_of_getElem? (i := 864) (by decide +kernel), List.mem_of_getElem? (i := 1214) (by decide +kernel), List.mem_of_getElem? (i := 1215) (by decide +kernel)⟩
theorem lw_p72 : lw_okq (⟨"CourtHandModel", "byLaw", "(II)I"⟩, 46) := ⟨⟨by decide +kernel, by decide +kernel⟩, List.mem_of_getElem? (i := 864) (by decide +kernel), List.mem_of_getElem? (i := 1218) (by decide +kernel), List.mem_of_getElem? (i := 1219) (by decide +kernel)⟩
theorem lw_p73 : lw_okq (⟨"CourtHandModel", "comesTo", "(II)I"⟩, 46) := ⟨⟨by decide +kernel, by decide +kernel⟩, List.mem_of_getElem? (i := 864) (by decide +kernel), List.mem_of_getElem? (i := 1222) (by decide +kernel), List.mem_of_getElem? (i := 1223) (by decide +kernel)⟩
theorem lw_p74 : lw_okq (⟨"CourtHandModel", "practises", "(II)V"⟩, 46) := ⟨⟨by decide +kernel, by decide +kernel⟩, List.mem_of_getElem? (i := 864) (by decide +kernel), List.mem_of_getElem? (i := 1232) (by decide +kernel), List.mem_of_getElem? (i := 1233) (by decide +kernel)⟩
theorem lw_p75 : lw_okq (⟨"CourtHandModel", "holdsAny", "(I)Z"⟩, 46) := ⟨⟨by decide +kernel, by decide +kernel⟩, List.mem_of_getElem? (i := 864) (by decide +kernel), List.mem_of_getElem? (i := 1236) (by decide +kernel), List.mem_of_getElem? (i := 1237) (by decide +kernel)⟩
theorem lw_p76 : lw_okq (⟨"CourtHandModel", "draws", "()I"⟩, 46) := ⟨⟨by decide +kernel, by decide +kernel⟩, List.mem_of_getElem? (i := 864) (by decide +kernel), List.mem_of_getElem? (i := 1240) (by decide +kernel), List.mem_of_getElem? (i := 1241) (by decide +kernel)⟩
theorem lw_p77 : lw_okq (⟨"CourtHandModel", "firstInRank", "()I"⟩, 46) := ⟨⟨by decide +kernel, by decide +kernel⟩, List.mem_of_getElem? (i := 864) (by decide +kernel), List.mem_of_getElem? (i := 1249) (by decide +kernel), List.mem_of_getElem? (i := 1250) (by decide +kernel)⟩
theorem lw_p78 : lw_okq (⟨"CourtHandModel", "readsAs", "(I)I"⟩, 46) := ⟨⟨by decide +kernel, by decide +kernel⟩, List.mem_of_getElem? (i := 864) (by decide +kernel), List.mem_of_getElem? (i := 1257) (by decide +kernel), List.mem_of_getElem? (i := 1258) (by decide +kernel)⟩
theorem lw_p79 : lw_okq (⟨"CourtHandModel", "mayBe", "(III)V"⟩, 46) := ⟨⟨by decide +kernel, by decide +kernel⟩, List.mem_of_getElem? (i := 864) (by decide +kernel), List.mem_of_getElem? (i := 1290) (by decide +kernel), List.mem_of_getElem? (i := 1291) (by decide +kernel)⟩
def lw_privs_5 : List (MethodName × Nat) := [(⟨"CourtHandModel", "readsBlot", "()Z"⟩, 46), (⟨"CourtHandModel", "formNow", "(II)I"⟩, 46), (⟨"CourtHandModel", "moonsGo", "(I)V"⟩, 46), (⟨"CourtHandModel", "moonGoes", "()V"⟩, 46), (⟨"CourtHandModel", "rankOf", "(I)I"⟩, 46), (⟨"CourtHandModel", "isAhead", "(II)Z"⟩, 46), (⟨"CourtHandModel", "faultsOf", "(I)I"⟩, 46), (⟨"CourtHandModel", "feels", "(IIII)V"⟩, 46), (⟨"CourtHandModel", "byLaw", "(II)I"⟩, 46), (⟨"CourtHandModel", "comesTo", "(II)I"⟩, 46), (⟨"CourtHandModel", "practises", "(II)V"⟩, 46), (⟨"CourtHandModel", "holdsAny", "(I)Z"⟩, 46), (⟨"CourtHandModel", "draws", "()I"⟩, 46), (⟨"CourtHandModel", "firstInRank", "()I"⟩, 46), (⟨"CourtHandModel", "readsAs", "(I)I"⟩, 46), (⟨"CourtHandModel", "mayBe", "(III)V"⟩, 46)]
theorem lw_r5 : ∀ q ∈ lw_privs_5, lw_okq q := List.forall_mem_cons.mpr ⟨lw_p64, List.forall_mem_cons.mpr ⟨lw_p65, List.forall_mem_cons.mpr ⟨lw_p66, List.forall_mem_cons.mpr ⟨lw_p67, List.forall_mem_cons.mpr ⟨lw_p68, List.forall_mem_cons.mpr ⟨lw_p69, List.forall_mem_cons.mpr ⟨lw_p70, List.forall_mem_cons.mpr ⟨lw_p71, List.forall_mem_cons.mpr ⟨lw_p72, List.forall_mem_cons.mpr ⟨lw_p73, List.forall_mem_cons.mpr ⟨lw_p74, List.forall_mem_cons.mpr ⟨lw_p75, List.forall_mem_cons.mpr ⟨lw_p76, List.forall_mem_cons.mpr ⟨lw_p77, List.forall_mem_cons.mpr ⟨lw_p78, List.forall_mem_cons.mpr ⟨lw_p79, fun _ h => absurd h List.not_mem_nil⟩⟩⟩⟩⟩⟩⟩⟩⟩⟩⟩⟩⟩⟩⟩⟩
theorem lw_p80 : lw_okq (⟨"CourtHandModel", "modelSet", "()I"⟩, 46) := ⟨⟨by decide +kernel, by decide +kernel⟩, List.mem_of_getElem? (i := 864) (by decide +kernel), List.mem_of_getElem? (i := 1298) (by decide +kernel), List.mem_of_getElem? (i := 1299) (by decide +kernel)⟩
theorem lw_p81 : lw_okq (⟨"CourtHandModel", "toldSet", "()I"⟩, 46) := ⟨⟨by decide +kernel, by decide +kernel⟩, List.mem_of_getElem? (i := 864) (by decide +kernel), List.mem_of_getElem? (i := 1302) (by decide +kernel), List.mem_of_getElem? (i := 1303) (by decide +kernel)⟩
theorem lw_p82 : lw_okq (⟨"CourtHandModel", "readsSheet", "(I)Z"⟩, 46) := ⟨⟨by decide +kernel, by decide +kernel⟩, List.mem_of_getElem? (i := 864) (by decide +kernel), List.mem_of_getElem? (i := 1306) (by decide +kernel), List.mem_of_getElem? (i := 1307) (by decide +kernel)⟩
theorem lw_p83 : lw_okq (⟨"CourtHandModel", "apartInAll", "(II)I"⟩, 46) := ⟨⟨by decide +kernel, by decide +kernel⟩, List.mem_of_getElem? (i := 864) (by decide +kernel), List.mem_of_getElem? (i := 1314) (by decide +kernel), List.mem_of_getElem? (i := 1315) (by decide +kernel)⟩
theorem lw_p84 : lw_okq (⟨"CourtHandModel", "groupOf", "(II)I"⟩, 46) := ⟨⟨by decide +kernel, by decide +kernel⟩, List.mem_of_getElem? (i := 864) (by decide +kernel), List.mem_of_getElem? (i := 1322) (by decide +kernel), List.mem_of_getElem? (i := 1323) (by decide +kernel)⟩
theorem lw_p85 : lw_okq (⟨"CourtHandModel", "leastIn", "(I)I"⟩, 46) := ⟨⟨by decide +kernel, by decide +kernel⟩, List.mem_of_getElem? (i := 864) (by decide +kernel), List.mem_of_getElem? (i := 1383) (by decide +kernel), List.mem_of_getElem? (i := 1384) (by decide +kernel)⟩
def lw_privs_6 : List (MethodName × Nat) := [(⟨"CourtHandModel", "modelSet", "()I"⟩, 46), (⟨"CourtHandModel", "toldSet", "()I"⟩, 46), (⟨"CourtHandModel", "readsSheet", "(I)Z"⟩, 46), (⟨"CourtHandModel", "apartInAll", "(II)I"⟩, 46), (⟨"CourtHandModel", "groupOf", "(II)I"⟩, 46), (⟨"CourtHandModel", "leastIn", "(I)I"⟩, 46)]
theorem lw_r6 : ∀ q ∈ lw_privs_6, lw_okq q := List.forall_mem_cons.mpr ⟨lw_p80, List.forall_mem_cons.mpr ⟨lw_p81, List.forall_mem_cons.mpr ⟨lw_p82, List.forall_mem_cons.mpr ⟨lw_p83, List.forall_mem_cons.mpr ⟨lw_p84, List.forall_mem_cons.mpr ⟨lw_p85, fun _ h => absurd h List.not_mem_nil⟩⟩⟩⟩⟩⟩
def lw_privs : List (MethodName × Nat) := lw_privs_1 ++ (lw_privs_2 ++ (lw_privs_3 ++ (lw_privs_4 ++ (lw_privs_5 ++ (lw_privs_6)))))
def lw_tbl : List Cond := k2_sels lw_privs ++ tables_1
theorem lw_privs_ok : ∀ q ∈ lw_privs, lw_okq q := by
  show ∀ q ∈ lw_privs_1 ++ (lw_privs_2 ++ (lw_privs_3 ++ (lw_privs_4 ++ (lw_privs_5 ++ (lw_privs_6))))), lw_okq q
  exact List.forall_mem_append.mpr ⟨lw_r1, List.forall_mem_append.mpr ⟨lw_r2, List.forall_mem_append.mpr ⟨lw_r3, List.forall_mem_append.mpr ⟨lw_r4, List.forall_mem_append.mpr ⟨lw_r5, lw_r6⟩⟩⟩⟩⟩
end
section
abbrev mj_I : Type := Nat × ByteArray × Nat × Option FieldType × MethodName × Nat × Nat × List Nat
abbrev mj_M : Type := Nat → Nat → Int32
abbrev mj_r0 : mj_I := (8, prog_2_method_2_code, 9, (some .int), ⟨"CourtHand$Blots", "doLines", "(LCourtHand$Tape;ILCourtHand$Court;)I"⟩, 3, 100, [607, 606, 606, 104])
abbrev mj_r1 : mj_I := (8, prog_2_method_3_code, 7, (some .int), ⟨"CourtHand$Blots", "faultAhead", "(LCourtHand$Tape;IIILCourtHand$Court;)I"⟩, 5, 100, [610, 609, 609, 104])
abbrev mj_r2 : mj_I := (8, prog_2_method_4_code, 5, (some .int), ⟨"CourtHand$Blots", "lineEnd", "(LCourtHand$Tape;II)I"⟩, 3, 100, [617, 616, 616, 104])
abbrev mj_r3 : mj_I := (8, prog_2_method_5_code, 6, (some .int), ⟨"CourtHand$Blots", "blotted", "(ILCourtHand$Tape;II)I"⟩, 4, 100, [624, 623, 623, 104])
abbrev mj_r4 : mj_I := (0, prog_3_method_2_code, 2, none, ⟨"CourtHand$Court", "copyFrom", "(LCourtHand$Court;)V"⟩, 1, 0, [603, 601, 602, 89])
abbrev mj_r5 : mj_I := (0, prog_3_method_3_code, 2, (some .boolean), ⟨"CourtHand$Court", "has", "(I)Z"⟩, 1, 0, [356, 354, 355, 89])
abbrev mj_r6 : mj_I := (0, prog_3_method_4_code, 4, none, ⟨"CourtHand$Court", "tell", "(III)V"⟩, 3, 0, [342, 340, 341, 89])
abbrev mj_r7 : mj_I := (0, prog_3_method_5_code, 4, none, ⟨"CourtHand$Court", "setForm", "(III)V"⟩, 3, 0, [364, 362, 363, 89])
abbrev mj_r8 : mj_I := (0, prog_3_method_6_code, 4, (some .int), ⟨"CourtHand$Court", "formAt", "(II)I"⟩, 2, 0, [621, 619, 620, 89])
abbrev mj_r9 : mj_I := (0, prog_3_method_7_code, 5, (some .int), ⟨"CourtHand$Court", "faultsOf", "(I)I"⟩, 1, 0, [662, 660, 661, 89])
abbrev mj_r10 : mj_I := (0, prog_3_method_8_code, 5, (some .int), ⟨"CourtHand$Court", "handsApart", "(II)I"⟩, 2, 0, [848, 846, 847, 89])
abbrev mj_r11 : mj_I := (0, prog_3_method_9_code, 3, none, ⟨"CourtHand$Court", "rankAll", "()V"⟩, 0, 0, [658, 656, 657, 89])
abbrev mj_r12 : mj_I := (0, prog_3_method_10_code, 3, (some .boolean), ⟨"CourtHand$Court", "isAhead", "(II)Z"⟩, 2, 0, [673, 672, 18, 89])
abbrev mj_r13 : mj_I := (0, prog_3_method_11_code, 2, (some .int), ⟨"CourtHand$Court", "firstInRank", "()I"⟩, 0, 0, [735, 733, 734, 89])
abbrev mj_r14 : mj_I := (0, prog_3_method_12_code, 4, none, ⟨"CourtHand$Court", "passMoons", "(ILCourtHand$Law;)V"⟩, 2, 0, [650, 648, 649, 89])
abbrev mj_r15 : mj_I := (0, prog_3_method_13_code, 3, none, ⟨"CourtHand$Court", "passMoon", "(LCourtHand$Law;)V"⟩, 1, 0, [654, 653, 17, 89])
abbrev mj_r16 : mj_I := (0, prog_3_method_14_code, 4, none, ⟨"CourtHand$Court", "takeTurn", "(ILCourtHand$Law;)V"⟩, 2, 0, [677, 676, 19, 89])
abbrev mj_r17 : mj_I := (0, prog_3_method_15_code, 10, none, ⟨"CourtHand$Court", "practise", "(IILCourtHand$Law;)V"⟩, 3, 0, [708, 707, 21, 89])
abbrev mj_r18 : mj_I := (0, prog_3_method_16_code, 5, none, ⟨"CourtHand$Court", "mend", "(II)V"⟩, 2, 0, [722, 721, 23, 89])
abbrev mj_r19 : mj_I := (0, prog_3_method_17_code, 1, (some .int), ⟨"CourtHand$Court", "draw", "()I"⟩, 0, 0, [717, 716, 22, 89])
abbrev mj_r20 : mj_I := (9, prog_4_method_2_code, 1, (some .boolean), ⟨"CourtHand$Grids", "fits", "(I)Z"⟩, 1, 100, [329, 328, 328, 96])
abbrev mj_r21 : mj_I := (9, prog_4_method_3_code, 2, (some .int), ⟨"CourtHand$Grids", "gap", "(II)I"⟩, 2, 100, [775, 774, 774, 96])
abbrev mj_r22 : mj_I := (9, prog_4_method_4_code, 1, (some .int), ⟨"CourtHand$Grids", "toLeft", "(I)I"⟩, 1, 100, [628, 627, 627, 96])
abbrev mj_r23 : mj_I := (9, prog_4_method_5_code, 1, (some .int), ⟨"CourtHand$Grids", "toRight", "(I)I"⟩, 1, 100, [632, 631, 631, 96])
abbrev mj_r24 : mj_I := (9, prog_4_method_6_code, 1, (some .int), ⟨"CourtHand$Grids", "toTop", "(I)I"⟩, 1, 100, [892, 891, 891, 96])
abbrev mj_r25 : mj_I := (9, prog_4_method_7_code, 1, (some .int), ⟨"CourtHand$Grids", "toBottom", "(I)I"⟩, 1, 100, [895, 894, 894, 96])
abbrev mj_r26 : mj_I := (9, prog_4_method_8_code, 1, (some .int), ⟨"CourtHand$Grids", "mirrored", "(I)I"⟩, 1, 100, [636, 635, 635, 96])
abbrev mj_r27 : mj_I := (9, prog_4_method_9_code, 5, (some .int), ⟨"CourtHand$Grids", "turned", "(I)I"⟩, 1, 100, [906, 905, 905, 96])
abbrev mj_r28 : mj_I := (9, prog_4_method_10_code, 4, (some .int), ⟨"CourtHand$Grids", "likeness", "(II)I"⟩, 2, 100, [917, 916, 916, 96])
abbrev mj_r29 : mj_I := (9, prog_4_method_11_code, 7, (some .int), ⟨"CourtHand$Grids", "lowestPart", "(IZ)I"⟩, 2, 100, [887, 886, 886, 96])
abbrev mj_r30 : mj_I := (9, prog_4_method_12_code, 5, (some .int), ⟨"CourtHand$Grids", "loops", "(I)I"⟩, 1, 100, [884, 883, 883, 96])
abbrev mj_r31 : mj_I := (9, prog_4_method_13_code, 4, (some .int), ⟨"CourtHand$Grids", "strokes", "(I)I"⟩, 1, 100, [899, 898, 898, 96])
abbrev mj_r32 : mj_I := (9, prog_4_method_14_code, 8, (some .int), ⟨"CourtHand$Grids", "cross", "(I)I"⟩, 1, 100, [902, 901, 901, 96])
abbrev mj_r33 : mj_I := (9, prog_4_method_15_code, 6, (some .int), ⟨"CourtHand$Grids", "penLifts", "(I)I"⟩, 1, 100, [909, 908, 908, 96])
abbrev mj_r34 : mj_I := (1, prog_5_method_2_code, 5, none, ⟨"CourtHand$Law", "meet", "(IIII)V"⟩, 4, 1, [681, 679, 680, 94])
abbrev mj_r35 : mj_I := (1, prog_5_method_3_code, 3, none, ⟨"CourtHand$Law", "see", "(II)V"⟩, 2, 1, [685, 683, 684, 94])
abbrev mj_r36 : mj_I := (1, prog_5_method_4_code, 4, none, ⟨"CourtHand$Law", "lookAt", "(III)V"⟩, 3, 1, [689, 687, 688, 94])
abbrev mj_r37 : mj_I := (1, prog_5_method_5_code, 4, (some .int), ⟨"CourtHand$Law", "worth", "(II)I"⟩, 2, 1, [693, 691, 692, 94])
abbrev mj_r38 : mj_I := (1, prog_5_method_6_code, 2, (some .boolean), ⟨"CourtHand$Law", "forbids", "()Z"⟩, 0, 1, [713, 711, 712, 94])
abbrev mj_r39 : mj_I := (1, prog_5_method_7_code, 7, (some .int), ⟨"CourtHand$Law", "run", "(I)I"⟩, 1, 1, [697, 696, 20, 94])
abbrev mj_r40 : mj_I := (1, prog_5_method_8_code, 3, (some .int), ⟨"CourtHand$Law", "reckon", "(III)I"⟩, 3, 100, [700, 699, 699, 94])
abbrev mj_r41 : mj_I := (1, prog_5_method_9_code, 1, none, ⟨"CourtHand$Law", "begin", "()V"⟩, 0, 1, [392, 390, 391, 94])
abbrev mj_r42 : mj_I := (1, prog_5_method_10_code, 2, none, ⟨"CourtHand$Law", "put", "(I)V"⟩, 1, 1, [529, 527, 528, 94])
abbrev mj_r43 : mj_I := (1, prog_5_method_11_code, 2, (some .int), ⟨"CourtHand$Law", "putLeap", "(I)I"⟩, 1, 1, [549, 547, 548, 94])
abbrev mj_r44 : mj_I := (1, prog_5_method_12_code, 2, none, ⟨"CourtHand$Law", "endLeap", "(I)V"⟩, 1, 1, [554, 552, 553, 94])
abbrev mj_r45 : mj_I := (1, prog_5_method_13_code, 4, none, ⟨"CourtHand$Law", "addRule", "(III)V"⟩, 3, 1, [558, 556, 557, 94])
abbrev mj_r46 : mj_I := (2, prog_6_method_2_code, 3, (some (.object "CourtHand$Law")), ⟨"CourtHand$LawReader", "handOver", "(LCourtHand$Law;)LCourtHand$Law;"⟩, 1, 2, [562, 560, 561, 93])
abbrev mj_r47 : mj_I := (2, prog_6_method_3_code, 3, (some .int), ⟨"CourtHand$LawReader", "readLaw", "(I)I"⟩, 1, 2, [388, 386, 387, 93])
abbrev mj_r48 : mj_I := (2, prog_6_method_4_code, 1, (some .int), ⟨"CourtHand$LawReader", "sign", "()I"⟩, 0, 2, [400, 399, 1, 93])
abbrev mj_r49 : mj_I := (2, prog_6_method_5_code, 4, (some .boolean), ⟨"CourtHand$LawReader", "isSign", "(II)Z"⟩, 2, 2, [533, 532, 9, 93])
abbrev mj_r50 : mj_I := (2, prog_6_method_6_code, 2, none, ⟨"CourtHand$LawReader", "fail", "(I)V"⟩, 1, 2, [408, 407, 2, 93])
abbrev mj_r51 : mj_I := (2, prog_6_method_7_code, 2, none, ⟨"CourtHand$LawReader", "pass", "(I)V"⟩, 1, 2, [518, 517, 7, 93])
abbrev mj_r52 : mj_I := (2, prog_6_method_8_code, 2, (some .boolean), ⟨"CourtHand$LawReader", "opens", "(I)Z"⟩, 1, 2, [514, 513, 6, 93])
abbrev mj_r53 : mj_I := (2, prog_6_method_9_code, 4, none, ⟨"CourtHand$LawReader", "readRule", "()V"⟩, 0, 2, [396, 395, 0, 93])
abbrev mj_r54 : mj_I := (2, prog_6_method_10_code, 4, none, ⟨"CourtHand$LawReader", "readCondition", "(I)V"⟩, 1, 2, [537, 536, 10, 93])
abbrev mj_r55 : mj_I := (2, prog_6_method_11_code, 4, none, ⟨"CourtHand$LawReader", "readPart", "(I)V"⟩, 1, 2, [541, 540, 11, 93])
abbrev mj_r56 : mj_I := (2, prog_6_method_12_code, 4, none, ⟨"CourtHand$LawReader", "readTest", "(I)V"⟩, 1, 2, [545, 544, 12, 93])
abbrev mj_r57 : mj_I := (2, prog_6_method_13_code, 4, none, ⟨"CourtHand$LawReader", "readSum", "(I)V"⟩, 1, 2, [415, 414, 3, 93])
abbrev mj_r58 : mj_I := (2, prog_6_method_14_code, 4, none, ⟨"CourtHand$LawReader", "readProduct", "(I)V"⟩, 1, 2, [419, 418, 4, 93])
abbrev mj_r59 : mj_I := (2, prog_6_method_15_code, 4, none, ⟨"CourtHand$LawReader", "readFactor", "(I)V"⟩, 1, 2, [423, 422, 5, 93])
abbrev mj_r60 : mj_I := (2, prog_6_method_16_code, 3, none, ⟨"CourtHand$LawReader", "readNumber", "()V"⟩, 0, 2, [525, 524, 8, 93])
abbrev mj_r61 : mj_I := (2, prog_6_method_17_code, 1, (some .boolean), ⟨"CourtHand$LawReader", "isDigit", "(I)Z"⟩, 1, 100, [521, 520, 520, 93])
abbrev mj_r62 : mj_I := (3, prog_7_method_2_code, 2, (some .boolean), ⟨"CourtHand$Models", "has", "(I)Z"⟩, 1, 3, [360, 358, 359, 88])
abbrev mj_r63 : mj_I := (3, prog_7_method_3_code, 3, none, ⟨"CourtHand$Models", "tell", "(II)V"⟩, 2, 3, [334, 332, 333, 88])
abbrev mj_r64 : mj_I := (3, prog_7_method_4_code, 6, (some .int), ⟨"CourtHand$Models", "nearest", "(I)I"⟩, 1, 3, [754, 752, 753, 88])
abbrev mj_r65 : mj_I := (3, prog_7_method_5_code, 5, (some .int), ⟨"CourtHand$Models", "behind", "(II)I"⟩, 2, 3, [815, 813, 814, 88])
abbrev mj_r66 : mj_I := (3, prog_7_method_6_code, 5, (some .int), ⟨"CourtHand$Models", "leastApart", "(I)I"⟩, 1, 3, [927, 925, 926, 88])
abbrev mj_r67 : mj_I := (4, prog_8_method_2_code, 8, (some .int), ⟨"CourtHand$Order", "readOrder", "(LCourtHand$Tape;I)I"⟩, 2, 4, [571, 569, 570, 92])
abbrev mj_r68 : mj_I := (4, prog_8_method_3_code, 2, (some .int), ⟨"CourtHand$Order", "openRound", "(I)I"⟩, 1, 4, [579, 578, 13, 92])
abbrev mj_r69 : mj_I := (4, prog_8_method_4_code, 3, (some .int), ⟨"CourtHand$Order", "shutRound", "(II)I"⟩, 2, 4, [584, 583, 14, 92])
abbrev mj_r70 : mj_I := (4, prog_8_method_5_code, 4, (some .int), ⟨"CourtHand$Order", "putLetter", "(III)I"⟩, 3, 4, [592, 591, 16, 92])
abbrev mj_r71 : mj_I := (4, prog_8_method_6_code, 7, (some .int), ⟨"CourtHand$Order", "repeat", "(III)I"⟩, 3, 4, [588, 587, 15, 92])
abbrev mj_r72 : mj_I := (4, prog_8_method_7_code, 4, (some .int), ⟨"CourtHand$Order", "timesAt", "(LCourtHand$Tape;II)I"⟩, 3, 100, [575, 574, 574, 92])
abbrev mj_r73 : mj_I := (5, prog_9_method_2_code, 1, (some .boolean), ⟨"CourtHand$Tape", "hasRoom", "()Z"⟩, 0, 5, [372, 370, 371, 91])
abbrev mj_r74 : mj_I := (5, prog_9_method_3_code, 3, none, ⟨"CourtHand$Tape", "addInt", "(I)V"⟩, 1, 5, [376, 374, 375, 91])
abbrev mj_r75 : mj_I := (5, prog_9_method_4_code, 4, (some .boolean), ⟨"CourtHand$Tape", "has", "(III)Z"⟩, 3, 5, [384, 382, 383, 91])
abbrev mj_r76 : mj_I := (5, prog_9_method_5_code, 2, (some .int), ⟨"CourtHand$Tape", "byteAt", "(I)I"⟩, 1, 5, [404, 402, 403, 91])
abbrev mj_r77 : mj_I := (5, prog_9_method_6_code, 4, (some .int), ⟨"CourtHand$Tape", "intAt", "(I)I"⟩, 1, 5, [830, 828, 829, 91])
abbrev mj_r78 : mj_I := (6, prog_1_method_2_code, 3, (some .boolean), ⟨"CourtHand", "model", "(II)Z"⟩, 2, 6, [326, 324, 325, 87])
abbrev mj_r79 : mj_I := (6, prog_1_method_3_code, 4, (some .boolean), ⟨"CourtHand", "courtier", "(III)Z"⟩, 3, 6, [338, 336, 337, 87])
abbrev mj_r80 : mj_I := (6, prog_1_method_4_code, 4, (some .boolean), ⟨"CourtHand", "form", "(III)Z"⟩, 3, 6, [352, 350, 351, 87])
abbrev mj_r81 : mj_I := (6, prog_1_method_5_code, 6, (some .int), ⟨"CourtHand", "feed", "(IIIII)I"⟩, 5, 6, [368, 366, 367, 87])
abbrev mj_r82 : mj_I := (6, prog_1_method_6_code, 3, (some .int), ⟨"CourtHand", "law", "(I)I"⟩, 1, 6, [380, 378, 379, 87])
abbrev mj_r83 : mj_I := (6, prog_1_method_7_code, 3, (some .int), ⟨"CourtHand", "order", "(I)I"⟩, 1, 6, [567, 565, 566, 87])
abbrev mj_r84 : mj_I := (6, prog_1_method_8_code, 3, (some .int), ⟨"CourtHand", "blots", "(I)I"⟩, 1, 6, [599, 597, 598, 87])
abbrev mj_r85 : mj_I := (6, prog_1_method_9_code, 2, (some .int), ⟨"CourtHand", "moons", "(I)I"⟩, 1, 6, [646, 644, 645, 87])
abbrev mj_r86 : mj_I := (6, prog_1_method_10_code, 3, (some .int), ⟨"CourtHand", "tried", "(II)I"⟩, 2, 6, [727, 725, 726, 87])
abbrev mj_r87 : mj_I := (6, prog_1_method_11_code, 2, (some .boolean), ⟨"CourtHand", "canBeTried", "(I)Z"⟩, 1, 6, [731, 730, 24, 87])
abbrev mj_r88 : mj_I := (6, prog_1_method_12_code, 3, (some .int), ⟨"CourtHand", "triedOfOne", "(II)I"⟩, 2, 6, [739, 738, 25, 87])
abbrev mj_r89 : mj_I := (6, prog_1_method_13_code, 3, (some .int), ⟨"CourtHand", "courtierIs", "(II)I"⟩, 2, 6, [745, 743, 744, 87])
abbrev mj_r90 : mj_I := (6, prog_1_method_14_code, 5, (some .int), ⟨"CourtHand", "formsRead", "(IZ)I"⟩, 2, 6, [749, 748, 26, 87])
abbrev mj_r91 : mj_I := (6, prog_1_method_15_code, 3, (some .int), ⟨"CourtHand", "formOf", "(II)I"⟩, 2, 6, [760, 758, 759, 87])
abbrev mj_r92 : mj_I := (6, prog_1_method_16_code, 2, (some .int), ⟨"CourtHand", "modelOf", "(I)I"⟩, 1, 6, [764, 762, 763, 87])
abbrev mj_r93 : mj_I := (6, prog_1_method_17_code, 2, (some .int), ⟨"CourtHand", "read", "(I)I"⟩, 1, 6, [768, 766, 767, 87])
abbrev mj_r94 : mj_I := (6, prog_1_method_18_code, 3, (some .int), ⟨"CourtHand", "apart", "(II)I"⟩, 2, 6, [772, 770, 771, 87])
abbrev mj_r95 : mj_I := (6, prog_1_method_19_code, 6, (some .int), ⟨"CourtHand", "written", "(II)I"⟩, 2, 6, [780, 778, 779, 87])
abbrev mj_r96 : mj_I := (6, prog_1_method_20_code, 6, (some .int), ⟨"CourtHand", "writtenLetter", "(III)I"⟩, 3, 6, [789, 788, 28, 87])
abbrev mj_r97 : mj_I := (6, prog_1_method_21_code, 5, (some .int), ⟨"CourtHand", "inkLastsFor", "(I)I"⟩, 1, 6, [784, 783, 27, 87])
abbrev mj_r98 : mj_I := (6, prog_1_method_22_code, 5, (some .int), ⟨"CourtHand", "copied", "(II)I"⟩, 2, 6, [793, 791, 792, 87])
abbrev mj_r99 : mj_I := (6, prog_1_method_23_code, 9, (some .int), ⟨"CourtHand", "copyAlong", "(I)I"⟩, 1, 6, [798, 797, 29, 87])
abbrev mj_r100 : mj_I := (6, prog_1_method_24_code, 4, (some .int), ⟨"CourtHand", "placesAsTheyWere", "(I)I"⟩, 1, 6, [803, 802, 30, 87])
abbrev mj_r101 : mj_I := (6, prog_1_method_25_code, 5, (some .int), ⟨"CourtHand", "another", "(III)I"⟩, 3, 6, [807, 805, 806, 87])
abbrev mj_r102 : mj_I := (6, prog_1_method_26_code, 6, (some .int), ⟨"CourtHand", "fewestDots", "(II)I"⟩, 2, 6, [811, 810, 31, 87])
abbrev mj_r103 : mj_I := (6, prog_1_method_27_code, 10, (some .int), ⟨"CourtHand", "leastDots", "(III)I"⟩, 3, 6, [822, 821, 32, 87])
abbrev mj_r104 : mj_I := (6, prog_1_method_28_code, 6, (some .int), ⟨"CourtHand", "whose", "(II)I"⟩, 2, 6, [826, 824, 825, 87])
abbrev mj_r105 : mj_I := (6, prog_1_method_29_code, 8, (some .int), ⟨"CourtHand", "nearestHand", "(II)I"⟩, 2, 6, [835, 834, 33, 87])
abbrev mj_r106 : mj_I := (6, prog_1_method_30_code, 6, (some .int), ⟨"CourtHand", "farFromSheet", "(II)I"⟩, 2, 6, [840, 839, 34, 87])
abbrev mj_r107 : mj_I := (6, prog_1_method_31_code, 3, (some .int), ⟨"CourtHand", "forge", "(II)I"⟩, 2, 6, [844, 842, 843, 87])
abbrev mj_r108 : mj_I := (6, prog_1_method_32_code, 3, (some .int), ⟨"CourtHand", "alike", "(II)I"⟩, 2, 6, [853, 851, 852, 87])
abbrev mj_r109 : mj_I := (6, prog_1_method_33_code, 4, none, ⟨"CourtHand", "markNear", "(I)V"⟩, 1, 6, [857, 856, 35, 87])
abbrev mj_r110 : mj_I := (6, prog_1_method_34_code, 4, (some .int), ⟨"CourtHand", "groups", "()I"⟩, 0, 6, [861, 860, 36, 87])
abbrev mj_r111 : mj_I := (6, prog_1_method_35_code, 5, (some .int), ⟨"CourtHand", "groupOf", "(I)I"⟩, 1, 6, [865, 864, 37, 87])
abbrev mj_r112 : mj_I := (6, prog_1_method_36_code, 7, (some .int), ⟨"CourtHand", "rises", "(II)I"⟩, 2, 6, [869, 867, 868, 87])
abbrev mj_r113 : mj_I := (6, prog_1_method_37_code, 1, (some .int), ⟨"CourtHand", "commands", "()I"⟩, 0, 6, [873, 871, 872, 87])
abbrev mj_r114 : mj_I := (6, prog_1_method_38_code, 9, (some .int), ⟨"CourtHand", "clear", "(II)I"⟩, 2, 6, [877, 875, 876, 87])
abbrev mj_r115 : mj_I := (6, prog_1_method_39_code, 3, (some .int), ⟨"CourtHand", "shape", "(II)I"⟩, 2, 6, [881, 879, 880, 87])
abbrev mj_r116 : mj_I := (6, prog_1_method_40_code, 3, (some .int), ⟨"CourtHand", "like", "(II)I"⟩, 2, 6, [914, 912, 913, 87])
abbrev mj_r117 : mj_I := (6, prog_1_method_41_code, 7, (some .int), ⟨"CourtHand", "toldApart", "(II)I"⟩, 2, 6, [923, 921, 922, 87])
abbrev mj_r118 : mj_I := (6, prog_1_method_42_code, 2, (some .boolean), ⟨"CourtHand", "seed", "(I)Z"⟩, 1, 6, [931, 929, 930, 87])
abbrev mj_r119 : mj_I := (6, prog_1_method_43_code, 1, (some .int), ⟨"CourtHand", "keep", "()I"⟩, 0, 6, [936, 934, 935, 87])
abbrev mj_r120 : mj_I := (6, prog_1_method_44_code, 1, (some .boolean), ⟨"CourtHand", "undo", "()Z"⟩, 0, 6, [940, 938, 939, 87])
abbrev mj_r121 : mj_I := (6, prog_1_method_45_code, 4, (some .int), ⟨"CourtHand", "check", "(I)I"⟩, 1, 6, [944, 942, 943, 87])
abbrev mj_r122 : mj_I := (6, prog_1_method_46_code, 2, (some .int), ⟨"CourtHand", "count", "(I)I"⟩, 1, 6, [948, 946, 947, 87])
abbrev mj_r123 : mj_I := (6, prog_1_method_47_code, 2, (some .int), ⟨"CourtHand", "fault", "(II)I"⟩, 2, 100, [411, 410, 410, 87])
abbrev mj_r124 : mj_I := (7, prog_11_method_2_code, 3, (some .boolean), ⟨"CourtHandModel", "in", "(III)Z"⟩, 3, 100, [1100, 1099, 1099, 95])
abbrev mj_r125 : mj_I := (7, prog_11_method_3_code, 2, (some .int), ⟨"CourtHandModel", "min", "(II)I"⟩, 2, 100, [1316, 1315, 1315, 95])
abbrev mj_r126 : mj_I := (7, prog_11_method_4_code, 2, (some .int), ⟨"CourtHandModel", "max", "(II)I"⟩, 2, 100, [1450, 1449, 1449, 95])
abbrev mj_r127 : mj_I := (7, prog_11_method_5_code, 2, (some .boolean), ⟨"CourtHandModel", "has", "(II)Z"⟩, 2, 100, [1265, 1264, 1264, 95])
abbrev mj_r128 : mj_I := (7, prog_11_method_6_code, 3, (some .int), ⟨"CourtHandModel", "bits", "(I)I"⟩, 1, 100, [1298, 1297, 1297, 95])
abbrev mj_r129 : mj_I := (7, prog_11_method_7_code, 3, none, ⟨"CourtHandModel", "copies", "([I[I)V"⟩, 2, 100, [1245, 1244, 1244, 95])
abbrev mj_r130 : mj_I := (7, prog_11_method_8_code, 1, (some .boolean), ⟨"CourtHandModel", "isGrid", "(I)Z"⟩, 1, 100, [1103, 1102, 1102, 95])
abbrev mj_r131 : mj_I := (7, prog_11_method_9_code, 2, (some .boolean), ⟨"CourtHandModel", "isLetter", "(I)Z"⟩, 1, 7, [1123, 1122, 39, 95])
abbrev mj_r132 : mj_I := (7, prog_11_method_10_code, 2, (some .boolean), ⟨"CourtHandModel", "isTold", "(I)Z"⟩, 1, 7, [1119, 1118, 38, 95])
abbrev mj_r133 : mj_I := (7, prog_11_method_11_code, 3, (some .int), ⟨"CourtHandModel", "modelSet", "()I"⟩, 0, 7, [1386, 1385, 80, 95])
abbrev mj_r134 : mj_I := (7, prog_11_method_12_code, 3, (some .int), ⟨"CourtHandModel", "toldSet", "()I"⟩, 0, 7, [1390, 1389, 81, 95])
abbrev mj_r135 : mj_I := (7, prog_11_method_13_code, 2, (some .int), ⟨"CourtHandModel", "own", "(II)I"⟩, 2, 100, [1111, 1110, 1110, 95])
abbrev mj_r136 : mj_I := (7, prog_11_method_14_code, 3, (some .int), ⟨"CourtHandModel", "formNow", "(II)I"⟩, 2, 7, [1253, 1252, 65, 95])
abbrev mj_r137 : mj_I := (7, prog_11_method_15_code, 4, (some .int), ⟨"CourtHandModel", "faultsOf", "(I)I"⟩, 1, 7, [1295, 1294, 70, 95])
abbrev mj_r138 : mj_I := (7, prog_11_method_16_code, 5, (some .boolean), ⟨"CourtHandModel", "isAhead", "(II)Z"⟩, 2, 7, [1291, 1290, 69, 95])
abbrev mj_r139 : mj_I := (7, prog_11_method_17_code, 4, (some .int), ⟨"CourtHandModel", "rankOf", "(I)I"⟩, 1, 7, [1287, 1286, 68, 95])
abbrev mj_r140 : mj_I := (7, prog_11_method_18_code, 6, (some .int), ⟨"CourtHandModel", "readsAs", "(I)I"⟩, 1, 7, [1345, 1344, 78, 95])
abbrev mj_r141 : mj_I := (7, prog_11_method_19_code, 3, (some .boolean), ⟨"CourtHandModel", "model", "(II)Z"⟩, 2, 7, [1097, 1095, 1096, 95])
abbrev mj_r142 : mj_I := (7, prog_11_method_20_code, 5, (some .boolean), ⟨"CourtHandModel", "courtier", "(III)Z"⟩, 3, 7, [1108, 1106, 1107, 95])
abbrev mj_r143 : mj_I := (7, prog_11_method_21_code, 4, (some .boolean), ⟨"CourtHandModel", "form", "(III)Z"⟩, 3, 7, [1115, 1113, 1114, 95])
abbrev mj_r144 : mj_I := (7, prog_11_method_22_code, 3, none, ⟨"CourtHandModel", "types", "(I)V"⟩, 1, 7, [1131, 1130, 40, 95])
abbrev mj_r145 : mj_I := (7, prog_11_method_23_code, 6, (some .int), ⟨"CourtHandModel", "feed", "(IIIII)I"⟩, 5, 7, [1127, 1125, 1126, 95])
abbrev mj_r146 : mj_I := (7, prog_11_method_24_code, 2, (some .int), ⟨"CourtHandModel", "octet", "(I)I"⟩, 1, 7, [1234, 1233, 62, 95])
abbrev mj_r147 : mj_I := (7, prog_11_method_25_code, 1, (some .int), ⟨"CourtHandModel", "here", "()I"⟩, 0, 7, [1147, 1146, 43, 95])
abbrev mj_r148 : mj_I := (7, prog_11_method_26_code, 1, (some .boolean), ⟨"CourtHandModel", "isDigit", "()Z"⟩, 0, 7, [1168, 1167, 48, 95])
abbrev mj_r149 : mj_I := (7, prog_11_method_27_code, 3, (some .boolean), ⟨"CourtHandModel", "wrongAt", "(II)Z"⟩, 2, 7, [1151, 1150, 44, 95])
abbrev mj_r150 : mj_I := (7, prog_11_method_28_code, 2, (some .boolean), ⟨"CourtHandModel", "takes", "(I)Z"⟩, 1, 7, [1218, 1217, 59, 95])
abbrev mj_r151 : mj_I := (7, prog_11_method_29_code, 2, (some .boolean), ⟨"CourtHandModel", "readsNumber", "()Z"⟩, 0, 7, [1172, 1171, 49, 95])
abbrev mj_r152 : mj_I := (7, prog_11_method_30_code, 3, none, ⟨"CourtHandModel", "notes", "(II)V"⟩, 2, 7, [1176, 1175, 50, 95])
abbrev mj_r153 : mj_I := (7, prog_11_method_31_code, 2, (some .boolean), ⟨"CourtHandModel", "opens", "(I)Z"⟩, 1, 7, [1163, 1162, 47, 95])
abbrev mj_r154 : mj_I := (7, prog_11_method_32_code, 1, (some .int), ⟨"CourtHandModel", "waitTop", "()I"⟩, 0, 7, [1190, 1189, 52, 95])
abbrev mj_r155 : mj_I := (7, prog_11_method_33_code, 1, (some .int), ⟨"CourtHandModel", "factOf", "(I)I"⟩, 1, 100, [1179, 1178, 1178, 95])
abbrev mj_r156 : mj_I := (7, prog_11_method_34_code, 1, (some .int), ⟨"CourtHandModel", "sumSign", "(I)I"⟩, 1, 100, [1182, 1181, 1181, 95])
abbrev mj_r157 : mj_I := (7, prog_11_method_35_code, 2, none, ⟨"CourtHandModel", "closesSums", "(Z)V"⟩, 1, 7, [1186, 1185, 51, 95])
abbrev mj_r158 : mj_I := (7, prog_11_method_36_code, 2, (some .boolean), ⟨"CourtHandModel", "readsFactor", "()Z"⟩, 0, 7, [1159, 1158, 46, 95])
abbrev mj_r159 : mj_I := (7, prog_11_method_37_code, 3, (some .boolean), ⟨"CourtHandModel", "hasOpenSum", "(I)Z"⟩, 1, 7, [1194, 1193, 53, 95])
abbrev mj_r160 : mj_I := (7, prog_11_method_38_code, 3, (some .boolean), ⟨"CourtHandModel", "readsSum", "()Z"⟩, 0, 7, [1155, 1154, 45, 95])
abbrev mj_r161 : mj_I := (7, prog_11_method_39_code, 1, none, ⟨"CourtHandModel", "endsPiece", "()V"⟩, 0, 7, [1206, 1205, 56, 95])
abbrev mj_r162 : mj_I := (7, prog_11_method_40_code, 3, none, ⟨"CourtHandModel", "lands", "(Z)V"⟩, 1, 7, [1210, 1209, 57, 95])
abbrev mj_r163 : mj_I := (7, prog_11_method_41_code, 2, none, ⟨"CourtHandModel", "jumps", "(I)V"⟩, 1, 7, [1214, 1213, 58, 95])
abbrev mj_r164 : mj_I := (7, prog_11_method_42_code, 2, (some .boolean), ⟨"CourtHandModel", "readsCompared", "()Z"⟩, 0, 7, [1202, 1201, 55, 95])
abbrev mj_r165 : mj_I := (7, prog_11_method_43_code, 1, (some .boolean), ⟨"CourtHandModel", "readsCondition", "()Z"⟩, 0, 7, [1198, 1197, 54, 95])
abbrev mj_r166 : mj_I := (7, prog_11_method_44_code, 2, (some .boolean), ⟨"CourtHandModel", "readsRule", "()Z"⟩, 0, 7, [1143, 1142, 42, 95])
abbrev mj_r167 : mj_I := (7, prog_11_method_45_code, 2, none, ⟨"CourtHandModel", "beginsText", "(I)V"⟩, 1, 7, [1139, 1138, 41, 95])
abbrev mj_r168 : mj_I := (7, prog_11_method_46_code, 4, (some .int), ⟨"CourtHandModel", "law", "(I)I"⟩, 1, 7, [1135, 1133, 1134, 95])
abbrev mj_r169 : mj_I := (7, prog_11_method_47_code, 3, (some .int), ⟨"CourtHandModel", "reckon", "(III)I"⟩, 3, 100, [1313, 1312, 1312, 95])
abbrev mj_r170 : mj_I := (7, prog_11_method_48_code, 8, (some .int), ⟨"CourtHandModel", "comesTo", "(II)I"⟩, 2, 7, [1310, 1309, 73, 95])
abbrev mj_r171 : mj_I := (7, prog_11_method_49_code, 5, (some .int), ⟨"CourtHandModel", "byLaw", "(II)I"⟩, 2, 7, [1306, 1305, 72, 95])
abbrev mj_r172 : mj_I := (7, prog_11_method_50_code, 3, (some .boolean), ⟨"CourtHandModel", "holdsAny", "(I)Z"⟩, 1, 7, [1324, 1323, 75, 95])
abbrev mj_r173 : mj_I := (7, prog_11_method_51_code, 1, (some .int), ⟨"CourtHandModel", "readsTimes", "()I"⟩, 0, 7, [1230, 1229, 61, 95])
abbrev mj_r174 : mj_I := (7, prog_11_method_52_code, 6, (some .boolean), ⟨"CourtHandModel", "repeats", "(III)Z"⟩, 3, 7, [1238, 1237, 63, 95])
abbrev mj_r175 : mj_I := (7, prog_11_method_53_code, 4, (some .boolean), ⟨"CourtHandModel", "readsItem", "()Z"⟩, 0, 7, [1226, 1225, 60, 95])
abbrev mj_r176 : mj_I := (7, prog_11_method_54_code, 4, (some .int), ⟨"CourtHandModel", "order", "(I)I"⟩, 1, 7, [1222, 1220, 1221, 95])
abbrev mj_r177 : mj_I := (7, prog_11_method_55_code, 2, (some .int), ⟨"CourtHandModel", "dot", "(II)I"⟩, 2, 100, [1271, 1270, 1270, 95])
abbrev mj_r178 : mj_I := (7, prog_11_method_56_code, 3, (some .int), ⟨"CourtHandModel", "mirroredOf", "(I)I"⟩, 1, 100, [1268, 1267, 1267, 95])
abbrev mj_r179 : mj_I := (7, prog_11_method_57_code, 3, (some .int), ⟨"CourtHandModel", "turnedOf", "(I)I"⟩, 1, 100, [1453, 1452, 1452, 95])
abbrev mj_r180 : mj_I := (7, prog_11_method_58_code, 4, (some .int), ⟨"CourtHandModel", "movedOf", "(II)I"⟩, 2, 100, [1262, 1261, 1261, 95])
abbrev mj_r181 : mj_I := (7, prog_11_method_59_code, 2, (some .int), ⟨"CourtHandModel", "blotted", "(II)I"⟩, 2, 100, [1259, 1258, 1258, 95])
abbrev mj_r182 : mj_I := (7, prog_11_method_60_code, 1, (some .boolean), ⟨"CourtHandModel", "isSign", "(I)Z"⟩, 1, 100, [1256, 1255, 1255, 95])
abbrev mj_r183 : mj_I := (7, prog_11_method_61_code, 4, (some .boolean), ⟨"CourtHandModel", "readsBlot", "()Z"⟩, 0, 7, [1249, 1248, 64, 95])
abbrev mj_r184 : mj_I := (7, prog_11_method_62_code, 3, (some .int), ⟨"CourtHandModel", "blots", "(I)I"⟩, 1, 7, [1242, 1240, 1241, 95])
abbrev mj_r185 : mj_I := (7, prog_11_method_63_code, 1, (some .int), ⟨"CourtHandModel", "draws", "()I"⟩, 0, 7, [1328, 1327, 76, 95])
abbrev mj_r186 : mj_I := (7, prog_11_method_64_code, 5, none, ⟨"CourtHandModel", "feels", "(IIII)V"⟩, 4, 7, [1302, 1301, 71, 95])
abbrev mj_r187 : mj_I := (7, prog_11_method_65_code, 10, none, ⟨"CourtHandModel", "practises", "(II)V"⟩, 2, 7, [1320, 1319, 74, 95])
abbrev mj_r188 : mj_I := (7, prog_11_method_66_code, 3, none, ⟨"CourtHandModel", "moonGoes", "()V"⟩, 0, 7, [1283, 1282, 67, 95])
abbrev mj_r189 : mj_I := (7, prog_11_method_67_code, 3, none, ⟨"CourtHandModel", "moonsGo", "(I)V"⟩, 1, 7, [1279, 1278, 66, 95])
abbrev mj_r190 : mj_I := (7, prog_11_method_68_code, 2, (some .int), ⟨"CourtHandModel", "moons", "(I)I"⟩, 1, 7, [1275, 1273, 1274, 95])
abbrev mj_r191 : mj_I := (7, prog_11_method_69_code, 2, (some .int), ⟨"CourtHandModel", "firstInRank", "()I"⟩, 0, 7, [1337, 1336, 77, 95])
abbrev mj_r192 : mj_I := (7, prog_11_method_70_code, 4, (some .int), ⟨"CourtHandModel", "tried", "(II)I"⟩, 2, 7, [1333, 1331, 1332, 95])
abbrev mj_r193 : mj_I := (7, prog_11_method_71_code, 7, (some .int), ⟨"CourtHandModel", "courtierIs", "(II)I"⟩, 2, 7, [1341, 1339, 1340, 95])
abbrev mj_r194 : mj_I := (7, prog_11_method_72_code, 3, (some .int), ⟨"CourtHandModel", "formOf", "(II)I"⟩, 2, 7, [1350, 1348, 1349, 95])
abbrev mj_r195 : mj_I := (7, prog_11_method_73_code, 2, (some .int), ⟨"CourtHandModel", "modelOf", "(I)I"⟩, 1, 7, [1354, 1352, 1353, 95])
abbrev mj_r196 : mj_I := (7, prog_11_method_74_code, 2, (some .int), ⟨"CourtHandModel", "read", "(I)I"⟩, 1, 7, [1358, 1356, 1357, 95])
abbrev mj_r197 : mj_I := (7, prog_11_method_75_code, 3, (some .int), ⟨"CourtHandModel", "apart", "(II)I"⟩, 2, 7, [1362, 1360, 1361, 95])
abbrev mj_r198 : mj_I := (7, prog_11_method_76_code, 12, (some .int), ⟨"CourtHandModel", "written", "(II)I"⟩, 2, 7, [1366, 1364, 1365, 95])
abbrev mj_r199 : mj_I := (7, prog_11_method_77_code, 8, (some .int), ⟨"CourtHandModel", "copied", "(II)I"⟩, 2, 7, [1370, 1368, 1369, 95])
abbrev mj_r200 : mj_I := (7, prog_11_method_78_code, 5, none, ⟨"CourtHandModel", "mayBe", "(III)V"⟩, 3, 7, [1378, 1377, 79, 95])
abbrev mj_r201 : mj_I := (7, prog_11_method_79_code, 7, (some .int), ⟨"CourtHandModel", "another", "(III)I"⟩, 3, 7, [1374, 1372, 1373, 95])
abbrev mj_r202 : mj_I := (7, prog_11_method_80_code, 5, (some .boolean), ⟨"CourtHandModel", "readsSheet", "(I)Z"⟩, 1, 7, [1394, 1393, 82, 95])
abbrev mj_r203 : mj_I := (7, prog_11_method_81_code, 9, (some .int), ⟨"CourtHandModel", "whose", "(II)I"⟩, 2, 7, [1382, 1380, 1381, 95])
abbrev mj_r204 : mj_I := (7, prog_11_method_82_code, 5, (some .int), ⟨"CourtHandModel", "apartInAll", "(II)I"⟩, 2, 7, [1402, 1401, 83, 95])
abbrev mj_r205 : mj_I := (7, prog_11_method_83_code, 3, (some .int), ⟨"CourtHandModel", "forge", "(II)I"⟩, 2, 7, [1398, 1396, 1397, 95])
abbrev mj_r206 : mj_I := (7, prog_11_method_84_code, 7, (some .int), ⟨"CourtHandModel", "groupOf", "(II)I"⟩, 2, 7, [1410, 1409, 84, 95])
abbrev mj_r207 : mj_I := (7, prog_11_method_85_code, 6, (some .int), ⟨"CourtHandModel", "alike", "(II)I"⟩, 2, 7, [1406, 1404, 1405, 95])
abbrev mj_r208 : mj_I := (7, prog_11_method_86_code, 6, (some .int), ⟨"CourtHandModel", "rises", "(II)I"⟩, 2, 7, [1414, 1412, 1413, 95])
abbrev mj_r209 : mj_I := (7, prog_11_method_87_code, 1, (some .int), ⟨"CourtHandModel", "commands", "()I"⟩, 0, 7, [1418, 1416, 1417, 95])
abbrev mj_r210 : mj_I := (7, prog_11_method_88_code, 9, (some .int), ⟨"CourtHandModel", "clear", "(II)I"⟩, 2, 7, [1422, 1420, 1421, 95])
abbrev mj_r211 : mj_I := (7, prog_11_method_89_code, 6, (some .int), ⟨"CourtHandModel", "partOf", "(IIZ)I"⟩, 3, 100, [1432, 1431, 1431, 95])
abbrev mj_r212 : mj_I := (7, prog_11_method_90_code, 8, (some .boolean), ⟨"CourtHandModel", "touches", "(IIZ)Z"⟩, 3, 100, [1435, 1434, 1434, 95])
abbrev mj_r213 : mj_I := (7, prog_11_method_91_code, 2, (some .boolean), ⟨"CourtHandModel", "isAtEdge", "(I)Z"⟩, 1, 100, [1438, 1437, 1437, 95])
abbrev mj_r214 : mj_I := (7, prog_11_method_92_code, 5, (some .int), ⟨"CourtHandModel", "loopsOf", "(I)I"⟩, 1, 100, [1429, 1428, 1428, 95])
abbrev mj_r215 : mj_I := (7, prog_11_method_93_code, 4, (some .int), ⟨"CourtHandModel", "strokesOf", "(I)I"⟩, 1, 100, [1441, 1440, 1440, 95])
abbrev mj_r216 : mj_I := (7, prog_11_method_94_code, 3, (some .boolean), ⟨"CourtHandModel", "isBlack", "(III)Z"⟩, 3, 100, [1447, 1446, 1446, 95])
abbrev mj_r217 : mj_I := (7, prog_11_method_95_code, 6, (some .int), ⟨"CourtHandModel", "crossOf", "(I)I"⟩, 1, 100, [1444, 1443, 1443, 95])
abbrev mj_r218 : mj_I := (7, prog_11_method_96_code, 4, (some .int), ⟨"CourtHandModel", "neighbours", "(II)I"⟩, 2, 100, [1459, 1458, 1458, 95])
abbrev mj_r219 : mj_I := (7, prog_11_method_97_code, 7, (some .int), ⟨"CourtHandModel", "penOf", "(I)I"⟩, 1, 100, [1456, 1455, 1455, 95])
abbrev mj_r220 : mj_I := (7, prog_11_method_98_code, 3, (some .int), ⟨"CourtHandModel", "shape", "(II)I"⟩, 2, 7, [1426, 1424, 1425, 95])
abbrev mj_r221 : mj_I := (7, prog_11_method_99_code, 5, (some .int), ⟨"CourtHandModel", "like", "(II)I"⟩, 2, 7, [1463, 1461, 1462, 95])
abbrev mj_r222 : mj_I := (7, prog_11_method_100_code, 5, (some .int), ⟨"CourtHandModel", "leastIn", "(I)I"⟩, 1, 7, [1471, 1470, 85, 95])
abbrev mj_r223 : mj_I := (7, prog_11_method_101_code, 6, (some .int), ⟨"CourtHandModel", "toldApart", "(II)I"⟩, 2, 7, [1467, 1465, 1466, 95])
abbrev mj_r224 : mj_I := (7, prog_11_method_102_code, 2, (some .boolean), ⟨"CourtHandModel", "seed", "(I)Z"⟩, 1, 7, [1475, 1473, 1474, 95])
abbrev mj_r225 : mj_I := (7, prog_11_method_103_code, 1, (some .int), ⟨"CourtHandModel", "keep", "()I"⟩, 0, 7, [1480, 1478, 1479, 95])
abbrev mj_r226 : mj_I := (7, prog_11_method_104_code, 1, (some .boolean), ⟨"CourtHandModel", "undo", "()Z"⟩, 0, 7, [1484, 1482, 1483, 95])
abbrev mj_r227 : mj_I := (7, prog_11_method_105_code, 3, (some .int), ⟨"CourtHandModel", "check", "(I)I"⟩, 1, 7, [1488, 1486, 1487, 95])
abbrev mj_r228 : mj_I := (7, prog_11_method_106_code, 2, (some .int), ⟨"CourtHandModel", "count", "(I)I"⟩, 1, 7, [1492, 1490, 1491, 95])
abbrev mj_r229 : mj_I := (11, prog_13_method_49_code, 1, (some .int), ⟨"java/lang/Integer", "bitCount", "(I)I"⟩, 1, 100, [665, 664, 664, 105])
abbrev mj_r230 : mj_I := (13, prog_19_method_30_code, 3, none, ⟨"java/util/Arrays", "rangeCheck", "(III)V"⟩, 3, 100, [348, 347, 347, 90])
abbrev mj_r231 : mj_I := (13, prog_19_method_104_code, 5, none, ⟨"java/util/Arrays", "fill", "([IIII)V"⟩, 4, 100, [345, 344, 344, 90])
abbrev mj_r232 : mj_I := (10, code, 4, (some .boolean), ⟨"CourtHandLaw", "law", "([I)Z"⟩, 1, 100, [0, 0, 0, 0])
abbrev mj_r233 : mj_I := (14, prog_15_method_54_code, 1, (some .int), ⟨"java/lang/String", "length", "()I"⟩, 0, 14, [442, 440, 441, 97])
abbrev mj_r234 : mj_I := (14, prog_15_method_79_code, 2, (some .int), ⟨"java/lang/String", "indexOf", "(I)I"⟩, 1, 14, [428, 426, 427, 97])
abbrev mj_r235 : mj_I := (14, prog_15_method_80_code, 3, (some .int), ⟨"java/lang/String", "indexOf", "(II)I"⟩, 2, 14, [432, 430, 431, 97])
abbrev mj_r236 : mj_I := (14, prog_15_method_152_code, 1, (some .byte), ⟨"java/lang/String", "coder", "()B"⟩, 0, 14, [446, 444, 445, 97])
abbrev mj_r237 : mj_I := (14, prog_15_method_154_code, 1, (some .boolean), ⟨"java/lang/String", "isLatin1", "()Z"⟩, 0, 14, [436, 434, 435, 97])
abbrev mj_r238 : mj_I := (15, prog_16_method_4_code, 1, (some .boolean), ⟨"java/lang/StringLatin1", "canEncode", "(I)Z"⟩, 1, 100, [452, 451, 451, 98])
abbrev mj_r239 : mj_I := (15, prog_16_method_22_code, 4, (some .int), ⟨"java/lang/StringLatin1", "indexOf", "([BIII)I"⟩, 4, 100, [449, 448, 448, 98])
abbrev mj_r240 : mj_I := (15, prog_16_method_23_code, 6, (some .int), ⟨"java/lang/StringLatin1", "indexOfChar", "([BIII)I"⟩, 4, 100, [461, 460, 460, 98])
def mj_tab : List mj_I := [mj_r0, mj_r1, mj_r2, mj_r3, mj_r4, mj_r5, mj_r6, mj_r7, mj_r8, mj_r9, mj_r10, mj_r11, mj_r12, mj_r13, mj_r14, mj_r15, mj_r16, mj_r17, mj_r18, mj_r19, mj_r20, mj_r21, mj_r22, mj_r23, mj_r24, mj_r25, mj_r26, mj_r27, mj_r28, mj_r29, mj_r30, mj_r31, mj_r32, mj_r33, mj_r34, mj_r35, mj_r36, mj_r37, mj_r38, mj_r39, mj_r40, mj_r41, mj_r42, mj_r43, mj_r44, mj_r45, mj_r46, mj_r47, mj_r48, mj_r49, mj_r50, mj_r51, mj_r52, mj_r53, mj_r54, mj_r55, mj_r56, mj_r57, mj_r58, mj_r59, mj_r60, mj_r61, mj_r62, mj_r63, mj_r64, mj_r65, mj_r66, mj_r67, mj_r68, mj_r69, mj_r70, mj_r71, mj_r72, mj_r73, mj_r74, mj_r75, mj_r76, mj_r77, mj_r78, mj_r79, mj_r80, mj_r81, mj_r82, mj_r83, mj_r84, mj_r85, mj_r86, mj_r87, mj_r88, mj_r89, mj_r90, mj_r91, mj_r92, mj_r93, mj_r94, mj_r95, mj_r96, mj_r97, mj_r98, mj_r99, mj_r100, mj_r101, mj_r102, mj_r103, mj_r104, mj_r105, mj_r106, mj_r107, mj_r108, mj_r109, mj_r110, mj_r111, mj_r112, mj_r113, mj_r114, mj_r115, mj_r116, mj_r117, mj_r118, mj_r119, mj_r120, mj_r121, mj_r122, mj_r123, mj_r124, mj_r125, mj_r126, mj_r127, mj_r128, mj_r129, mj_r130, mj_r131, mj_r132, mj_r133, mj_r134, mj_r135, mj_r136, mj_r137, mj_r138, mj_r139, mj_r140, mj_r141, mj_r142, mj_r143, mj_r144, mj_r145, mj_r146, mj_r147, mj_r148, mj_r149, mj_r150, mj_r151, mj_r152, mj_r153, mj_r154, mj_r155, mj_r156, mj_r157, mj_r158, mj_r159, mj_r160, mj_r161, mj_r162, mj_r163, mj_r164, mj_r165, mj_r166, mj_r167, mj_r168, mj_r169, mj_r170, mj_r171, mj_r172, mj_r173, mj_r174, mj_r175, mj_r176, mj_r177, mj_r178, mj_r179, mj_r180, mj_r181, mj_r182, mj_r183, mj_r184, mj_r185, mj_r186, mj_r187, mj_r188, mj_r189, mj_r190, mj_r191, mj_r192, mj_r193, mj_r194, mj_r195, mj_r196, mj_r197, mj_r198, mj_r199, mj_r200, mj_r201, mj_r202, mj_r203, mj_r204, mj_r205, mj_r206, mj_r207, mj_r208, mj_r209, mj_r210, mj_r211, mj_r212, mj_r213, mj_r214, mj_r215, mj_r216, mj_r217, mj_r218, mj_r219, mj_r220, mj_r221, mj_r222, mj_r223, mj_r224, mj_r225, mj_r226, mj_r227, mj_r228, mj_r229, mj_r230, mj_r231, mj_r232, mj_r233, mj_r234, mj_r235, mj_r236, mj_r237, mj_r238, mj_r239, mj_r240]
def mj_cn : Nat → String := fun k => ["CourtHand$Court", "CourtHand$Law", "CourtHand$LawReader", "CourtHand$Models", "CourtHand$Order", "CourtHand$Tape", "CourtHand", "CourtHandModel", "CourtHand$Blots", "CourtHand$Grids", "CourtHandLaw", "java/lang/Integer", "java/lang/Math", "java/util/Arrays", "java/lang/String", "java/lang/StringLatin1"].getD k ""
def mj_fTab : List (Nat × Nat × Nat × Nat × Nat × Nat) := [(3, 9, 3, 0, 1, 120), (0, 56, 3, 0, 1, 121), (6, 178, 3, 0, 1, 122), (3, 15, 3, 1, 0, 123), (6, 224, 3, 1, 0, 124), (0, 31, 0, 0, 1, 140), (8, 46, 0, 0, 1, 141), (0, 9, 0, 1, 1, 142), (6, 165, 0, 1, 1, 143), (0, 15, 0, 2, 1, 144), (6, 162, 0, 2, 1, 145), (0, 18, 0, 3, 1, 146), (0, 21, 0, 4, 1, 147), (0, 24, 0, 5, 1, 148), (6, 159, 0, 5, 1, 149), (0, 47, 0, 6, 0, 150), (6, 227, 0, 6, 0, 151), (0, 50, 0, 7, 0, 152), (6, 278, 0, 7, 0, 153), (0, 27, 0, 8, 0, 154), (6, 275, 0, 8, 0, 155), (6, 133, 0, 9, 0, 156), (0, 91, 0, 9, 0, 157), (6, 139, 0, 10, 0, 158), (0, 94, 0, 10, 0, 159), (6, 142, 0, 11, 0, 160), (0, 97, 0, 11, 0, 161), (5, 11, 5, 0, 1, 193), (5, 15, 5, 1, 0, 194), (6, 100, 5, 1, 0, 195), (4, 9, 4, 0, 1, 207), (6, 188, 4, 0, 1, 208), (4, 15, 4, 1, 1, 209), (4, 18, 4, 2, 1, 210), (4, 21, 4, 3, 1, 211), (4, 61, 4, 4, 0, 212), (6, 187, 4, 4, 0, 213), (4, 24, 4, 5, 0, 214), (4, 28, 4, 6, 0, 215), (1, 11, 1, 0, 1, 243), (1, 15, 1, 1, 1, 244), (1, 18, 1, 2, 1, 245), (1, 21, 1, 3, 1, 246), (1, 24, 1, 4, 1, 247), (1, 27, 1, 5, 1, 248), (1, 47, 1, 6, 0, 249), (2, 62, 1, 6, 0, 250), (2, 38, 1, 7, 0, 251), (1, 30, 1, 7, 0, 252), (6, 281, 1, 7, 0, 253), (2, 18, 2, 0, 1, 271), (2, 12, 2, 1, 2, 272), (2, 22, 2, 2, 0, 273), (2, 26, 2, 3, 0, 274), (2, 29, 2, 4, 0, 275), (6, 10, 6, 0, 1, 289), (6, 21, 6, 1, 1, 290), (6, 25, 6, 2, 1, 291), (6, 28, 6, 3, 1, 292), (6, 34, 6, 4, 1, 293), (6, 41, 6, 5, 1, 294), (6, 50, 6, 6, 1, 295), (6, 54, 6, 7, 1, 296), (6, 58, 6, 8, 1, 297), (6, 64, 6, 9, 2, 298), (6, 68, 6, 10, 3, 299), (7, 7, 7, 0, 1, 955), (7, 13, 7, 1, 1, 956), (7, 16, 7, 2, 1, 957), (7, 19, 7, 3, 1, 958), (7, 22, 7, 4, 1, 959), (7, 123, 7, 5, 0, 960), (7, 131, 7, 6, 0, 961), (7, 134, 7, 7, 0, 962), (7, 141, 7, 8, 0, 963), (7, 147, 7, 9, 0, 964), (7, 158, 7, 10, 0, 965), (7, 154, 7, 11, 0, 966), (7, 161, 7, 12, 0, 967), (7, 208, 7, 13, 0, 968), (7, 223, 7, 14, 0, 969), (7, 26, 7, 15, 1, 970), (7, 29, 7, 16, 1, 971), (7, 32, 7, 17, 1, 972), (7, 35, 7, 18, 1, 973), (7, 38, 7, 19, 1, 974), (7, 41, 7, 20, 1, 975), (7, 44, 7, 21, 1, 976), (7, 47, 7, 22, 1, 977), (7, 50, 7, 23, 1, 978), (7, 53, 7, 24, 1, 979), (7, 56, 7, 25, 1, 980), (7, 59, 7, 26, 1, 981), (7, 62, 7, 27, 1, 982), (7, 65, 7, 28, 1, 983), (7, 68, 7, 29, 1, 984), (7, 71, 7, 30, 1, 985), (7, 74, 7, 31, 1, 986), (7, 251, 7, 32, 0, 987), (7, 236, 7, 33, 0, 988), (7, 239, 7, 34, 0, 989), (7, 266, 7, 35, 0, 990), (7, 77, 7, 36, 1, 991), (7, 299, 7, 37, 0, 992), (7, 302, 7, 38, 0, 993), (7, 293, 7, 39, 0, 994), (7, 80, 7, 40, 1, 995), (7, 329, 7, 41, 0, 996), (7, 326, 7, 42, 0, 997), (7, 83, 7, 43, 1, 998), (7, 86, 7, 44, 1, 999), (7, 390, 7, 45, 3, 1000), (14, 15, 14, 0, 5, 1493), (14, 9, 14, 1, 4, 1494)]
def mj_cTab : List (Nat × Nat × Nat × Nat × Nat) := [(10, 13, 0, 78, 323), (6, 72, 1, 20, 327), (6, 78, 0, 63, 331), (10, 18, 0, 79, 335), (6, 82, 0, 6, 339), (0, 53, 1, 231, 343), (13, 13, 1, 230, 346), (10, 23, 0, 80, 349), (6, 85, 0, 5, 353), (6, 88, 0, 62, 357), (6, 89, 0, 7, 361), (10, 27, 0, 81, 365), (6, 92, 0, 73, 369), (6, 96, 0, 74, 373), (10, 32, 0, 82, 377), (6, 104, 0, 75, 381), (6, 107, 0, 47, 385), (2, 32, 0, 41, 389), (2, 35, 0, 53, 393), (2, 51, 0, 48, 397), (2, 45, 0, 76, 401), (2, 59, 0, 50, 405), (2, 55, 2, 123, 409), (2, 65, 0, 57, 412), (2, 98, 0, 58, 416), (2, 101, 0, 59, 420), (2, 106, 0, 234, 425), (14, 633, 0, 235, 429), (14, 492, 0, 237, 433), (14, 505, 0, 233, 439), (14, 335, 0, 236, 443), (14, 637, 1, 239, 447), (15, 88, 1, 238, 450), (15, 92, 5, 0, 453), (15, 38, 6, 0, 456), (15, 95, 1, 240, 459), (2, 94, 0, 52, 511), (2, 41, 0, 51, 515), (2, 111, 1, 61, 519), (2, 114, 0, 60, 522), (2, 68, 0, 42, 526), (2, 81, 0, 49, 530), (2, 71, 0, 54, 534), (2, 78, 0, 55, 538), (2, 91, 0, 56, 542), (2, 85, 0, 43, 546), (1, 54, 0, 42, 550), (2, 88, 0, 44, 551), (2, 74, 0, 45, 555), (6, 111, 0, 46, 559), (10, 37, 0, 83, 564), (6, 115, 0, 67, 568), (4, 31, 0, 76, 572), (4, 37, 1, 72, 573), (4, 41, 0, 68, 576), (4, 52, 2, 123, 580), (4, 44, 0, 69, 581), (4, 64, 0, 71, 585), (4, 48, 0, 70, 589), (4, 55, 3, 0, 593), (10, 41, 0, 84, 596), (6, 119, 0, 4, 600), (0, 41, 3, 0, 604), (6, 123, 1, 0, 605), (8, 11, 1, 1, 608), (8, 15, 0, 76, 611), (8, 25, 2, 123, 612), (8, 42, 0, 5, 613), (8, 50, 0, 62, 614), (8, 21, 1, 2, 615), (8, 29, 0, 8, 618), (8, 34, 1, 3, 622), (8, 56, 1, 22, 626), (8, 59, 1, 23, 630), (8, 62, 1, 26, 634), (8, 38, 0, 7, 642), (10, 45, 0, 85, 643), (6, 129, 0, 14, 647), (0, 100, 0, 15, 651), (0, 88, 0, 11, 655), (0, 80, 0, 9, 659), (0, 61, 1, 229, 663), (0, 83, 0, 5, 669), (0, 84, 0, 12, 670), (0, 104, 0, 16, 674), (0, 113, 0, 34, 678), (0, 119, 0, 35, 682), (0, 123, 0, 36, 686), (0, 127, 0, 37, 690), (1, 34, 0, 39, 694), (1, 50, 1, 40, 698), (1, 38, 6, 0, 701), (1, 44, 5, 0, 702), (0, 108, 6, 0, 703), (0, 67, 0, 62, 704), (0, 130, 0, 17, 705), (0, 71, 0, 8, 709), (0, 134, 0, 38, 710), (0, 138, 0, 19, 714), (0, 142, 0, 18, 719), (0, 145, 0, 7, 723), (10, 49, 0, 86, 724), (6, 136, 0, 87, 728), (6, 145, 0, 13, 732), (6, 149, 0, 88, 736), (6, 153, 0, 9, 740), (6, 156, 0, 11, 741), (10, 54, 0, 89, 742), (6, 168, 0, 90, 746), (6, 172, 0, 8, 750), (6, 175, 0, 64, 751), (3, 22, 1, 229, 756), (10, 58, 0, 91, 757), (10, 62, 0, 92, 761), (10, 66, 0, 93, 765), (10, 70, 0, 94, 769), (6, 181, 1, 21, 773), (9, 12, 1, 229, 776), (10, 74, 0, 95, 777), (6, 184, 0, 97, 781), (6, 195, 1, 229, 785), (6, 191, 0, 96, 786), (10, 78, 0, 98, 790), (6, 200, 0, 76, 794), (6, 203, 0, 99, 795), (6, 209, 3, 0, 799), (6, 206, 0, 100, 800), (10, 82, 0, 101, 804), (6, 215, 0, 102, 808), (6, 218, 0, 65, 812), (3, 28, 0, 62, 816), (3, 32, 1, 21, 817), (3, 36, 6, 0, 818), (6, 221, 0, 103, 819), (10, 87, 0, 104, 823), (6, 228, 0, 77, 827), (5, 19, 0, 76, 831), (6, 231, 0, 105, 832), (6, 235, 0, 106, 837), (10, 91, 0, 107, 841), (6, 238, 0, 10, 845), (0, 75, 1, 21, 849), (10, 95, 0, 108, 850), (6, 241, 0, 109, 854), (6, 244, 0, 110, 858), (6, 247, 0, 111, 862), (10, 99, 0, 112, 866), (10, 103, 0, 113, 870), (10, 108, 0, 114, 874), (10, 112, 0, 115, 878), (6, 250, 1, 30, 882), (9, 43, 1, 29, 885), (9, 31, 1, 22, 888), (9, 34, 1, 23, 889), (9, 37, 1, 24, 890), (9, 40, 1, 25, 893), (6, 253, 1, 31, 897), (6, 256, 1, 32, 900), (6, 259, 1, 26, 903), (6, 262, 1, 27, 904), (6, 265, 1, 33, 907), (9, 48, 5, 0, 910), (10, 116, 0, 116, 911), (6, 268, 1, 28, 915), (9, 25, 1, 26, 918), (9, 28, 1, 27, 919), (10, 120, 0, 117, 920), (6, 271, 0, 66, 924), (10, 124, 0, 118, 928), (10, 129, 0, 119, 933), (10, 133, 0, 120, 937), (10, 138, 0, 121, 941), (10, 142, 0, 122, 945), (10, 17, 0, 141, 1094), (7, 90, 1, 124, 1098), (7, 120, 1, 130, 1101), (10, 22, 0, 142, 1105), (7, 101, 1, 135, 1109), (10, 26, 0, 143, 1112), (7, 98, 0, 132, 1116), (7, 94, 0, 131, 1120), (10, 31, 0, 145, 1124), (7, 127, 0, 144, 1128), (10, 36, 0, 168, 1132), (7, 214, 0, 167, 1136), (7, 217, 0, 166, 1140), (7, 137, 0, 147, 1144), (7, 144, 0, 149, 1148), (7, 193, 0, 160, 1152), (7, 180, 0, 158, 1156), (7, 171, 0, 153, 1160), (7, 150, 0, 148, 1165), (7, 174, 0, 151, 1169), (7, 167, 0, 152, 1173), (7, 177, 1, 155, 1177), (7, 183, 1, 156, 1180), (7, 186, 0, 157, 1183), (7, 164, 0, 154, 1187), (7, 190, 0, 159, 1191), (7, 211, 0, 165, 1195), (7, 199, 0, 164, 1199), (7, 196, 0, 161, 1203), (7, 202, 0, 162, 1207), (7, 205, 0, 163, 1211), (7, 220, 0, 150, 1215), (10, 40, 0, 176, 1219), (7, 248, 0, 175, 1223), (7, 242, 0, 173, 1227), (7, 233, 0, 146, 1231), (7, 245, 0, 174, 1235), (10, 44, 0, 184, 1239), (7, 275, 1, 129, 1243), (7, 279, 0, 183, 1246), (7, 105, 0, 136, 1250), (7, 269, 1, 182, 1254), (7, 272, 1, 181, 1257), (7, 260, 1, 180, 1260), (7, 254, 1, 127, 1263), (7, 263, 1, 178, 1266), (7, 257, 1, 177, 1269), (10, 48, 0, 190, 1272), (7, 317, 0, 189, 1276), (7, 314, 0, 188, 1280), (7, 305, 0, 139, 1284), (7, 115, 0, 138, 1288), (7, 112, 0, 137, 1292), (7, 108, 1, 128, 1296), (7, 283, 0, 186, 1299), (7, 290, 0, 171, 1303), (7, 230, 0, 170, 1307), (7, 226, 1, 169, 1311), (7, 308, 1, 125, 1314), (7, 311, 0, 187, 1317), (7, 287, 0, 172, 1321), (7, 296, 0, 185, 1325), (10, 53, 0, 192, 1330), (7, 320, 0, 191, 1334), (10, 57, 0, 193, 1338), (7, 323, 0, 140, 1342), (10, 61, 0, 194, 1347), (10, 65, 0, 195, 1351), (10, 69, 0, 196, 1355), (10, 73, 0, 197, 1359), (10, 77, 0, 198, 1363), (10, 81, 0, 199, 1367), (10, 86, 0, 201, 1371), (7, 332, 0, 200, 1375), (10, 90, 0, 203, 1379), (7, 336, 0, 133, 1383), (7, 339, 0, 134, 1387), (7, 342, 0, 202, 1391), (10, 94, 0, 205, 1395), (7, 345, 0, 204, 1399), (10, 98, 0, 207, 1403), (7, 348, 0, 206, 1407), (10, 102, 0, 208, 1411), (10, 107, 0, 209, 1415), (10, 111, 0, 210, 1419), (10, 115, 0, 220, 1423), (7, 371, 1, 214, 1427), (7, 355, 1, 211, 1430), (7, 351, 1, 212, 1433), (7, 359, 1, 213, 1436), (7, 374, 1, 215, 1439), (7, 377, 1, 217, 1442), (7, 362, 1, 216, 1445), (7, 365, 1, 126, 1448), (7, 380, 1, 179, 1451), (7, 383, 1, 219, 1454), (7, 368, 1, 218, 1457), (10, 119, 0, 221, 1460), (10, 123, 0, 223, 1464), (7, 386, 0, 222, 1468), (10, 128, 0, 224, 1472), (10, 132, 0, 225, 1477), (10, 137, 0, 226, 1481), (10, 141, 0, 227, 1485), (10, 145, 0, 228, 1489)]
def mj_kTab : List (Nat × Nat × Int32 × Nat) := [(9, 11, 33554431, 330), (8, 55, 33554431, 625), (9, 18, (-1082402), 629), (9, 19, (-17318417), 633), (9, 20, 1082401, 637), (9, 21, 2164802, 638), (9, 22, 4329604, 639), (9, 23, 8659208, 640), (9, 24, 17318416, 641), (11, 265, 1431655765, 666), (11, 266, 858993459, 667), (11, 267, 252645135, 668), (0, 148, 65535, 718), (3, 21, 2147483647, 755), (6, 234, 2147483647, 836), (9, 47, 33080895, 896), (6, 274, 65535, 932), (7, 89, 33554431, 1104), (7, 157, 1048576, 1164), (7, 282, 65536, 1329), (7, 119, 1000000, 1346), (7, 389, 65535, 1476)]
def mj_fT (k j : Nat) : Option (Nat × Nat × Nat) := (mj_fTab.find? (fun e => e.1 == k && e.2.1 == j)).map (fun e => (e.2.2.1, e.2.2.2.1, e.2.2.2.2.1))
def mj_cT (k j : Nat) : Option (Nat × Nat) := (mj_cTab.find? (fun e => e.1 == k && e.2.1 == j)).map (fun e => (e.2.2.1, e.2.2.2.1))
def mj_kT (k j : Nat) : Option Int32 := (mj_kTab.find? (fun e => e.1 == k && e.2.1 == j)).map (fun e => e.2.2.1)
def mj_oclL : List Nat := [6, 3, 100, 0, 100, 100, 100, 100, 100, 0, 100, 100, 100, 100, 100, 0, 100, 100, 100, 100, 100, 5, 100, 4, 100, 100, 100, 100, 2, 1, 100, 100, 100, 100, 100, 100, 100, 100, 1, 100, 100, 100, 100, 100, 100, 7, 100, 100, 100, 100, 100, 100, 100, 100, 100, 100, 100, 100, 100, 100, 100, 100, 100, 100, 100, 100, 100, 100, 100, 100, 100, 100, 100, 14, 100]
def mj_ialL : List Nat := [0, 0, 8, 0, 10, 10, 80, 10, 10, 0, 10, 10, 80, 10, 10, 0, 10, 10, 80, 10, 10, 0, 260, 0, 60, 60, 2, 2, 0, 0, 480, 32, 9, 16, 16, 16, 10, 60, 0, 480, 32, 9, 16, 16, 16, 0, 112, 112, 112, 8, 0, 260, 260, 16, 16, 16, 16, 260, 16, 16, 16, 16, 260, 9, 60, 60, 2, 2, 10, 60, 8, 10]
def mj_ocl (a : Nat) : Nat := mj_oclL.getD a 100
def mj_ial (a : Nat) : Nat := mj_ialL.getD a 0
def mj_bal (a : Nat) : Nat := if a = 50 then 260 else 0
def mj_bln (a : Nat) : Nat := if a = 74 then 9 else mj_bal a
def mj_sTab : List (Nat × Nat × Nat) := [(14, 38, 437)]
def mj_sT (k j : Nat) : Bool := (mj_sTab.find? (fun e => e.1 == k && e.2.1 == j)).isSome
def mj_nf (c : Nat) : Nat := ([12, 8, 5, 2, 7, 2, 11, 46] : List Nat).getD c 0
def mj_rfL : List (List Nat) := [[1, 3, 9, 15, 21, 23, 28, 36, 37, 0, 0], [2, 0], [], [1, 4, 5, 6, 7, 8, 0, 0, 0, 0, 0, 0], [], [], [], [], [], [1, 10, 11, 12, 13, 14, 0, 0, 0, 0, 0, 0], [], [], [], [], [], [1, 16, 17, 18, 19, 20, 0, 0, 0, 0, 0, 0], [], [], [], [], [], [22, 0], [], [24, 25, 26, 27, 0, 0, 0], [], [], [], [], [21, 0, 0, 0, 0], [30, 31, 32, 33, 34, 35, 0, 0], [], [], [], [], [], [], [], [], [39, 40, 41, 42, 43, 44, 0, 0], [], [], [], [], [], [], [46, 47, 48, 49, 50, 0, 0, 0, 0, 0, 0, 0, 0, 0, 0, 51, 52, 53, 54, 55, 56, 57, 58, 59, 60, 61, 62, 63, 64, 65, 66, 67, 0, 0, 0, 0, 68, 0, 0, 0, 69, 0, 0, 70, 71, 0], [], [], [], [], [], [], [], [], [], [], [], [], [], [], [], [], [], [], [], [], [], [], [], [], [], []]
def mj_rf (a j : Nat) : Nat := (mj_rfL.getD a []).getD j 0
def mj_fkL : List (List Nat) := [[1, 1, 1, 1, 1, 1, 0, 0, 0, 0, 0, 0], [1, 1, 1, 1, 1, 1, 0, 0], [1, 2, 0, 0, 0], [1, 0], [1, 1, 1, 1, 0, 0, 0], [1, 0], [1, 1, 1, 1, 1, 1, 1, 1, 1, 2, 3], [1, 1, 1, 1, 1, 0, 0, 0, 0, 0, 0, 0, 0, 0, 0, 1, 1, 1, 1, 1, 1, 1, 1, 1, 1, 1, 1, 1, 1, 1, 1, 1, 0, 0, 0, 0, 1, 0, 0, 0, 1, 0, 0, 1, 1, 3]]
def mj_fk (c j : Nat) : Nat := (mj_fkL.getD c []).getD j 0
def mj_row (M : mj_M) (i : Nat) (f : Nat → Int32) : mj_M := fun j => if j = i then f else M j
def mj_st (M : mj_M) (i k : Nat) (x : Int32) : mj_M := mj_row M i (upd (M i) k x)
def mj_lw (x : Int32) : Nat := if x = 0 then 29 else 38
def mj_in (i : Int32) (n : Nat) : Prop := ¬ (i < 0 ∨ n ≤ i.toNatClampNeg)
def mj_inB (i : Int32) (n : Nat) : Bool := !(decide (i < 0) || decide (n ≤ i.toNatClampNeg))
def mj_fv (M : mj_M) (a j kd : Nat) : Value := if kd = 1 then .ref (mj_rf a j) else if kd = 2 then .ref (mj_lw (M a j)) else if kd = 4 then .ref 74 else if kd = 5 then .int 0 else .int (M a j)
def mj_sl (i : Instr) : Nat := match i with
  | .bipush _ => 2
  | .ldc _ => 2
  | .iload _ => 2
  | .istore _ => 2
  | .aload _ => 2
  | .sipush _ => 3
  | .ldc_w _ => 3
  | .getfield _ => 3
  | .putfield _ => 3
  | .goto _ => 3
  | .if_icmp _ _ => 3
  | .ifCond _ _ => 3
  | .iinc _ _ => 3
  | .invokevirtual _ => 3
  | .invokestatic _ => 3
  | .getstatic _ => 3
  | .tableswitch _ _ _ _ => 0
  | .lookupswitch _ _ => 0
  | _ => 1
def mj_at (id pc : Nat) : Option Instr := match mj_tab[id]? with
  | none => none
  | some me => match decode me.2.1 pc with
    | .ok (i, n) => if mj_sl i = 0 ∨ mj_sl i = n then some i else none
    | .error _ => none
def mj_own (id : Nat) : Nat := match mj_tab[id]? with
  | none => 100
  | some me => me.1
def mj_cmp (c : Jvm.ClassFile.Cond) (x y : Int32) : Bool := match c with
  | .eq => decide (x = y)
  | .ne => decide (¬ x = y)
  | .lt => decide (x < y)
  | .ge => decide (y ≤ x)
  | .gt => decide (y < x)
  | .le => decide (x ≤ y)
abbrev mj_O : Type := (Nat × List Value × List Value × mj_M) ⊕ (Option Value ⊕ (Nat × List Value × List Value))
def mj_nx (pc : Nat) (L st : List Value) (M : mj_M) : Option mj_O := some (.inl (pc, L, st, M))
def mj_go (pc : Nat) (off : Int) (L st : List Value) (M : mj_M) : Option mj_O := if 0 ≤ (pc : Int) + off then some (.inl (((pc : Int) + off).toNat, L, st, M)) else none
def mj_br (c : Bool) (pc : Nat) (off : Int) (L st : List Value) (M : mj_M) : Option mj_O := match c with
  | true => mj_go pc off L st M
  | false => if 0 ≤ (pc : Int) + off then mj_nx (pc + 3) L st M else none
def mj_ldi (j n pc : Nat) (L st : List Value) (M : mj_M) : Option mj_O := match L[j]? with
  | some (.int x) => mj_nx (pc + n) L (.int x :: st) M
  | _ => none
def mj_lda (j n pc : Nat) (L st : List Value) (M : mj_M) : Option mj_O := match L[j]? with
  | some (.ref x) => mj_nx (pc + n) L (.ref x :: st) M
  | _ => none
def mj_sti (j n pc : Nat) (L st : List Value) (M : mj_M) : Option mj_O := match st with
  | .int x :: st' => if j < L.length then mj_nx (pc + n) (L.set j (.int x)) st' M else none
  | _ => none
def mj_sta (j n pc : Nat) (L st : List Value) (M : mj_M) : Option mj_O := match st with
  | .ref x :: st' => if j < L.length then mj_nx (pc + n) (L.set j (.ref x)) st' M else none
  | _ => none
def mj_bin (f : Int32 → Int32 → Int32) (pc : Nat) (L st : List Value) (M : mj_M) : Option mj_O := match st with
  | .int y :: .int x :: st' => mj_nx (pc + 1) L (.int (f x y) :: st') M
  | _ => none
def mj_dv (f : Int32 → Int32 → Int32) (pc : Nat) (L st : List Value) (M : mj_M) : Option mj_O := match st with
  | .int y :: .int x :: st' => if y = 0 then none else mj_nx (pc + 1) L (.int (f x y) :: st') M
  | _ => none
def mj_un (f : Int32 → Int32) (pc : Nat) (L st : List Value) (M : mj_M) : Option mj_O := match st with
  | .int x :: st' => mj_nx (pc + 1) L (.int (f x) :: st') M
  | _ => none
def mj_dup (pc : Nat) (L st : List Value) (M : mj_M) : Option mj_O := match st with
  | .int x :: st' => mj_nx (pc + 1) L (.int x :: .int x :: st') M
  | .ref x :: st' => mj_nx (pc + 1) L (.ref x :: .ref x :: st') M
  | _ => none
def mj_dup2 (pc : Nat) (L st : List Value) (M : mj_M) : Option mj_O := match st with
  | .int x :: .int y :: st' => mj_nx (pc + 1) L (.int x :: .int y :: .int x :: .int y :: st') M
  | .int x :: .ref y :: st' => mj_nx (pc + 1) L (.int x :: .ref y :: .int x :: .ref y :: st') M
  | _ => none
def mj_icmp (c : Jvm.ClassFile.Cond) (off : Int) (pc : Nat) (L st : List Value) (M : mj_M) : Option mj_O := match st with
  | .int y :: .int x :: st' => mj_br (mj_cmp c x y) pc off L st' M
  | _ => none
def mj_ifc (c : Jvm.ClassFile.Cond) (off : Int) (pc : Nat) (L st : List Value) (M : mj_M) : Option mj_O := match st with
  | .int x :: st' => mj_br (mj_cmp c x 0) pc off L st' M
  | _ => none
def mj_tsw (dflt lo hi : Int) (offs : Array Int) (pc : Nat) (L st : List Value) (M : mj_M) : Option mj_O := match st with
  | .int x :: st' => if x.toInt < lo ∨ hi < x.toInt then mj_go pc dflt L st' M else match offs[(x.toInt - lo).toNat]? with
    | some off => mj_go pc off L st' M
    | none => none
  | _ => none
def mj_lsw (dflt : Int) (ps : Array (Int × Int)) (pc : Nat) (L st : List Value) (M : mj_M) : Option mj_O := match st with
  | .int x :: st' => if (ps.toList.zip (ps.toList.drop 1)).all (fun (a, next) => a.1 < next.1) = true then mj_go pc (Op.lookupswitch.offset ps.toList dflt x.toInt) L st' M else none
  | _ => none
def mj_gf (k j pc : Nat) (L st : List Value) (M : mj_M) : Option mj_O := match mj_fT k j with
  | some (ci, sl, kd) => match st with
    | .ref a :: st' => if mj_ocl a = ci then mj_nx (pc + 3) L (mj_fv M a sl kd :: st') M else none
    | _ => none
  | none => none
def mj_pf (k j pc : Nat) (L st : List Value) (M : mj_M) : Option mj_O := match mj_fT k j with
  | some (ci, sl, kd) => match st with
    | .int x :: .ref a :: st' => if mj_ocl a = ci ∧ (kd = 0 ∨ (kd = 3 ∧ x &&& 1 = x)) then mj_nx (pc + 3) L st' (mj_st M a sl x) else none
    | .ref b :: .ref a :: st' => if mj_ocl a = ci ∧ kd = 2 ∧ (b = 29 ∨ b = 38) then mj_nx (pc + 3) L st' (mj_st M a sl (if b = 29 then 0 else 1)) else none
    | _ => none
  | none => none
def mj_ild (sl pc : Nat) (L st : List Value) (M : mj_M) : Option mj_O := match st with
  | .int i :: .ref a :: st' => if mj_inB i (if a = 72 then sl else mj_ial a) = true then mj_nx (pc + 1) L (.int (M a i.toNatClampNeg) :: st') M else none
  | _ => none
def mj_ist (pc : Nat) (L st : List Value) (M : mj_M) : Option mj_O := match st with
  | .int x :: .int i :: .ref a :: st' => if mj_inB i (mj_ial a) = true then mj_nx (pc + 1) L st' (mj_st M a i.toNatClampNeg x) else none
  | _ => none
def mj_bld (pc : Nat) (L st : List Value) (M : mj_M) : Option mj_O := match st with
  | .int i :: .ref a :: st' => if mj_inB i (mj_bln a) = true then mj_nx (pc + 1) L (.int (M a i.toNatClampNeg) :: st') M else none
  | _ => none
def mj_bst (pc : Nat) (L st : List Value) (M : mj_M) : Option mj_O := match st with
  | .int x :: .int i :: .ref a :: st' => if mj_inB i (mj_bal a) = true then mj_nx (pc + 1) L st' (mj_st M a i.toNatClampNeg x.toInt8.toInt32) else none
  | _ => none
def mj_aln (sl pc : Nat) (L st : List Value) (M : mj_M) : Option mj_O := match st with
  | .ref a :: st' => if a = 72 then mj_nx (pc + 1) L (.int (nI sl) :: st') M else if a = 74 then mj_nx (pc + 1) L (.int (nI 9) :: st') M else if mj_ial a = 0 then none else mj_nx (pc + 1) L (.int (nI (mj_ial a)) :: st') M
  | _ => none
def mj_vcl (id : Nat) (st : List Value) : Option mj_O := match mj_tab[id]? with
  | some me => match st.drop me.2.2.2.2.2.1 with
    | .ref b :: rest => if mj_ocl b = me.2.2.2.2.2.2.1 ∧ rest.length ≤ 8 then some (.inr (.inr (id, .ref b :: (st.take me.2.2.2.2.2.1).reverse, rest))) else none
    | _ => none
  | none => none
def mj_scl (id : Nat) (st : List Value) : Option mj_O := match mj_tab[id]? with
  | some me => if me.2.2.2.2.2.1 ≤ st.length ∧ (st.drop me.2.2.2.2.2.1).length ≤ 8 ∧ me.2.2.2.2.2.2.1 = 100 then some (.inr (.inr (id, (st.take me.2.2.2.2.2.1).reverse, st.drop me.2.2.2.2.2.1))) else none
  | none => none
def mj_acp (d pc : Nat) (L st : List Value) (M : mj_M) : Option mj_O := match st with
  | .int n :: .int dp :: .ref b :: .int sp :: .ref a :: st' =>
    if 1 ≤ d ∧ st'.length ≤ 8 ∧ ¬ sp < 0 ∧ ¬ dp < 0 ∧ ¬ n < 0 ∧ mj_ial a ≠ 0 ∧ mj_ial b ≠ 0 ∧ sp.toNatClampNeg + n.toNatClampNeg ≤ mj_ial a ∧ dp.toNatClampNeg + n.toNatClampNeg ≤ mj_ial b then mj_nx (pc + 3) L st' (mj_row M b (va_cpy (M a) (M b) sp.toNatClampNeg dp.toNatClampNeg n.toNatClampNeg)) else none
  | _ => none
def mj_mx (x y : Int32) : Int32 := if x < y then y else x
def mj_mn (x y : Int32) : Int32 := if y < x then y else x
def mj_mth (f : Int32 → Int32 → Int32) (d pc : Nat) (L st : List Value) (M : mj_M) : Option mj_O := match st with
  | .int y :: .int x :: st' => if 1 ≤ d ∧ st'.length ≤ 8 then mj_nx (pc + 3) L (.int (f x y) :: st') M else none
  | _ => none
def mj_ivv (k j : Nat) (st : List Value) : Option mj_O := match mj_cT k j with
  | some (kd, id) => if kd = 0 then mj_vcl id st else none
  | none => none
def mj_ivs (d k j pc : Nat) (L st : List Value) (M : mj_M) : Option mj_O := match mj_cT k j with
  | some (kd, id) => if kd = 1 ∨ kd = 2 then mj_scl id st else if kd = 3 then mj_acp d pc L st M else if kd = 5 then mj_mth mj_mx d pc L st M else if kd = 6 then mj_mth mj_mn d pc L st M else none
  | none => none
def mj_ldc (n k j pc : Nat) (L st : List Value) (M : mj_M) : Option mj_O := match mj_kT k j with
  | some v => mj_nx (pc + n) L (.int v :: st) M
  | none => if k = 2 ∧ j = 104 ∧ n = 2 then mj_nx (pc + n) L (.ref 73 :: st) M else none
def mj_gs (k j pc : Nat) (L st : List Value) (M : mj_M) : Option mj_O := if mj_sT k j = true then mj_nx (pc + 3) L (.int 1 :: st) M else none
def mj_rti (id : Nat) (st : List Value) : Option mj_O := match st with
  | [.int v] => match mj_tab[id]? with
    | some me => if me.2.2.2.1 = some .int ∨ (me.2.2.2.1 = some .boolean ∧ v &&& 1 = v) ∨ (me.2.2.2.1 = some .byte ∧ v.toInt8.toInt32 = v) then some (.inr (.inl (some (.int v)))) else none
    | none => none
  | _ => none
def mj_rta (id : Nat) (st : List Value) : Option mj_O := match st with
  | [.ref v] => match mj_tab[id]? with
    | some me => if me.2.2.2.1 = some (.object "CourtHand$Law") then some (.inr (.inl (some (.ref v)))) else none
    | none => none
  | _ => none
def mj_rtv (id : Nat) (st : List Value) : Option mj_O := match st with
  | [] => match mj_tab[id]? with
    | some me => if me.2.2.2.1 = none then some (.inr (.inl none)) else none
    | none => none
  | _ => none
def mj_stp (sl d id : Nat) (i : Instr) (pc : Nat) (L st : List Value) (M : mj_M) : Option mj_O := match i with
  | .iconst n => mj_nx (pc + 1) L (.int (Int32.ofInt n) :: st) M
  | .bipush n => mj_nx (pc + 2) L (.int (Int8.ofInt n).toInt32 :: st) M
  | .sipush n => mj_nx (pc + 3) L (.int (Int16.ofInt n).toInt32 :: st) M
  | .ldc j => mj_ldc 2 (mj_own id) j pc L st M
  | .ldc_w j => mj_ldc 3 (mj_own id) j pc L st M
  | .iload_n j => mj_ldi j 1 pc L st M
  | .iload j => mj_ldi j 2 pc L st M
  | .aload_n j => mj_lda j 1 pc L st M
  | .aload j => mj_lda j 2 pc L st M
  | .istore_n j => mj_sti j 1 pc L st M
  | .istore j => mj_sti j 2 pc L st M
  | .astore_n j => mj_sta j 1 pc L st M
  | .iinc j n => match L[j]? with
    | some (.int x) => mj_nx (pc + 3) (L.set j (.int (x + Int32.ofInt n))) st M
    | _ => none
  | .dup => mj_dup pc L st M
  | .dup2 => mj_dup2 pc L st M
  | .iadd => mj_bin (fun x y => x + y) pc L st M
  | .isub => mj_bin (fun x y => x - y) pc L st M
  | .imul => mj_bin (fun x y => x * y) pc L st M
  | .iand => mj_bin (fun x y => x &&& y) pc L st M
  | .ior => mj_bin (fun x y => x ||| y) pc L st M
  | .ixor => mj_bin (fun x y => x ^^^ y) pc L st M
  | .ishl => mj_bin (fun x y => x <<< (y &&& 31)) pc L st M
  | .ishr => mj_bin (fun x y => x >>> (y &&& 31)) pc L st M
  | .iushr => mj_bin (fun x y => (x.toUInt32 >>> (y.toUInt32 &&& Int32.toUInt32 31)).toInt32) pc L st M
  | .idiv => mj_dv (fun x y => x / y) pc L st M
  | .irem => mj_dv (fun x y => x - x / y * y) pc L st M
  | .ineg => mj_un (fun x => -x) pc L st M
  | .i2b => mj_un (fun x => x.toInt8.toInt32) pc L st M
  | .i2c => mj_un (fun x => (x.toUInt32 % 65536).toInt32) pc L st M
  | .goto off => mj_go pc off L st M
  | .if_icmp c off => mj_icmp c off pc L st M
  | .ifCond c off => mj_ifc c off pc L st M
  | .tableswitch dflt lo hi offs => mj_tsw dflt lo hi offs pc L st M
  | .lookupswitch dflt ps => mj_lsw dflt ps pc L st M
  | .getfield j => mj_gf (mj_own id) j pc L st M
  | .getstatic j => mj_gs (mj_own id) j pc L st M
  | .putfield j => mj_pf (mj_own id) j pc L st M
  | .iaload => mj_ild sl pc L st M
  | .iastore => mj_ist pc L st M
  | .baload => mj_bld pc L st M
  | .bastore => mj_bst pc L st M
  | .arraylength => mj_aln sl pc L st M
  | .invokevirtual j => mj_ivv (mj_own id) j st
  | .invokestatic j => mj_ivs d (mj_own id) j pc L st M
  | .ireturn => mj_rti id st
  | .areturn => mj_rta id st
  | .return_ => mj_rtv id st
  | _ => none
def mj_ml (id : Nat) : Nat := match mj_tab[id]? with
  | none => 0
  | some me => me.2.2.1
def mj_ent (id : Nat) (as : List Value) : List Value := as ++ List.replicate (mj_ml id - as.length) Value.null
def mj_ex (sl : Nat) : Nat → Nat → Nat → Nat → List Value → List Value → mj_M → Option (Option Value × mj_M)
  | 0, _, _, _, _, _, _ => none
  | n + 1, d, id, pc, L, st, M => match mj_at id pc with
    | none => none
    | some i => match mj_stp sl d id i pc L st M with
      | none => none
      | some (.inl (pc', L', st', M')) => mj_ex sl n d id pc' L' st' M'
      | some (.inr (.inl r)) => some (r, M)
      | some (.inr (.inr (y, as, rest))) => match d with
        | 0 => none
        | d' + 1 => match mj_ex sl n d' y 0 (mj_ent y as) [] M with
          | none => none
          | some (r, M1) => mj_ex sl n (d' + 1) id (pc + 3) L (r.toList ++ rest) M1
end
section
theorem mj_mono {sl : Nat} : ∀ (n d id pc : Nat) (L st : List Value) (M : mj_M) (r : Option Value × mj_M), mj_ex sl n d id pc L st M = some r → mj_ex sl (n + 1) d id pc L st M = some r := by
  intro n
  induction n with
  | zero => intro d id pc L st M r h; rw [mj_ex] at h; cases h
  | succ n ih =>
    intro d id pc L st M r h
    rw [mj_ex] at h ⊢
    cases hi : mj_at id pc with
    | none => rw [hi] at h; cases h
    | some i =>
      rw [hi] at h
      dsimp only at h ⊢
      cases hs : mj_stp sl d id i pc L st M with
      | none => rw [hs] at h; cases h
      | some o =>
        rw [hs] at h
        rcases o with ⟨pc', L', st', M'⟩ | r' | ⟨y, as, rest⟩
        · exact ih _ _ _ _ _ _ _ h
        · exact h
        · dsimp only at h ⊢
          cases d with
          | zero => cases h
          | succ d' =>
            dsimp only at h ⊢
            cases hc : mj_ex sl n d' y 0 (mj_ent y as) [] M with
            | none => rw [hc] at h; cases h
            | some q =>
              rw [hc] at h
              rw [ih _ _ _ _ _ _ _ hc]
              exact ih _ _ _ _ _ _ _ h
theorem mj_mono2 {sl : Nat} {n d id pc : Nat} {L st : List Value} {M : mj_M} {r : Option Value × mj_M} (h : mj_ex sl n d id pc L st M = some r) : ∀ k, mj_ex sl (n + k) d id pc L st M = some r := by
  intro k
  induction k with
  | zero => exact h
  | succ k ih => exact mj_mono _ _ _ _ _ _ _ _ ih
theorem mj_det {sl : Nat} {n k d id pc : Nat} {L st : List Value} {M : mj_M} {r q : Option Value × mj_M} (h : mj_ex sl n d id pc L st M = some r) (h2 : mj_ex sl k d id pc L st M = some q) : r = q := by
  have a := mj_mono2 h k
  have b := mj_mono2 h2 n
  rw [Nat.add_comm k n] at b
  exact Option.some.inj (a.symm.trans b)
noncomputable def mj_F (sl d id pc : Nat) (L st : List Value) (M : mj_M) : Option (Option Value × mj_M) :=
  @dite _ (∃ (n : Nat) (r : Option Value × mj_M), mj_ex sl n d id pc L st M = some r) (Classical.propDecidable _) (fun h => some (Classical.choose (Classical.choose_spec h))) (fun _ => none)
theorem mj_F_iff {sl d id pc : Nat} {L st : List Value} {M : mj_M} {r : Option Value × mj_M} : mj_F sl d id pc L st M = some r ↔ ∃ n, mj_ex sl n d id pc L st M = some r := by
  constructor
  · intro h
    unfold mj_F at h
    split at h
    · next hx =>
      have e := Option.some.inj h
      exact ⟨_, by rw [← e]; exact Classical.choose_spec (Classical.choose_spec hx)⟩
    · cases h
  · rintro ⟨n, h⟩
    unfold mj_F
    have hx : ∃ (n : Nat) (r : Option Value × mj_M), mj_ex sl n d id pc L st M = some r := ⟨n, r, h⟩
    rw [dif_pos hx]
    exact congrArg some (mj_det (Classical.choose_spec (Classical.choose_spec hx)) h)
theorem mj_oext {α : Type} {a b : Option α} (h : ∀ r, a = some r ↔ b = some r) : a = b := by
  cases ha : a with
  | some x => exact ((h x).mp ha).symm
  | none =>
    cases hb : b with
    | none => rfl
    | some y => rw [(h y).mpr hb] at ha; cases ha
section MJ1
variable {sl d id pc : Nat} {L st : List Value} {M : mj_M} {i : Instr}
theorem mj_Fs {pc' : Nat} {L' st' : List Value} {M' : mj_M} (h : mj_at id pc = some i) (hs : mj_stp sl d id i pc L st M = some (.inl (pc', L', st', M'))) : mj_F sl d id pc L st M = mj_F sl d id pc' L' st' M' := by
  have e : ∀ n, mj_ex sl (n + 1) d id pc L st M = mj_ex sl n d id pc' L' st' M' := by
    intro n
    rw [mj_ex, h]
    dsimp only
    rw [hs]
  refine mj_oext (fun r => ?_)
  rw [mj_F_iff, mj_F_iff]
  constructor
  · rintro ⟨n, hn⟩
    cases n with
    | zero => rw [mj_ex] at hn; cases hn
    | succ n => exact ⟨n, by rw [← e]; exact hn⟩
  · rintro ⟨n, hn⟩
    exact ⟨n + 1, by rw [e]; exact hn⟩
theorem mj_Fr {r : Option Value} (h : mj_at id pc = some i) (hs : mj_stp sl d id i pc L st M = some (.inr (.inl r))) : mj_F sl d id pc L st M = some (r, M) := by
  refine mj_F_iff.mpr ⟨1, ?_⟩
  rw [mj_ex, h]
  dsimp only
  rw [hs]
theorem mj_Fn (h : mj_at id pc = some i) (hs : mj_stp sl d id i pc L st M = none) : mj_F sl d id pc L st M = none := by
  refine mj_oext (fun r => ?_)
  rw [mj_F_iff]
  constructor
  · rintro ⟨n, hn⟩
    cases n with
    | zero => rw [mj_ex] at hn; cases hn
    | succ n =>
      rw [mj_ex, h] at hn
      dsimp only at hn
      rw [hs] at hn
      cases hn
  · intro h; cases h
theorem mj_Fc {y : Nat} {as rest : List Value} (h : mj_at id pc = some i) (hs : mj_stp sl (d + 1) id i pc L st M = some (.inr (.inr (y, as, rest)))) :
    mj_F sl (d + 1) id pc L st M = (mj_F sl d y 0 (mj_ent y as) [] M).bind (fun q => mj_F sl (d + 1) id (pc + 3) L (q.1.toList ++ rest) q.2) := by
  refine mj_oext (fun r => ?_)
  rw [mj_F_iff]
  constructor
  · rintro ⟨n, hn⟩
    cases n with
    | zero => rw [mj_ex] at hn; cases hn
    | succ n =>
      rw [mj_ex, h] at hn
      dsimp only at hn
      rw [hs] at hn
      dsimp only at hn
      cases hc : mj_ex sl n d y 0 (mj_ent y as) [] M with
      | none => rw [hc] at hn; cases hn
      | some q =>
        rw [hc] at hn
        rw [mj_F_iff.mpr ⟨n, hc⟩]
        exact mj_F_iff.mpr ⟨n, hn⟩
  · intro hb
    cases hc : mj_F sl d y 0 (mj_ent y as) [] M with
    | none => rw [hc] at hb; cases hb
    | some q =>
      rw [hc] at hb
      obtain ⟨n1, h1⟩ := mj_F_iff.mp hc
      obtain ⟨n2, h2⟩ := mj_F_iff.mp (show mj_F sl (d + 1) id (pc + 3) L (q.1.toList ++ rest) q.2 = some r from hb)
      refine ⟨n1 + n2 + 1, ?_⟩
      rw [mj_ex, h]
      dsimp only
      rw [hs]
      dsimp only
      rw [mj_mono2 h1 n2]
      dsimp only
      have h3 := mj_mono2 h2 n1
      rw [Nat.add_comm n2 n1] at h3
      exact h3
end MJ1
def mj_rk (id : Nat) : Nat := match mj_tab[id]? with
  | none => 9
  | some me => if me.2.2.2.1 = none then 0 else if me.2.2.2.1 = some .int ∨ me.2.2.2.1 = some .boolean ∨ me.2.2.2.1 = some .byte then 1 else 2
def mj_rok (k : Nat) (r : Option Value) : Prop := match r with
  | none => k = 0
  | some (.int _) => k = 1
  | some (.ref _) => k = 2
  | _ => False
theorem mj_stp_ret {sl d id pc : Nat} {L st : List Value} {M : mj_M} {i : Instr} {r : Option Value} (hs : mj_stp sl d id i pc L st M = some (.inr (.inl r))) : mj_rok (mj_rk id) r := by
  have none_of : ∀ (j : Nat), mj_vcl j st ≠ some (.inr (.inl r)) := by
    intro j h
    unfold mj_vcl at h
    repeat' split at h
    all_goals first | cases h | (simp at h)
  have none_of2 : ∀ (j : Nat), mj_scl j st ≠ some (.inr (.inl r)) := by
    intro j h
    unfold mj_scl at h
    repeat' split at h
    all_goals first | cases h | (simp at h)
  cases i
  case getfield j =>
    simp only [mj_stp, mj_gf, mj_nx] at hs
    (repeat' split at hs) <;> first | (cases hs; done) | (simp at hs; done)
  case putfield j =>
    simp only [mj_stp, mj_pf, mj_nx] at hs
    (repeat' split at hs) <;> first | (cases hs; done) | (simp at hs; done)
  case tableswitch =>
    simp only [mj_stp, mj_tsw, mj_go, mj_nx] at hs
    (repeat' split at hs) <;> first | (cases hs; done) | (simp at hs; done)
  case lookupswitch =>
    simp only [mj_stp, mj_lsw, mj_go, mj_nx] at hs
    (repeat' split at hs) <;> first | (cases hs; done) | (simp at hs; done)
  case ireturn =>
    simp only [mj_stp, mj_rti] at hs
    split at hs
    · split at hs
      · next me hm =>
        split at hs
        · next hc =>
          cases hs
          unfold mj_rok mj_rk
          rw [hm]
          dsimp only
          rcases hc with hc | hc | hc
          · rw [hc]; rfl
          · rw [hc.1]; rfl
          · rw [hc.1]; rfl
        · cases hs
      · cases hs
    · cases hs
  case areturn =>
    simp only [mj_stp, mj_rta] at hs
    split at hs
    · split at hs
      · next me hm =>
        split at hs
        · next hc =>
          cases hs
          unfold mj_rok mj_rk
          rw [hm]
          dsimp only
          rw [hc]
          rfl
        · cases hs
      · cases hs
    · cases hs
  case return_ =>
    simp only [mj_stp, mj_rtv] at hs
    split at hs
    · split at hs
      · next me hm =>
        split at hs
        · next hc =>
          cases hs
          unfold mj_rok mj_rk
          rw [hm]
          dsimp only
          rw [hc]
          rfl
        · cases hs
      · cases hs
    · cases hs
  case invokestatic j =>
    simp only [mj_stp, mj_ivs] at hs
    split at hs
    · split at hs
      · exact absurd hs (none_of2 _)
      · split at hs
        · simp only [mj_acp, mj_nx] at hs
          (repeat' split at hs) <;> first | (cases hs; done) | (simp at hs; done)
        · simp only [mj_mth, mj_nx] at hs
          (repeat' split at hs) <;> first | (cases hs; done) | (simp at hs; done)
    · cases hs
  case invokevirtual j =>
    simp only [mj_stp, mj_ivv] at hs
    split at hs
    · split at hs
      · exact absurd hs (none_of _)
      · cases hs
    · cases hs
  all_goals (simp only [mj_stp, mj_ldc, mj_ldi, mj_lda, mj_sti, mj_sta, mj_dup, mj_dup2, mj_bin, mj_dv, mj_un, mj_go, mj_icmp, mj_ifc, mj_br, mj_ild, mj_ist, mj_bld, mj_bst, mj_aln, mj_gs, mj_nx] at hs)
  all_goals first | (cases hs; done) | (simp at hs; done) | ((repeat' split at hs) <;> first | (cases hs; done) | (simp at hs; done))
theorem mj_ex_ret {sl : Nat} : ∀ (n d id pc : Nat) (L st : List Value) (M : mj_M) (r : Option Value × mj_M), mj_ex sl n d id pc L st M = some r → mj_rok (mj_rk id) r.1 := by
  intro n
  induction n with
  | zero => intro d id pc L st M r h; rw [mj_ex] at h; cases h
  | succ n ih =>
    intro d id pc L st M r h
    rw [mj_ex] at h
    cases hi : mj_at id pc with
    | none => rw [hi] at h; cases h
    | some i =>
      rw [hi] at h
      dsimp only at h
      cases hs : mj_stp sl d id i pc L st M with
      | none => rw [hs] at h; cases h
      | some o =>
        rw [hs] at h
        rcases o with ⟨pc', L', st', M'⟩ | r' | ⟨y, as, rest⟩
        · exact ih _ _ _ _ _ _ _ h
        · cases h
          exact mj_stp_ret hs
        · dsimp only at h
          cases d with
          | zero => cases h
          | succ d' =>
            dsimp only at h
            cases hc : mj_ex sl n d' y 0 (mj_ent y as) [] M with
            | none => rw [hc] at h; cases h
            | some q =>
              rw [hc] at h
              exact ih _ _ _ _ _ _ _ h
def mj_cd (r : Option Value) : Int32 := match r with
  | some (.int v) => v
  | some (.ref a) => nI a
  | _ => 0
noncomputable def mj_E (sl d id pc : Nat) (L st : List Value) (M : mj_M) : Option (Int32 × mj_M) := (mj_F sl d id pc L st M).map (fun q => (mj_cd q.1, q.2))
noncomputable def mj_C (sl d id : Nat) (as : List Value) (M : mj_M) : Option (Int32 × mj_M) := mj_E sl d id 0 (mj_ent id as) [] M
theorem mj_F_int {sl d id pc : Nat} {L st : List Value} {M : mj_M} {q : Option Value × mj_M} (hk : mj_rk id = 1) (h : mj_F sl d id pc L st M = some q) : q.1 = some (.int (mj_cd q.1)) := by
  obtain ⟨n, hn⟩ := mj_F_iff.mp h
  have h1 := mj_ex_ret _ _ _ _ _ _ _ _ hn
  obtain ⟨r, M'⟩ := q
  rw [hk] at h1
  unfold mj_rok at h1
  dsimp only at h1 ⊢
  split at h1
  · cases h1
  · rfl
  · cases h1
  · exact h1.elim
theorem mj_F_void {sl d id pc : Nat} {L st : List Value} {M : mj_M} {q : Option Value × mj_M} (hk : mj_rk id = 0) (h : mj_F sl d id pc L st M = some q) : q.1 = none := by
  obtain ⟨n, hn⟩ := mj_F_iff.mp h
  have h1 := mj_ex_ret _ _ _ _ _ _ _ _ hn
  obtain ⟨r, M'⟩ := q
  rw [hk] at h1
  unfold mj_rok at h1
  dsimp only at h1 ⊢
  split at h1
  · rfl
  · cases h1
  · cases h1
  · exact h1.elim
theorem mj_F_ref {sl d id pc : Nat} {L st : List Value} {M : mj_M} {q : Option Value × mj_M} (hk : mj_rk id = 2) (h : mj_F sl d id pc L st M = some q) : ∃ a, q.1 = some (.ref a) := by
  obtain ⟨n, hn⟩ := mj_F_iff.mp h
  have h1 := mj_ex_ret _ _ _ _ _ _ _ _ hn
  obtain ⟨r, M'⟩ := q
  rw [hk] at h1
  unfold mj_rok at h1
  dsimp only at h1 ⊢
  split at h1
  · cases h1
  · cases h1
  · exact ⟨_, rfl⟩
  · exact h1.elim
end
section
def mj_sg (y : Nat) : Option (Nat × Nat) := (mj_tab[y]?).map (fun me => (me.2.2.2.2.2.1, me.2.2.2.2.2.2.1))
def mj_cs (k j : Nat) : Option (Nat × Nat × Nat × Nat × Nat) := match mj_cT k j with
  | none => none
  | some (kd, y) => match mj_tab[y]? with
    | none => none
    | some me => some (kd, y, me.2.2.2.2.2.1, me.2.2.2.2.2.2.1, mj_rk y)
def mj_rt (id : Nat) : Nat := match mj_tab[id]? with
  | none => 9
  | some me => if me.2.2.2.1 = none then 0 else if me.2.2.2.1 = some .int then 1 else if me.2.2.2.1 = some .boolean then 2 else if me.2.2.2.1 = some (.object "CourtHand$Law") then 3 else if me.2.2.2.1 = some .byte then 4 else 8
theorem mj_cs_spec {k j kd y n ci rk : Nat} (h : mj_cs k j = some (kd, y, n, ci, rk)) : mj_cT k j = some (kd, y) ∧ (∃ me, mj_tab[y]? = some me ∧ me.2.2.2.2.2.1 = n ∧ me.2.2.2.2.2.2.1 = ci) ∧ mj_rk y = rk := by
  unfold mj_cs at h
  split at h
  · cases h
  · next kd' y' hc =>
    split at h
    · cases h
    · next me hm =>
      cases h
      exact ⟨hc, ⟨me, hm, rfl, rfl⟩, rfl⟩
theorem mj_rt_spec {id k : Nat} (h : mj_rt id = k) (hk : k < 9) : ∃ me, mj_tab[id]? = some me ∧ (k = 0 → me.2.2.2.1 = none) ∧ (k = 1 → me.2.2.2.1 = some .int) ∧ (k = 2 → me.2.2.2.1 = some .boolean) ∧ (k = 3 → me.2.2.2.1 = some (.object "CourtHand$Law")) ∧ (k = 4 → me.2.2.2.1 = some .byte) := by
  unfold mj_rt at h
  split at h
  · omega
  · next me hm =>
    refine ⟨me, hm, ?_⟩
    (repeat' split at h) <;> subst h <;> simp_all
def mj_rm (x y : Int32) : Int32 := x - x / y * y
def mj_us (x y : Int32) : Int32 := (x.toUInt32 >>> (y.toUInt32 &&& Int32.toUInt32 31)).toInt32
def mj_cp (M : mj_M) (a b sp dp n : Nat) : mj_M := mj_row M b (va_cpy (M a) (M b) sp dp n)
section MJ2
variable {sl d id pc : Nat} {L st : List Value} {M : mj_M}
theorem mj_Es {i : Instr} {pc' : Nat} {L' st' : List Value} {M' : mj_M} (h : mj_at id pc = some i) (hs : mj_stp sl d id i pc L st M = some (.inl (pc', L', st', M'))) : mj_E sl d id pc L st M = mj_E sl d id pc' L' st' M' := by
  unfold mj_E
  rw [mj_Fs h hs]
theorem mj_Er {i : Instr} {r : Option Value} (h : mj_at id pc = some i) (hs : mj_stp sl d id i pc L st M = some (.inr (.inl r))) : mj_E sl d id pc L st M = some (mj_cd r, M) := by
  unfold mj_E
  rw [mj_Fr h hs]
  rfl
theorem mj_En {i : Instr} (h : mj_at id pc = some i) (hs : mj_stp sl d id i pc L st M = none) : mj_E sl d id pc L st M = none := by
  unfold mj_E
  rw [mj_Fn h hs]
  rfl
theorem mj_En0 (h : mj_at id pc = none) : mj_E sl d id pc L st M = none := by
  unfold mj_E
  rw [show mj_F sl d id pc L st M = none from ?_]
  · rfl
  · refine mj_oext (fun r => ?_)
    rw [mj_F_iff]
    constructor
    · rintro ⟨n, hn⟩
      cases n with
      | zero => rw [mj_ex] at hn; cases hn
      | succ n => rw [mj_ex, h] at hn; cases hn
    · intro h; cases h
theorem mj_Eci {i : Instr} {y : Nat} {as rest : List Value} (h : mj_at id pc = some i) (hk : mj_rk y = 1) (hs : mj_stp sl (d + 1) id i pc L st M = some (.inr (.inr (y, as, rest)))) :
    mj_E sl (d + 1) id pc L st M = (mj_C sl d y as M).bind (fun q => mj_E sl (d + 1) id (pc + 3) L (.int q.1 :: rest) q.2) := by
  unfold mj_C mj_E
  rw [mj_Fc h hs]
  cases hc : mj_F sl d y 0 (mj_ent y as) [] M with
  | none => rfl
  | some q =>
    have e := mj_F_int hk hc
    show Option.map _ (mj_F sl (d + 1) id (pc + 3) L (q.1.toList ++ rest) q.2) = Option.map _ (mj_F sl (d + 1) id (pc + 3) L (.int (mj_cd q.1) :: rest) q.2)
    rw [show q.1.toList ++ rest = .int (mj_cd q.1) :: rest from by rw [e]; rfl]
theorem mj_Ecv {i : Instr} {y : Nat} {as rest : List Value} (h : mj_at id pc = some i) (hk : mj_rk y = 0) (hs : mj_stp sl (d + 1) id i pc L st M = some (.inr (.inr (y, as, rest)))) :
    mj_E sl (d + 1) id pc L st M = (mj_C sl d y as M).bind (fun q => mj_E sl (d + 1) id (pc + 3) L rest q.2) := by
  unfold mj_C mj_E
  rw [mj_Fc h hs]
  cases hc : mj_F sl d y 0 (mj_ent y as) [] M with
  | none => rfl
  | some q =>
    have e := mj_F_void hk hc
    show Option.map _ (mj_F sl (d + 1) id (pc + 3) L (q.1.toList ++ rest) q.2) = Option.map _ (mj_F sl (d + 1) id (pc + 3) L rest q.2)
    rw [show q.1.toList ++ rest = rest from by rw [e]; rfl]
theorem mj_ite {α : Type} {c : Prop} [Decidable c] {a b a' b' : α} (h1 : a = a') (h2 : b = b') : (if c then a else b) = (if c then a' else b') := by rw [h1, h2]
theorem mj_itc {α : Type} {c : Prop} [Decidable c] {a b a' b' : α} (h1 : c → a = a') (h2 : ¬ c → b = b') : (if c then a else b) = (if c then a' else b') := by
  by_cases h : c
  · rw [if_pos h, if_pos h]; exact h1 h
  · rw [if_neg h, if_neg h]; exact h2 h
theorem mj_bnd {α β : Type} {x : Option α} {f g : α → Option β} (h : ∀ q, f q = g q) : x.bind f = x.bind g := by rw [show f = g from funext h]
theorem mj_bnd2 {α β γ : Type} {x : Option (α × β)} {f : α × β → Option γ} {g : α → β → Option γ} (h : ∀ a b, f (a, b) = g a b) : x.bind f = x.bind (fun q => g q.1 q.2) := by
  rw [show f = (fun q => g q.1 q.2) from funext (fun q => h q.1 q.2)]

theorem sx_iconst {n : Int} {v : Int32} (h : mj_at id pc = some (.iconst n)) (hv : Int32.ofInt n = v) : mj_E sl d id pc L st M = mj_E sl d id (pc + 1) L (.int v :: st) M := mj_Es h (by subst hv; rfl)
theorem sx_bipush {n : Int} {v : Int32} (h : mj_at id pc = some (.bipush n)) (hv : (Int8.ofInt n).toInt32 = v) : mj_E sl d id pc L st M = mj_E sl d id (pc + 2) L (.int v :: st) M := mj_Es h (by subst hv; rfl)
theorem sx_sipush {n : Int} {v : Int32} (h : mj_at id pc = some (.sipush n)) (hv : (Int16.ofInt n).toInt32 = v) : mj_E sl d id pc L st M = mj_E sl d id (pc + 3) L (.int v :: st) M := mj_Es h (by subst hv; rfl)
theorem sx_ldc {j k : Nat} {v : Int32} (h : mj_at id pc = some (.ldc j)) (ho : mj_own id = k) (hv : mj_kT k j = some v) : mj_E sl d id pc L st M = mj_E sl d id (pc + 2) L (.int v :: st) M := mj_Es h (by simp only [mj_stp, mj_ldc, ho, hv]; rfl)
theorem sx_ldcw {j k : Nat} {v : Int32} (h : mj_at id pc = some (.ldc_w j)) (ho : mj_own id = k) (hv : mj_kT k j = some v) : mj_E sl d id pc L st M = mj_E sl d id (pc + 3) L (.int v :: st) M := mj_Es h (by simp only [mj_stp, mj_ldc, ho, hv]; rfl)
theorem sx_ldcs  (h : mj_at id pc = some (.ldc 104)) (ho : mj_own id = 2) (hv : mj_kT 2 104 = none) : mj_E sl d id pc L st M = mj_E sl d id (pc + 2) L (.ref 73 :: st) M := mj_Es h (by simp only [mj_stp, mj_ldc, ho, hv]; rfl)
theorem sx_iload_n {j : Fin 4} {x : Int32} (h : mj_at id pc = some (.iload_n j)) (hl : L[(j : Nat)]? = some (.int x)) : mj_E sl d id pc L st M = mj_E sl d id (pc + 1) L (.int x :: st) M := mj_Es h (by simp only [mj_stp, mj_ldi, hl]; rfl)
theorem sx_iload {j : Nat} {x : Int32} (h : mj_at id pc = some (.iload j)) (hl : L[(j : Nat)]? = some (.int x)) : mj_E sl d id pc L st M = mj_E sl d id (pc + 2) L (.int x :: st) M := mj_Es h (by simp only [mj_stp, mj_ldi, hl]; rfl)
theorem sx_aload_n {j : Fin 4} {x : Nat} (h : mj_at id pc = some (.aload_n j)) (hl : L[(j : Nat)]? = some (.ref x)) : mj_E sl d id pc L st M = mj_E sl d id (pc + 1) L (.ref x :: st) M := mj_Es h (by simp only [mj_stp, mj_lda, hl]; rfl)
theorem sx_aload {j : Nat} {x : Nat} (h : mj_at id pc = some (.aload j)) (hl : L[(j : Nat)]? = some (.ref x)) : mj_E sl d id pc L st M = mj_E sl d id (pc + 2) L (.ref x :: st) M := mj_Es h (by simp only [mj_stp, mj_lda, hl]; rfl)
theorem sx_istore_n {j : Fin 4} {x : Int32} {L' : List Value} (h : mj_at id pc = some (.istore_n j)) (hn : (j : Nat) < L.length) (hl : L.set (j : Nat) (.int x) = L') : mj_E sl d id pc L (.int x :: st) M = mj_E sl d id (pc + 1) L' st M := mj_Es h (by subst hl; simp only [mj_stp, mj_sti, if_pos hn]; rfl)
theorem sx_istore {j : Nat} {x : Int32} {L' : List Value} (h : mj_at id pc = some (.istore j)) (hn : (j : Nat) < L.length) (hl : L.set (j : Nat) (.int x) = L') : mj_E sl d id pc L (.int x :: st) M = mj_E sl d id (pc + 2) L' st M := mj_Es h (by subst hl; simp only [mj_stp, mj_sti, if_pos hn]; rfl)
theorem sx_astore_n {j : Fin 4} {x : Nat} {L' : List Value} (h : mj_at id pc = some (.astore_n j)) (hn : (j : Nat) < L.length) (hl : L.set (j : Nat) (.ref x) = L') : mj_E sl d id pc L (.ref x :: st) M = mj_E sl d id (pc + 1) L' st M := mj_Es h (by subst hl; simp only [mj_stp, mj_sta, if_pos hn]; rfl)
theorem sx_iinc {j : Nat} {n : Int} {v x : Int32} {L' : List Value} (h : mj_at id pc = some (.iinc j n)) (hx : L[j]? = some (.int x)) (hv : Int32.ofInt n = v) (hl : L.set j (.int (x + v)) = L') : mj_E sl d id pc L st M = mj_E sl d id (pc + 3) L' st M := mj_Es h (by subst hl; subst hv; simp only [mj_stp, hx]; rfl)
theorem sx_dupi {x : Int32} (h : mj_at id pc = some (.dup))  : mj_E sl d id pc L (.int x :: st) M = mj_E sl d id (pc + 1) L (.int x :: .int x :: st) M := mj_Es h (by rfl)
theorem sx_dupa {x : Nat} (h : mj_at id pc = some (.dup))  : mj_E sl d id pc L (.ref x :: st) M = mj_E sl d id (pc + 1) L (.ref x :: .ref x :: st) M := mj_Es h (by rfl)
theorem sx_dup2 {x : Int32} {y : Nat} (h : mj_at id pc = some (.dup2))  : mj_E sl d id pc L (.int x :: .ref y :: st) M = mj_E sl d id (pc + 1) L (.int x :: .ref y :: .int x :: .ref y :: st) M := mj_Es h (by rfl)
theorem sx_iadd {x y : Int32} (h : mj_at id pc = some (.iadd))  : mj_E sl d id pc L (.int y :: .int x :: st) M = mj_E sl d id (pc + 1) L (.int (x + y) :: st) M := mj_Es h (by rfl)
theorem sx_isub {x y : Int32} (h : mj_at id pc = some (.isub))  : mj_E sl d id pc L (.int y :: .int x :: st) M = mj_E sl d id (pc + 1) L (.int (x - y) :: st) M := mj_Es h (by rfl)
theorem sx_imul {x y : Int32} (h : mj_at id pc = some (.imul))  : mj_E sl d id pc L (.int y :: .int x :: st) M = mj_E sl d id (pc + 1) L (.int (x * y) :: st) M := mj_Es h (by rfl)
theorem sx_iand {x y : Int32} (h : mj_at id pc = some (.iand))  : mj_E sl d id pc L (.int y :: .int x :: st) M = mj_E sl d id (pc + 1) L (.int (x &&& y) :: st) M := mj_Es h (by rfl)
theorem sx_ior {x y : Int32} (h : mj_at id pc = some (.ior))  : mj_E sl d id pc L (.int y :: .int x :: st) M = mj_E sl d id (pc + 1) L (.int (x ||| y) :: st) M := mj_Es h (by rfl)
theorem sx_ixor {x y : Int32} (h : mj_at id pc = some (.ixor))  : mj_E sl d id pc L (.int y :: .int x :: st) M = mj_E sl d id (pc + 1) L (.int (x ^^^ y) :: st) M := mj_Es h (by rfl)
theorem sx_ishl {x y : Int32} (h : mj_at id pc = some (.ishl))  : mj_E sl d id pc L (.int y :: .int x :: st) M = mj_E sl d id (pc + 1) L (.int (x <<< (y &&& 31)) :: st) M := mj_Es h (by rfl)
theorem sx_ishr {x y : Int32} (h : mj_at id pc = some (.ishr))  : mj_E sl d id pc L (.int y :: .int x :: st) M = mj_E sl d id (pc + 1) L (.int (x >>> (y &&& 31)) :: st) M := mj_Es h (by rfl)
theorem sx_iushr {x y : Int32} (h : mj_at id pc = some (.iushr))  : mj_E sl d id pc L (.int y :: .int x :: st) M = mj_E sl d id (pc + 1) L (.int (mj_us x y) :: st) M := mj_Es h (by rfl)
theorem sx_idiv {x y : Int32} (h : mj_at id pc = some (.idiv)) (hy : ¬ y = 0) : mj_E sl d id pc L (.int y :: .int x :: st) M = mj_E sl d id (pc + 1) L (.int (x / y) :: st) M := mj_Es h (by simp only [mj_stp, mj_dv, if_neg hy]; rfl)
theorem sx_idivg {x y : Int32} (h : mj_at id pc = some (.idiv)) : mj_E sl d id pc L (.int y :: .int x :: st) M = if y = 0 then none else mj_E sl d id (pc + 1) L (.int (x / y) :: st) M := by
  split
  · next hy => exact mj_En h (by simp only [mj_stp, mj_dv, if_pos hy])
  · next hy => exact sx_idiv h hy
theorem sx_irem {x y : Int32} (h : mj_at id pc = some (.irem)) (hy : ¬ y = 0) : mj_E sl d id pc L (.int y :: .int x :: st) M = mj_E sl d id (pc + 1) L (.int (mj_rm x y) :: st) M := mj_Es h (by simp only [mj_stp, mj_dv, if_neg hy]; rfl)
theorem sx_iremg {x y : Int32} (h : mj_at id pc = some (.irem)) : mj_E sl d id pc L (.int y :: .int x :: st) M = if y = 0 then none else mj_E sl d id (pc + 1) L (.int (mj_rm x y) :: st) M := by
  split
  · next hy => exact mj_En h (by simp only [mj_stp, mj_dv, if_pos hy])
  · next hy => exact sx_irem h hy
theorem sx_ineg {x : Int32} (h : mj_at id pc = some (.ineg))  : mj_E sl d id pc L (.int x :: st) M = mj_E sl d id (pc + 1) L (.int (-x) :: st) M := mj_Es h (by rfl)
theorem sx_i2b {x : Int32} (h : mj_at id pc = some (.i2b))  : mj_E sl d id pc L (.int x :: st) M = mj_E sl d id (pc + 1) L (.int (x.toInt8.toInt32) :: st) M := mj_Es h (by rfl)
theorem sx_i2c {x : Int32} (h : mj_at id pc = some (.i2c))  : mj_E sl d id pc L (.int x :: st) M = mj_E sl d id (pc + 1) L (.int ((x.toUInt32 % 65536).toInt32) :: st) M := mj_Es h (by rfl)
theorem mj_go_of {pc tgt : Nat} {off : Int} {L st : List Value} {M : mj_M} (ht : (pc : Int) + off = (tgt : Int)) : mj_go pc off L st M = some (.inl (tgt, L, st, M)) := by
  unfold mj_go
  rw [ht, if_pos (by omega), Int.toNat_natCast]
theorem mj_bf_of {pc tgt : Nat} {off : Int} {L st : List Value} {M : mj_M} (ht : (pc : Int) + off = (tgt : Int)) : mj_br false pc off L st M = some (.inl (pc + 3, L, st, M)) := by
  unfold mj_br
  dsimp only
  rw [ht, if_pos (by omega)]
  rfl
theorem sx_goto {off : Int} {tgt : Nat} (h : mj_at id pc = some (.goto off)) (ht : (pc : Int) + off = (tgt : Int)) : mj_E sl d id pc L st M = mj_E sl d id tgt L st M := mj_Es h (by simp only [mj_stp]; exact mj_go_of ht)
theorem sx_icmp_eq {x y : Int32} {off : Int} {tgt : Nat} (h : mj_at id pc = some (.if_icmp .eq off)) (ht : (pc : Int) + off = (tgt : Int)) : mj_E sl d id pc L (.int y :: .int x :: st) M = if x = y then mj_E sl d id tgt L st M else mj_E sl d id (pc + 3) L st M := by
  split
  · next hc => exact mj_Es h (by simp only [mj_stp, mj_icmp, mj_ifc, mj_cmp]; rw [decide_eq_true (by exact hc)]; exact mj_go_of ht)
  · next hc => exact mj_Es h (by simp only [mj_stp, mj_icmp, mj_ifc, mj_cmp]; rw [decide_eq_false (by exact hc)]; exact mj_bf_of ht)
theorem sx_if_eq {x : Int32} {off : Int} {tgt : Nat} (h : mj_at id pc = some (.ifCond .eq off)) (ht : (pc : Int) + off = (tgt : Int)) : mj_E sl d id pc L (.int x :: st) M = if x = 0 then mj_E sl d id tgt L st M else mj_E sl d id (pc + 3) L st M := by
  split
  · next hc => exact mj_Es h (by simp only [mj_stp, mj_icmp, mj_ifc, mj_cmp]; rw [decide_eq_true (by exact hc)]; exact mj_go_of ht)
  · next hc => exact mj_Es h (by simp only [mj_stp, mj_icmp, mj_ifc, mj_cmp]; rw [decide_eq_false (by exact hc)]; exact mj_bf_of ht)
theorem sx_icmp_ne {x y : Int32} {off : Int} {tgt : Nat} (h : mj_at id pc = some (.if_icmp .ne off)) (ht : (pc : Int) + off = (tgt : Int)) : mj_E sl d id pc L (.int y :: .int x :: st) M = if x = y then mj_E sl d id (pc + 3) L st M else mj_E sl d id tgt L st M := by
  split
  · next hc => exact mj_Es h (by simp only [mj_stp, mj_icmp, mj_ifc, mj_cmp]; rw [decide_eq_false (by exact fun z => z hc)]; exact mj_bf_of ht)
  · next hc => exact mj_Es h (by simp only [mj_stp, mj_icmp, mj_ifc, mj_cmp]; rw [decide_eq_true (by exact hc)]; exact mj_go_of ht)
theorem sx_if_ne {x : Int32} {off : Int} {tgt : Nat} (h : mj_at id pc = some (.ifCond .ne off)) (ht : (pc : Int) + off = (tgt : Int)) : mj_E sl d id pc L (.int x :: st) M = if x = 0 then mj_E sl d id (pc + 3) L st M else mj_E sl d id tgt L st M := by
  split
  · next hc => exact mj_Es h (by simp only [mj_stp, mj_icmp, mj_ifc, mj_cmp]; rw [decide_eq_false (by exact fun z => z hc)]; exact mj_bf_of ht)
  · next hc => exact mj_Es h (by simp only [mj_stp, mj_icmp, mj_ifc, mj_cmp]; rw [decide_eq_true (by exact hc)]; exact mj_go_of ht)
theorem sx_icmp_lt {x y : Int32} {off : Int} {tgt : Nat} (h : mj_at id pc = some (.if_icmp .lt off)) (ht : (pc : Int) + off = (tgt : Int)) : mj_E sl d id pc L (.int y :: .int x :: st) M = if x < y then mj_E sl d id tgt L st M else mj_E sl d id (pc + 3) L st M := by
  split
  · next hc => exact mj_Es h (by simp only [mj_stp, mj_icmp, mj_ifc, mj_cmp]; rw [decide_eq_true (by exact hc)]; exact mj_go_of ht)
  · next hc => exact mj_Es h (by simp only [mj_stp, mj_icmp, mj_ifc, mj_cmp]; rw [decide_eq_false (by exact hc)]; exact mj_bf_of ht)
theorem sx_if_lt {x : Int32} {off : Int} {tgt : Nat} (h : mj_at id pc = some (.ifCond .lt off)) (ht : (pc : Int) + off = (tgt : Int)) : mj_E sl d id pc L (.int x :: st) M = if x < 0 then mj_E sl d id tgt L st M else mj_E sl d id (pc + 3) L st M := by
  split
  · next hc => exact mj_Es h (by simp only [mj_stp, mj_icmp, mj_ifc, mj_cmp]; rw [decide_eq_true (by exact hc)]; exact mj_go_of ht)
  · next hc => exact mj_Es h (by simp only [mj_stp, mj_icmp, mj_ifc, mj_cmp]; rw [decide_eq_false (by exact hc)]; exact mj_bf_of ht)
theorem sx_icmp_ge {x y : Int32} {off : Int} {tgt : Nat} (h : mj_at id pc = some (.if_icmp .ge off)) (ht : (pc : Int) + off = (tgt : Int)) : mj_E sl d id pc L (.int y :: .int x :: st) M = if x < y then mj_E sl d id (pc + 3) L st M else mj_E sl d id tgt L st M := by
  split
  · next hc => exact mj_Es h (by simp only [mj_stp, mj_icmp, mj_ifc, mj_cmp]; rw [decide_eq_false (by exact Int32.not_le.mpr hc)]; exact mj_bf_of ht)
  · next hc => exact mj_Es h (by simp only [mj_stp, mj_icmp, mj_ifc, mj_cmp]; rw [decide_eq_true (by exact Int32.not_lt.mp hc)]; exact mj_go_of ht)
theorem sx_if_ge {x : Int32} {off : Int} {tgt : Nat} (h : mj_at id pc = some (.ifCond .ge off)) (ht : (pc : Int) + off = (tgt : Int)) : mj_E sl d id pc L (.int x :: st) M = if x < 0 then mj_E sl d id (pc + 3) L st M else mj_E sl d id tgt L st M := by
  split
  · next hc => exact mj_Es h (by simp only [mj_stp, mj_icmp, mj_ifc, mj_cmp]; rw [decide_eq_false (by exact Int32.not_le.mpr hc)]; exact mj_bf_of ht)
  · next hc => exact mj_Es h (by simp only [mj_stp, mj_icmp, mj_ifc, mj_cmp]; rw [decide_eq_true (by exact Int32.not_lt.mp hc)]; exact mj_go_of ht)
theorem sx_icmp_gt {x y : Int32} {off : Int} {tgt : Nat} (h : mj_at id pc = some (.if_icmp .gt off)) (ht : (pc : Int) + off = (tgt : Int)) : mj_E sl d id pc L (.int y :: .int x :: st) M = if x ≤ y then mj_E sl d id (pc + 3) L st M else mj_E sl d id tgt L st M := by
  split
  · next hc => exact mj_Es h (by simp only [mj_stp, mj_icmp, mj_ifc, mj_cmp]; rw [decide_eq_false (by exact Int32.not_lt.mpr hc)]; exact mj_bf_of ht)
  · next hc => exact mj_Es h (by simp only [mj_stp, mj_icmp, mj_ifc, mj_cmp]; rw [decide_eq_true (by exact Int32.not_le.mp hc)]; exact mj_go_of ht)
theorem sx_if_gt {x : Int32} {off : Int} {tgt : Nat} (h : mj_at id pc = some (.ifCond .gt off)) (ht : (pc : Int) + off = (tgt : Int)) : mj_E sl d id pc L (.int x :: st) M = if x ≤ 0 then mj_E sl d id (pc + 3) L st M else mj_E sl d id tgt L st M := by
  split
  · next hc => exact mj_Es h (by simp only [mj_stp, mj_icmp, mj_ifc, mj_cmp]; rw [decide_eq_false (by exact Int32.not_lt.mpr hc)]; exact mj_bf_of ht)
  · next hc => exact mj_Es h (by simp only [mj_stp, mj_icmp, mj_ifc, mj_cmp]; rw [decide_eq_true (by exact Int32.not_le.mp hc)]; exact mj_go_of ht)
theorem sx_icmp_le {x y : Int32} {off : Int} {tgt : Nat} (h : mj_at id pc = some (.if_icmp .le off)) (ht : (pc : Int) + off = (tgt : Int)) : mj_E sl d id pc L (.int y :: .int x :: st) M = if x ≤ y then mj_E sl d id tgt L st M else mj_E sl d id (pc + 3) L st M := by
  split
  · next hc => exact mj_Es h (by simp only [mj_stp, mj_icmp, mj_ifc, mj_cmp]; rw [decide_eq_true (by exact hc)]; exact mj_go_of ht)
  · next hc => exact mj_Es h (by simp only [mj_stp, mj_icmp, mj_ifc, mj_cmp]; rw [decide_eq_false (by exact hc)]; exact mj_bf_of ht)
theorem sx_if_le {x : Int32} {off : Int} {tgt : Nat} (h : mj_at id pc = some (.ifCond .le off)) (ht : (pc : Int) + off = (tgt : Int)) : mj_E sl d id pc L (.int x :: st) M = if x ≤ 0 then mj_E sl d id tgt L st M else mj_E sl d id (pc + 3) L st M := by
  split
  · next hc => exact mj_Es h (by simp only [mj_stp, mj_icmp, mj_ifc, mj_cmp]; rw [decide_eq_true (by exact hc)]; exact mj_go_of ht)
  · next hc => exact mj_Es h (by simp only [mj_stp, mj_icmp, mj_ifc, mj_cmp]; rw [decide_eq_false (by exact hc)]; exact mj_bf_of ht)
theorem sx_icmp_eq_t {x y : Int32} {off : Int} {tgt : Nat} (h : mj_at id pc = some (.if_icmp .eq off)) (ht : (pc : Int) + off = (tgt : Int)) (hc : x = y) : mj_E sl d id pc L (.int y :: .int x :: st) M = mj_E sl d id tgt L st M := (sx_icmp_eq h ht).trans (if_pos hc)
theorem sx_icmp_eq_f {x y : Int32} {off : Int} {tgt : Nat} (h : mj_at id pc = some (.if_icmp .eq off)) (ht : (pc : Int) + off = (tgt : Int)) (hc : ¬ x = y) : mj_E sl d id pc L (.int y :: .int x :: st) M = mj_E sl d id (pc + 3) L st M := (sx_icmp_eq h ht).trans (if_neg hc)
theorem sx_if_eq_t {x : Int32} {off : Int} {tgt : Nat} (h : mj_at id pc = some (.ifCond .eq off)) (ht : (pc : Int) + off = (tgt : Int)) (hc : x = 0) : mj_E sl d id pc L (.int x :: st) M = mj_E sl d id tgt L st M := (sx_if_eq h ht).trans (if_pos hc)
theorem sx_if_eq_f {x : Int32} {off : Int} {tgt : Nat} (h : mj_at id pc = some (.ifCond .eq off)) (ht : (pc : Int) + off = (tgt : Int)) (hc : ¬ x = 0) : mj_E sl d id pc L (.int x :: st) M = mj_E sl d id (pc + 3) L st M := (sx_if_eq h ht).trans (if_neg hc)
theorem sx_icmp_ne_t {x y : Int32} {off : Int} {tgt : Nat} (h : mj_at id pc = some (.if_icmp .ne off)) (ht : (pc : Int) + off = (tgt : Int)) (hc : x = y) : mj_E sl d id pc L (.int y :: .int x :: st) M = mj_E sl d id (pc + 3) L st M := (sx_icmp_ne h ht).trans (if_pos hc)
theorem sx_icmp_ne_f {x y : Int32} {off : Int} {tgt : Nat} (h : mj_at id pc = some (.if_icmp .ne off)) (ht : (pc : Int) + off = (tgt : Int)) (hc : ¬ x = y) : mj_E sl d id pc L (.int y :: .int x :: st) M = mj_E sl d id tgt L st M := (sx_icmp_ne h ht).trans (if_neg hc)
theorem sx_if_ne_t {x : Int32} {off : Int} {tgt : Nat} (h : mj_at id pc = some (.ifCond .ne off)) (ht : (pc : Int) + off = (tgt : Int)) (hc : x = 0) : mj_E sl d id pc L (.int x :: st) M = mj_E sl d id (pc + 3) L st M := (sx_if_ne h ht).trans (if_pos hc)
theorem sx_if_ne_f {x : Int32} {off : Int} {tgt : Nat} (h : mj_at id pc = some (.ifCond .ne off)) (ht : (pc : Int) + off = (tgt : Int)) (hc : ¬ x = 0) : mj_E sl d id pc L (.int x :: st) M = mj_E sl d id tgt L st M := (sx_if_ne h ht).trans (if_neg hc)
theorem sx_icmp_lt_t {x y : Int32} {off : Int} {tgt : Nat} (h : mj_at id pc = some (.if_icmp .lt off)) (ht : (pc : Int) + off = (tgt : Int)) (hc : x < y) : mj_E sl d id pc L (.int y :: .int x :: st) M = mj_E sl d id tgt L st M := (sx_icmp_lt h ht).trans (if_pos hc)
theorem sx_icmp_lt_f {x y : Int32} {off : Int} {tgt : Nat} (h : mj_at id pc = some (.if_icmp .lt off)) (ht : (pc : Int) + off = (tgt : Int)) (hc : ¬ x < y) : mj_E sl d id pc L (.int y :: .int x :: st) M = mj_E sl d id (pc + 3) L st M := (sx_icmp_lt h ht).trans (if_neg hc)
theorem sx_if_lt_t {x : Int32} {off : Int} {tgt : Nat} (h : mj_at id pc = some (.ifCond .lt off)) (ht : (pc : Int) + off = (tgt : Int)) (hc : x < 0) : mj_E sl d id pc L (.int x :: st) M = mj_E sl d id tgt L st M := (sx_if_lt h ht).trans (if_pos hc)
theorem sx_if_lt_f {x : Int32} {off : Int} {tgt : Nat} (h : mj_at id pc = some (.ifCond .lt off)) (ht : (pc : Int) + off = (tgt : Int)) (hc : ¬ x < 0) : mj_E sl d id pc L (.int x :: st) M = mj_E sl d id (pc + 3) L st M := (sx_if_lt h ht).trans (if_neg hc)
theorem sx_icmp_ge_t {x y : Int32} {off : Int} {tgt : Nat} (h : mj_at id pc = some (.if_icmp .ge off)) (ht : (pc : Int) + off = (tgt : Int)) (hc : x < y) : mj_E sl d id pc L (.int y :: .int x :: st) M = mj_E sl d id (pc + 3) L st M := (sx_icmp_ge h ht).trans (if_pos hc)
theorem sx_icmp_ge_f {x y : Int32} {off : Int} {tgt : Nat} (h : mj_at id pc = some (.if_icmp .ge off)) (ht : (pc : Int) + off = (tgt : Int)) (hc : ¬ x < y) : mj_E sl d id pc L (.int y :: .int x :: st) M = mj_E sl d id tgt L st M := (sx_icmp_ge h ht).trans (if_neg hc)
theorem sx_if_ge_t {x : Int32} {off : Int} {tgt : Nat} (h : mj_at id pc = some (.ifCond .ge off)) (ht : (pc : Int) + off = (tgt : Int)) (hc : x < 0) : mj_E sl d id pc L (.int x :: st) M = mj_E sl d id (pc + 3) L st M := (sx_if_ge h ht).trans (if_pos hc)
theorem sx_if_ge_f {x : Int32} {off : Int} {tgt : Nat} (h : mj_at id pc = some (.ifCond .ge off)) (ht : (pc : Int) + off = (tgt : Int)) (hc : ¬ x < 0) : mj_E sl d id pc L (.int x :: st) M = mj_E sl d id tgt L st M := (sx_if_ge h ht).trans (if_neg hc)
theorem sx_icmp_gt_t {x y : Int32} {off : Int} {tgt : Nat} (h : mj_at id pc = some (.if_icmp .gt off)) (ht : (pc : Int) + off = (tgt : Int)) (hc : x ≤ y) : mj_E sl d id pc L (.int y :: .int x :: st) M = mj_E sl d id (pc + 3) L st M := (sx_icmp_gt h ht).trans (if_pos hc)
theorem sx_icmp_gt_f {x y : Int32} {off : Int} {tgt : Nat} (h : mj_at id pc = some (.if_icmp .gt off)) (ht : (pc : Int) + off = (tgt : Int)) (hc : ¬ x ≤ y) : mj_E sl d id pc L (.int y :: .int x :: st) M = mj_E sl d id tgt L st M := (sx_icmp_gt h ht).trans (if_neg hc)
theorem sx_if_gt_t {x : Int32} {off : Int} {tgt : Nat} (h : mj_at id pc = some (.ifCond .gt off)) (ht : (pc : Int) + off = (tgt : Int)) (hc : x ≤ 0) : mj_E sl d id pc L (.int x :: st) M = mj_E sl d id (pc + 3) L st M := (sx_if_gt h ht).trans (if_pos hc)
theorem sx_if_gt_f {x : Int32} {off : Int} {tgt : Nat} (h : mj_at id pc = some (.ifCond .gt off)) (ht : (pc : Int) + off = (tgt : Int)) (hc : ¬ x ≤ 0) : mj_E sl d id pc L (.int x :: st) M = mj_E sl d id tgt L st M := (sx_if_gt h ht).trans (if_neg hc)
theorem sx_icmp_le_t {x y : Int32} {off : Int} {tgt : Nat} (h : mj_at id pc = some (.if_icmp .le off)) (ht : (pc : Int) + off = (tgt : Int)) (hc : x ≤ y) : mj_E sl d id pc L (.int y :: .int x :: st) M = mj_E sl d id tgt L st M := (sx_icmp_le h ht).trans (if_pos hc)
theorem sx_icmp_le_f {x y : Int32} {off : Int} {tgt : Nat} (h : mj_at id pc = some (.if_icmp .le off)) (ht : (pc : Int) + off = (tgt : Int)) (hc : ¬ x ≤ y) : mj_E sl d id pc L (.int y :: .int x :: st) M = mj_E sl d id (pc + 3) L st M := (sx_icmp_le h ht).trans (if_neg hc)
theorem sx_if_le_t {x : Int32} {off : Int} {tgt : Nat} (h : mj_at id pc = some (.ifCond .le off)) (ht : (pc : Int) + off = (tgt : Int)) (hc : x ≤ 0) : mj_E sl d id pc L (.int x :: st) M = mj_E sl d id tgt L st M := (sx_if_le h ht).trans (if_pos hc)
theorem sx_if_le_f {x : Int32} {off : Int} {tgt : Nat} (h : mj_at id pc = some (.ifCond .le off)) (ht : (pc : Int) + off = (tgt : Int)) (hc : ¬ x ≤ 0) : mj_E sl d id pc L (.int x :: st) M = mj_E sl d id (pc + 3) L st M := (sx_if_le h ht).trans (if_neg hc)
theorem sx_tsw_in {dflt lo hi off : Int} {offs : Array Int} {x c : Int32} {tgt : Nat} (h : mj_at id pc = some (.tableswitch dflt lo hi offs)) (hx : x = c) (h1 : ¬ (c.toInt < lo ∨ hi < c.toInt)) (ho : offs[(c.toInt - lo).toNat]? = some off) (ht : (pc : Int) + off = (tgt : Int)) : mj_E sl d id pc L (.int x :: st) M = mj_E sl d id tgt L st M := by
  subst hx
  refine mj_Es h ?_
  simp only [mj_stp, mj_tsw, if_neg h1, ho]
  exact mj_go_of ht
theorem sx_tsw_out {dflt lo hi : Int} {offs : Array Int} {x : Int32} {tgt : Nat} (h : mj_at id pc = some (.tableswitch dflt lo hi offs)) (h1 : x.toInt < lo ∨ hi < x.toInt) (ht : (pc : Int) + dflt = (tgt : Int)) : mj_E sl d id pc L (.int x :: st) M = mj_E sl d id tgt L st M := by
  refine mj_Es h ?_
  simp only [mj_stp, mj_tsw, if_pos h1]
  exact mj_go_of ht
theorem sx_lsw {dflt off : Int} {ps : Array (Int × Int)} {x : Int32} {tgt : Nat} (h : mj_at id pc = some (.lookupswitch dflt ps)) (hp : (ps.toList.zip (ps.toList.drop 1)).all (fun (a, next) => a.1 < next.1) = true) (ho : Op.lookupswitch.offset ps.toList dflt x.toInt = off) (ht : (pc : Int) + off = (tgt : Int)) : mj_E sl d id pc L (.int x :: st) M = mj_E sl d id tgt L st M := by
  refine mj_Es h ?_
  simp only [mj_stp, mj_lsw, if_pos hp, ho]
  exact mj_go_of ht
theorem sx_gfi {j k a ci s kd : Nat} (h : mj_at id pc = some (.getfield j)) (ho : mj_own id = k) (hf : mj_fT k j = some (ci, s, kd)) (hkd : kd = 0 ∨ kd = 3) (hc : mj_ocl a = ci) : mj_E sl d id pc L (.ref a :: st) M = mj_E sl d id (pc + 3) L (.int (M a s) :: st) M := by
  refine mj_Es h ?_
  simp only [mj_stp, mj_gf, ho, hf, if_pos hc, mj_fv]
  rw [if_neg (by omega), if_neg (by omega), if_neg (by omega), if_neg (by omega)]
  rfl
theorem sx_gf4 {j k s : Nat} (h : mj_at id pc = some (.getfield j)) (ho : mj_own id = k) (hf : mj_fT k j = some (14, s, 4)) : mj_E sl d id pc L (.ref 73 :: st) M = mj_E sl d id (pc + 3) L (.ref 74 :: st) M := by
  refine mj_Es h ?_
  simp only [mj_stp, mj_gf, ho, hf, if_pos (show mj_ocl 73 = 14 from rfl), mj_fv]
  rfl
theorem sx_gf5 {j k s : Nat} (h : mj_at id pc = some (.getfield j)) (ho : mj_own id = k) (hf : mj_fT k j = some (14, s, 5)) : mj_E sl d id pc L (.ref 73 :: st) M = mj_E sl d id (pc + 3) L (.int 0 :: st) M := by
  refine mj_Es h ?_
  simp only [mj_stp, mj_gf, ho, hf, if_pos (show mj_ocl 73 = 14 from rfl), mj_fv]
  rfl
theorem sx_gs {j k : Nat} (h : mj_at id pc = some (.getstatic j)) (ho : mj_own id = k) (hf : mj_sT k j = true) : mj_E sl d id pc L st M = mj_E sl d id (pc + 3) L (.int 1 :: st) M := by
  refine mj_Es h ?_
  simp only [mj_stp, mj_gs, ho, if_pos hf]
  rfl
theorem sx_gfr {j k a ci s b : Nat} (h : mj_at id pc = some (.getfield j)) (ho : mj_own id = k) (hf : mj_fT k j = some (ci, s, 1)) (hc : mj_ocl a = ci) (hb : mj_rf a s = b) : mj_E sl d id pc L (.ref a :: st) M = mj_E sl d id (pc + 3) L (.ref b :: st) M := by
  refine mj_Es h ?_
  subst hb
  simp only [mj_stp, mj_gf, ho, hf, if_pos hc, mj_fv]
  rfl
theorem sx_gfl {j k a ci s : Nat} (h : mj_at id pc = some (.getfield j)) (ho : mj_own id = k) (hf : mj_fT k j = some (ci, s, 2)) (hc : mj_ocl a = ci) : mj_E sl d id pc L (.ref a :: st) M = mj_E sl d id (pc + 3) L (.ref (mj_lw (M a s)) :: st) M := by
  refine mj_Es h ?_
  simp only [mj_stp, mj_gf, ho, hf, if_pos hc, mj_fv]
  rfl
theorem sx_pfi {j k a ci s : Nat} {x : Int32} (h : mj_at id pc = some (.putfield j)) (ho : mj_own id = k) (hf : mj_fT k j = some (ci, s, 0)) (hc : mj_ocl a = ci) : mj_E sl d id pc L (.int x :: .ref a :: st) M = mj_E sl d id (pc + 3) L st (mj_st M a s x) := by
  refine mj_Es h ?_
  show mj_pf (mj_own id) j pc L (.int x :: .ref a :: st) M = _
  unfold mj_pf
  rw [ho, hf]
  show (if mj_ocl a = ci ∧ (0 = 0 ∨ (0 = 3 ∧ x &&& 1 = x)) then _ else _) = _
  rw [if_pos ⟨hc, Or.inl rfl⟩]
  rfl
theorem sx_pfz {j k a ci s : Nat} {x : Int32} (h : mj_at id pc = some (.putfield j)) (ho : mj_own id = k) (hf : mj_fT k j = some (ci, s, 3)) (hc : mj_ocl a = ci) (hx : x &&& 1 = x) : mj_E sl d id pc L (.int x :: .ref a :: st) M = mj_E sl d id (pc + 3) L st (mj_st M a s x) := by
  refine mj_Es h ?_
  show mj_pf (mj_own id) j pc L (.int x :: .ref a :: st) M = _
  unfold mj_pf
  rw [ho, hf]
  show (if mj_ocl a = ci ∧ (3 = 0 ∨ (3 = 3 ∧ x &&& 1 = x)) then _ else _) = _
  rw [if_pos ⟨hc, Or.inr ⟨rfl, hx⟩⟩]
  rfl
theorem sx_pfl {j k a ci s b : Nat} (h : mj_at id pc = some (.putfield j)) (ho : mj_own id = k) (hf : mj_fT k j = some (ci, s, 2)) (hc : mj_ocl a = ci) (hb : b = 29 ∨ b = 38) : mj_E sl d id pc L (.ref b :: .ref a :: st) M = mj_E sl d id (pc + 3) L st (mj_st M a s (if b = 29 then 0 else 1)) := by
  refine mj_Es h ?_
  show mj_pf (mj_own id) j pc L (.ref b :: .ref a :: st) M = _
  unfold mj_pf
  rw [ho, hf]
  show (if mj_ocl a = ci ∧ 2 = 2 ∧ (b = 29 ∨ b = 38) then _ else _) = _
  rw [if_pos ⟨hc, rfl, hb⟩]
  rfl
theorem sx_ild {a n : Nat} {i : Int32} (h : mj_at id pc = some .iaload) (ha : ¬ a = 72) (hn : mj_ial a = n) : mj_E sl d id pc L (.int i :: .ref a :: st) M = if mj_inB i n = true then mj_E sl d id (pc + 1) L (.int (M a i.toNatClampNeg) :: st) M else none := by
  subst hn
  split
  · next hc => exact mj_Es h (by simp only [mj_stp, mj_ild, if_neg ha, if_pos hc]; rfl)
  · next hc => exact mj_En h (by simp only [mj_stp, mj_ild, if_neg ha, if_neg hc])
theorem sx_sld {i : Int32} (h : mj_at id pc = some .iaload) : mj_E sl d id pc L (.int i :: .ref 72 :: st) M = if mj_inB i sl = true then mj_E sl d id (pc + 1) L (.int (M 72 i.toNatClampNeg) :: st) M else none := by
  split
  · next hc => exact mj_Es h (show (if mj_inB i sl = true then _ else _) = _ from if_pos hc)
  · next hc => exact mj_En h (show (if mj_inB i sl = true then _ else _) = _ from if_neg hc)
theorem sx_ist {a n : Nat} {i x : Int32} (h : mj_at id pc = some .iastore) (hn : mj_ial a = n) : mj_E sl d id pc L (.int x :: .int i :: .ref a :: st) M = if mj_inB i n = true then mj_E sl d id (pc + 1) L st (mj_st M a i.toNatClampNeg x) else none := by
  subst hn
  split
  · next hc => exact mj_Es h (by simp only [mj_stp, mj_ist, if_pos hc]; rfl)
  · next hc => exact mj_En h (by simp only [mj_stp, mj_ist, if_neg hc])
theorem sx_bld {a n : Nat} {i : Int32} (h : mj_at id pc = some .baload) (hn : mj_bln a = n) : mj_E sl d id pc L (.int i :: .ref a :: st) M = if mj_inB i n = true then mj_E sl d id (pc + 1) L (.int (M a i.toNatClampNeg) :: st) M else none := by
  subst hn
  split
  · next hc => exact mj_Es h (by simp only [mj_stp, mj_bld, if_pos hc]; rfl)
  · next hc => exact mj_En h (by simp only [mj_stp, mj_bld, if_neg hc])
theorem sx_bst {a n : Nat} {i x : Int32} (h : mj_at id pc = some .bastore) (hn : mj_bal a = n) : mj_E sl d id pc L (.int x :: .int i :: .ref a :: st) M = if mj_inB i n = true then mj_E sl d id (pc + 1) L st (mj_st M a i.toNatClampNeg x.toInt8.toInt32) else none := by
  subst hn
  split
  · next hc => exact mj_Es h (by simp only [mj_stp, mj_bst, if_pos hc]; rfl)
  · next hc => exact mj_En h (by simp only [mj_stp, mj_bst, if_neg hc])
theorem sx_alen {a n : Nat} (h : mj_at id pc = some .arraylength) (ha : ¬ a = 72) (hn : mj_ial a = n) (h0 : ¬ n = 0) : mj_E sl d id pc L (.ref a :: st) M = mj_E sl d id (pc + 1) L (.int (nI n) :: st) M := by
  subst hn
  have h74 : ¬ a = 74 := fun e => h0 (by rw [e]; rfl)
  exact mj_Es h (by simp only [mj_stp, mj_aln, if_neg ha, if_neg h74, if_neg h0]; rfl)
theorem sx_alen74 (h : mj_at id pc = some .arraylength) : mj_E sl d id pc L (.ref 74 :: st) M = mj_E sl d id (pc + 1) L (.int 9 :: st) M := mj_Es h rfl
theorem sx_slen (h : mj_at id pc = some .arraylength) : mj_E sl d id pc L (.ref 72 :: st) M = mj_E sl d id (pc + 1) L (.int (nI sl) :: st) M := mj_Es h rfl
theorem sx_reti {v : Int32} (h : mj_at id pc = some .ireturn) (hr : mj_rt id = 1) : mj_E sl d id pc L [.int v] M = some (v, M) := by
  obtain ⟨me, hm, -, h1, -⟩ := mj_rt_spec hr (by omega)
  refine mj_Er (r := some (.int v)) h ?_
  simp only [mj_stp, mj_rti, hm]
  rw [if_pos (Or.inl (h1 rfl))]
theorem sx_retz {v : Int32} (h : mj_at id pc = some .ireturn) (hr : mj_rt id = 2) (hv : v &&& 1 = v) : mj_E sl d id pc L [.int v] M = some (v, M) := by
  obtain ⟨me, hm, -, -, h1, -⟩ := mj_rt_spec hr (by omega)
  refine mj_Er (r := some (.int v)) h ?_
  simp only [mj_stp, mj_rti, hm]
  rw [if_pos (Or.inr (Or.inl ⟨h1 rfl, hv⟩))]
theorem sx_retg {v : Int32} (h : mj_at id pc = some .ireturn) (hr : mj_rt id = 2) : mj_E sl d id pc L [.int v] M = if v &&& 1 = v then some (v, M) else none := by
  split
  · next hv => exact sx_retz h hr hv
  · next hv =>
    obtain ⟨me, hm, -, -, h1, -⟩ := mj_rt_spec hr (by omega)
    refine mj_En h ?_
    simp only [mj_stp, mj_rti, hm]
    rw [if_neg]
    rintro (h2 | h2 | h2)
    · rw [h1 rfl] at h2; cases h2
    · exact hv h2.2
    · rw [h1 rfl] at h2; cases h2.1
theorem sx_retb {v : Int32} (h : mj_at id pc = some .ireturn) (hr : mj_rt id = 4) (hv : v.toInt8.toInt32 = v) : mj_E sl d id pc L [.int v] M = some (v, M) := by
  obtain ⟨me, hm, -, -, -, -, h1⟩ := mj_rt_spec hr (by omega)
  refine mj_Er (r := some (.int v)) h ?_
  simp only [mj_stp, mj_rti, hm]
  rw [if_pos (Or.inr (Or.inr ⟨h1 rfl, hv⟩))]
theorem sx_retv (h : mj_at id pc = some .return_) (hr : mj_rt id = 0) : mj_E sl d id pc L [] M = some (0, M) := by
  obtain ⟨me, hm, h1, -⟩ := mj_rt_spec hr (by omega)
  refine mj_Er (r := none) h ?_
  simp only [mj_stp, mj_rtv, hm]
  rw [if_pos (h1 rfl)]
theorem mj_k0 {j k y : Nat} (ho : mj_own id = k) (hc : mj_cT k j = some (0, y)) : mj_stp sl d id (.invokevirtual j) pc L st M = mj_vcl y st := by
  show mj_ivv (mj_own id) j st = _
  unfold mj_ivv
  rw [ho, hc]
  rfl
theorem mj_k1 {j k y : Nat} (ho : mj_own id = k) (hc : mj_cT k j = some (1, y)) : mj_stp sl d id (.invokestatic j) pc L st M = mj_scl y st := by
  show mj_ivs d (mj_own id) j pc L st M = _
  unfold mj_ivs
  rw [ho, hc]
  rfl
theorem mj_k2 {j k y : Nat} (ho : mj_own id = k) (hc : mj_cT k j = some (2, y)) : mj_stp sl d id (.invokestatic j) pc L st M = mj_scl y st := by
  show mj_ivs d (mj_own id) j pc L st M = _
  unfold mj_ivs
  rw [ho, hc]
  rfl
theorem mj_k3 {j k y : Nat} (ho : mj_own id = k) (hc : mj_cT k j = some (3, y)) : mj_stp sl d id (.invokestatic j) pc L st M = mj_acp d pc L st M := by
  show mj_ivs d (mj_own id) j pc L st M = _
  unfold mj_ivs
  rw [ho, hc]
  rfl
theorem mj_k5 {j k y : Nat} (ho : mj_own id = k) (hc : mj_cT k j = some (5, y)) : mj_stp sl d id (.invokestatic j) pc L st M = mj_mth mj_mx d pc L st M := by
  show mj_ivs d (mj_own id) j pc L st M = _
  unfold mj_ivs
  rw [ho, hc]
  rfl
theorem mj_k6 {j k y : Nat} (ho : mj_own id = k) (hc : mj_cT k j = some (6, y)) : mj_stp sl d id (.invokestatic j) pc L st M = mj_mth mj_mn d pc L st M := by
  show mj_ivs d (mj_own id) j pc L st M = _
  unfold mj_ivs
  rw [ho, hc]
  rfl
theorem sx_max {j k : Nat} {x y : Int32} (h : mj_at id pc = some (.invokestatic j)) (ho : mj_own id = k) (hc : mj_cT k j = some (5, 0)) (hr : st.length ≤ 8) : mj_E sl (d + 1) id pc L (.int y :: .int x :: st) M = mj_E sl (d + 1) id (pc + 3) L (.int (mj_mx x y) :: st) M := by
  refine mj_Es h ?_
  rw [mj_k5 ho hc]
  unfold mj_mth
  dsimp only
  rw [if_pos ⟨Nat.le_add_left 1 d, hr⟩]
  rfl
theorem sx_min {j k : Nat} {x y : Int32} (h : mj_at id pc = some (.invokestatic j)) (ho : mj_own id = k) (hc : mj_cT k j = some (6, 0)) (hr : st.length ≤ 8) : mj_E sl (d + 1) id pc L (.int y :: .int x :: st) M = mj_E sl (d + 1) id (pc + 3) L (.int (mj_mn x y) :: st) M := by
  refine mj_Es h ?_
  rw [mj_k6 ho hc]
  unfold mj_mth
  dsimp only
  rw [if_pos ⟨Nat.le_add_left 1 d, hr⟩]
  rfl
theorem mj_ksn {j k : Nat} (ho : mj_own id = k) (hc : mj_cT k j = none) : mj_stp sl d id (.invokestatic j) pc L st M = none := by
  show mj_ivs d (mj_own id) j pc L st M = _
  unfold mj_ivs
  rw [ho, hc]
theorem sx_acp {j k a b : Nat} {n dp sp : Int32} {na nb : Nat} (h : mj_at id pc = some (.invokestatic j)) (ho : mj_own id = k) (hc : mj_cT k j = some (3, 0)) (ha : mj_ial a = na) (hb : mj_ial b = nb) (ha0 : na ≠ 0) (hb0 : nb ≠ 0) (hr : st.length ≤ 8) : mj_E sl (d + 1) id pc L (.int n :: .int dp :: .ref b :: .int sp :: .ref a :: st) M = if ¬ sp < 0 ∧ ¬ dp < 0 ∧ ¬ n < 0 ∧ sp.toNatClampNeg + n.toNatClampNeg ≤ na ∧ dp.toNatClampNeg + n.toNatClampNeg ≤ nb then mj_E sl (d + 1) id (pc + 3) L st (mj_cp M a b sp.toNatClampNeg dp.toNatClampNeg n.toNatClampNeg) else none := by
  subst ha; subst hb
  split
  · next hq =>
    refine mj_Es h ?_
    rw [mj_k3 ho hc]
    unfold mj_acp
    dsimp only
    rw [if_pos ⟨Nat.le_add_left 1 d, hr, hq.1, hq.2.1, hq.2.2.1, ha0, hb0, hq.2.2.2.1, hq.2.2.2.2⟩]
    rfl
  · next hq =>
    refine mj_En h ?_
    rw [mj_k3 ho hc]
    unfold mj_acp
    dsimp only
    rw [if_neg]
    rintro ⟨-, -, z1, z2, z3, -, -, z4, z5⟩
    exact hq ⟨z1, z2, z3, z4, z5⟩
theorem sx_v0i {j k y b ci : Nat}  {rest : List Value} (h : mj_at id pc = some (.invokevirtual j)) (ho : mj_own id = k) (hc : mj_cs k j = some (0, y, 0, ci, 1)) (hb : mj_ocl b = ci) (hr : rest.length ≤ 8) : mj_E sl (d + 1) id pc L (.ref b :: rest) M = (mj_C sl d y [.ref b] M).bind (fun q => mj_E sl (d + 1) id (pc + 3) L (.int q.1 :: rest) q.2) := by
  obtain ⟨h1, ⟨me, h2, h3, h4⟩, h5⟩ := mj_cs_spec hc
  refine mj_Eci h h5 ?_
  rw [mj_k0 ho h1]
  unfold mj_vcl
  rw [h2]
  dsimp only
  rw [h3]
  show (if mj_ocl b = me.2.2.2.2.2.2.1 ∧ rest.length ≤ 8 then _ else _) = _
  rw [if_pos ⟨by rw [h4]; exact hb, hr⟩]
  rfl
theorem sx_s0i {j k y : Nat}  {rest : List Value} (h : mj_at id pc = some (.invokestatic j)) (ho : mj_own id = k) (hc : mj_cs k j = some (1, y, 0, 100, 1)) (hr : rest.length ≤ 8) : mj_E sl (d + 1) id pc L (rest) M = (mj_C sl d y [] M).bind (fun q => mj_E sl (d + 1) id (pc + 3) L (.int q.1 :: rest) q.2) := by
  obtain ⟨h1, ⟨me, h2, h3, h4⟩, h5⟩ := mj_cs_spec hc
  refine mj_Eci h h5 ?_
  rw [mj_k1 ho h1]
  unfold mj_scl
  rw [h2]
  dsimp only
  rw [h3, h4]
  rw [if_pos ⟨by simp, hr, rfl⟩]
  rfl
theorem sx_s0in {j k y : Nat}  {rest : List Value} (h : mj_at id pc = some (.invokestatic j)) (ho : mj_own id = k) (hc : mj_cs k j = some (2, y, 0, 100, 1)) (hr : rest.length ≤ 8) : mj_E sl (d + 1) id pc L (rest) M = (mj_C sl d y [] M).bind (fun q => mj_E sl (d + 1) id (pc + 3) L (.int q.1 :: rest) q.2) := by
  obtain ⟨h1, ⟨me, h2, h3, h4⟩, h5⟩ := mj_cs_spec hc
  refine mj_Eci h h5 ?_
  rw [mj_k2 ho h1]
  unfold mj_scl
  rw [h2]
  dsimp only
  rw [h3, h4]
  rw [if_pos ⟨by simp, hr, rfl⟩]
  rfl
theorem sx_v0v {j k y b ci : Nat}  {rest : List Value} (h : mj_at id pc = some (.invokevirtual j)) (ho : mj_own id = k) (hc : mj_cs k j = some (0, y, 0, ci, 0)) (hb : mj_ocl b = ci) (hr : rest.length ≤ 8) : mj_E sl (d + 1) id pc L (.ref b :: rest) M = (mj_C sl d y [.ref b] M).bind (fun q => mj_E sl (d + 1) id (pc + 3) L rest q.2) := by
  obtain ⟨h1, ⟨me, h2, h3, h4⟩, h5⟩ := mj_cs_spec hc
  refine mj_Ecv h h5 ?_
  rw [mj_k0 ho h1]
  unfold mj_vcl
  rw [h2]
  dsimp only
  rw [h3]
  show (if mj_ocl b = me.2.2.2.2.2.2.1 ∧ rest.length ≤ 8 then _ else _) = _
  rw [if_pos ⟨by rw [h4]; exact hb, hr⟩]
  rfl
theorem sx_s0v {j k y : Nat}  {rest : List Value} (h : mj_at id pc = some (.invokestatic j)) (ho : mj_own id = k) (hc : mj_cs k j = some (1, y, 0, 100, 0)) (hr : rest.length ≤ 8) : mj_E sl (d + 1) id pc L (rest) M = (mj_C sl d y [] M).bind (fun q => mj_E sl (d + 1) id (pc + 3) L rest q.2) := by
  obtain ⟨h1, ⟨me, h2, h3, h4⟩, h5⟩ := mj_cs_spec hc
  refine mj_Ecv h h5 ?_
  rw [mj_k1 ho h1]
  unfold mj_scl
  rw [h2]
  dsimp only
  rw [h3, h4]
  rw [if_pos ⟨by simp, hr, rfl⟩]
  rfl
theorem sx_s0vn {j k y : Nat}  {rest : List Value} (h : mj_at id pc = some (.invokestatic j)) (ho : mj_own id = k) (hc : mj_cs k j = some (2, y, 0, 100, 0)) (hr : rest.length ≤ 8) : mj_E sl (d + 1) id pc L (rest) M = (mj_C sl d y [] M).bind (fun q => mj_E sl (d + 1) id (pc + 3) L rest q.2) := by
  obtain ⟨h1, ⟨me, h2, h3, h4⟩, h5⟩ := mj_cs_spec hc
  refine mj_Ecv h h5 ?_
  rw [mj_k2 ho h1]
  unfold mj_scl
  rw [h2]
  dsimp only
  rw [h3, h4]
  rw [if_pos ⟨by simp, hr, rfl⟩]
  rfl
theorem sx_v1i {j k y b ci : Nat} {a1 : Value} {rest : List Value} (h : mj_at id pc = some (.invokevirtual j)) (ho : mj_own id = k) (hc : mj_cs k j = some (0, y, 1, ci, 1)) (hb : mj_ocl b = ci) (hr : rest.length ≤ 8) : mj_E sl (d + 1) id pc L (a1 :: .ref b :: rest) M = (mj_C sl d y [.ref b, a1] M).bind (fun q => mj_E sl (d + 1) id (pc + 3) L (.int q.1 :: rest) q.2) := by
  obtain ⟨h1, ⟨me, h2, h3, h4⟩, h5⟩ := mj_cs_spec hc
  refine mj_Eci h h5 ?_
  rw [mj_k0 ho h1]
  unfold mj_vcl
  rw [h2]
  dsimp only
  rw [h3]
  show (if mj_ocl b = me.2.2.2.2.2.2.1 ∧ rest.length ≤ 8 then _ else _) = _
  rw [if_pos ⟨by rw [h4]; exact hb, hr⟩]
  rfl
theorem sx_s1i {j k y : Nat} {a1 : Value} {rest : List Value} (h : mj_at id pc = some (.invokestatic j)) (ho : mj_own id = k) (hc : mj_cs k j = some (1, y, 1, 100, 1)) (hr : rest.length ≤ 8) : mj_E sl (d + 1) id pc L (a1 :: rest) M = (mj_C sl d y [a1] M).bind (fun q => mj_E sl (d + 1) id (pc + 3) L (.int q.1 :: rest) q.2) := by
  obtain ⟨h1, ⟨me, h2, h3, h4⟩, h5⟩ := mj_cs_spec hc
  refine mj_Eci h h5 ?_
  rw [mj_k1 ho h1]
  unfold mj_scl
  rw [h2]
  dsimp only
  rw [h3, h4]
  rw [if_pos ⟨by simp, hr, rfl⟩]
  rfl
theorem sx_s1in {j k y : Nat} {a1 : Value} {rest : List Value} (h : mj_at id pc = some (.invokestatic j)) (ho : mj_own id = k) (hc : mj_cs k j = some (2, y, 1, 100, 1)) (hr : rest.length ≤ 8) : mj_E sl (d + 1) id pc L (a1 :: rest) M = (mj_C sl d y [a1] M).bind (fun q => mj_E sl (d + 1) id (pc + 3) L (.int q.1 :: rest) q.2) := by
  obtain ⟨h1, ⟨me, h2, h3, h4⟩, h5⟩ := mj_cs_spec hc
  refine mj_Eci h h5 ?_
  rw [mj_k2 ho h1]
  unfold mj_scl
  rw [h2]
  dsimp only
  rw [h3, h4]
  rw [if_pos ⟨by simp, hr, rfl⟩]
  rfl
theorem sx_v1v {j k y b ci : Nat} {a1 : Value} {rest : List Value} (h : mj_at id pc = some (.invokevirtual j)) (ho : mj_own id = k) (hc : mj_cs k j = some (0, y, 1, ci, 0)) (hb : mj_ocl b = ci) (hr : rest.length ≤ 8) : mj_E sl (d + 1) id pc L (a1 :: .ref b :: rest) M = (mj_C sl d y [.ref b, a1] M).bind (fun q => mj_E sl (d + 1) id (pc + 3) L rest q.2) := by
  obtain ⟨h1, ⟨me, h2, h3, h4⟩, h5⟩ := mj_cs_spec hc
  refine mj_Ecv h h5 ?_
  rw [mj_k0 ho h1]
  unfold mj_vcl
  rw [h2]
  dsimp only
  rw [h3]
  show (if mj_ocl b = me.2.2.2.2.2.2.1 ∧ rest.length ≤ 8 then _ else _) = _
  rw [if_pos ⟨by rw [h4]; exact hb, hr⟩]
  rfl
theorem sx_s1v {j k y : Nat} {a1 : Value} {rest : List Value} (h : mj_at id pc = some (.invokestatic j)) (ho : mj_own id = k) (hc : mj_cs k j = some (1, y, 1, 100, 0)) (hr : rest.length ≤ 8) : mj_E sl (d + 1) id pc L (a1 :: rest) M = (mj_C sl d y [a1] M).bind (fun q => mj_E sl (d + 1) id (pc + 3) L rest q.2) := by
  obtain ⟨h1, ⟨me, h2, h3, h4⟩, h5⟩ := mj_cs_spec hc
  refine mj_Ecv h h5 ?_
  rw [mj_k1 ho h1]
  unfold mj_scl
  rw [h2]
  dsimp only
  rw [h3, h4]
  rw [if_pos ⟨by simp, hr, rfl⟩]
  rfl
theorem sx_s1vn {j k y : Nat} {a1 : Value} {rest : List Value} (h : mj_at id pc = some (.invokestatic j)) (ho : mj_own id = k) (hc : mj_cs k j = some (2, y, 1, 100, 0)) (hr : rest.length ≤ 8) : mj_E sl (d + 1) id pc L (a1 :: rest) M = (mj_C sl d y [a1] M).bind (fun q => mj_E sl (d + 1) id (pc + 3) L rest q.2) := by
  obtain ⟨h1, ⟨me, h2, h3, h4⟩, h5⟩ := mj_cs_spec hc
  refine mj_Ecv h h5 ?_
  rw [mj_k2 ho h1]
  unfold mj_scl
  rw [h2]
  dsimp only
  rw [h3, h4]
  rw [if_pos ⟨by simp, hr, rfl⟩]
  rfl
theorem sx_v2i {j k y b ci : Nat} {a1 a2 : Value} {rest : List Value} (h : mj_at id pc = some (.invokevirtual j)) (ho : mj_own id = k) (hc : mj_cs k j = some (0, y, 2, ci, 1)) (hb : mj_ocl b = ci) (hr : rest.length ≤ 8) : mj_E sl (d + 1) id pc L (a2 :: a1 :: .ref b :: rest) M = (mj_C sl d y [.ref b, a1, a2] M).bind (fun q => mj_E sl (d + 1) id (pc + 3) L (.int q.1 :: rest) q.2) := by
  obtain ⟨h1, ⟨me, h2, h3, h4⟩, h5⟩ := mj_cs_spec hc
  refine mj_Eci h h5 ?_
  rw [mj_k0 ho h1]
  unfold mj_vcl
  rw [h2]
  dsimp only
  rw [h3]
  show (if mj_ocl b = me.2.2.2.2.2.2.1 ∧ rest.length ≤ 8 then _ else _) = _
  rw [if_pos ⟨by rw [h4]; exact hb, hr⟩]
  rfl
theorem sx_s2i {j k y : Nat} {a1 a2 : Value} {rest : List Value} (h : mj_at id pc = some (.invokestatic j)) (ho : mj_own id = k) (hc : mj_cs k j = some (1, y, 2, 100, 1)) (hr : rest.length ≤ 8) : mj_E sl (d + 1) id pc L (a2 :: a1 :: rest) M = (mj_C sl d y [a1, a2] M).bind (fun q => mj_E sl (d + 1) id (pc + 3) L (.int q.1 :: rest) q.2) := by
  obtain ⟨h1, ⟨me, h2, h3, h4⟩, h5⟩ := mj_cs_spec hc
  refine mj_Eci h h5 ?_
  rw [mj_k1 ho h1]
  unfold mj_scl
  rw [h2]
  dsimp only
  rw [h3, h4]
  rw [if_pos ⟨by simp, hr, rfl⟩]
  rfl
theorem sx_s2in {j k y : Nat} {a1 a2 : Value} {rest : List Value} (h : mj_at id pc = some (.invokestatic j)) (ho : mj_own id = k) (hc : mj_cs k j = some (2, y, 2, 100, 1)) (hr : rest.length ≤ 8) : mj_E sl (d + 1) id pc L (a2 :: a1 :: rest) M = (mj_C sl d y [a1, a2] M).bind (fun q => mj_E sl (d + 1) id (pc + 3) L (.int q.1 :: rest) q.2) := by
  obtain ⟨h1, ⟨me, h2, h3, h4⟩, h5⟩ := mj_cs_spec hc
  refine mj_Eci h h5 ?_
  rw [mj_k2 ho h1]
  unfold mj_scl
  rw [h2]
  dsimp only
  rw [h3, h4]
  rw [if_pos ⟨by simp, hr, rfl⟩]
  rfl
theorem sx_v2v {j k y b ci : Nat} {a1 a2 : Value} {rest : List Value} (h : mj_at id pc = some (.invokevirtual j)) (ho : mj_own id = k) (hc : mj_cs k j = some (0, y, 2, ci, 0)) (hb : mj_ocl b = ci) (hr : rest.length ≤ 8) : mj_E sl (d + 1) id pc L (a2 :: a1 :: .ref b :: rest) M = (mj_C sl d y [.ref b, a1, a2] M).bind (fun q => mj_E sl (d + 1) id (pc + 3) L rest q.2) := by
  obtain ⟨h1, ⟨me, h2, h3, h4⟩, h5⟩ := mj_cs_spec hc
  refine mj_Ecv h h5 ?_
  rw [mj_k0 ho h1]
  unfold mj_vcl
  rw [h2]
  dsimp only
  rw [h3]
  show (if mj_ocl b = me.2.2.2.2.2.2.1 ∧ rest.length ≤ 8 then _ else _) = _
  rw [if_pos ⟨by rw [h4]; exact hb, hr⟩]
  rfl
theorem sx_s2v {j k y : Nat} {a1 a2 : Value} {rest : List Value} (h : mj_at id pc = some (.invokestatic j)) (ho : mj_own id = k) (hc : mj_cs k j = some (1, y, 2, 100, 0)) (hr : rest.length ≤ 8) : mj_E sl (d + 1) id pc L (a2 :: a1 :: rest) M = (mj_C sl d y [a1, a2] M).bind (fun q => mj_E sl (d + 1) id (pc + 3) L rest q.2) := by
  obtain ⟨h1, ⟨me, h2, h3, h4⟩, h5⟩ := mj_cs_spec hc
  refine mj_Ecv h h5 ?_
  rw [mj_k1 ho h1]
  unfold mj_scl
  rw [h2]
  dsimp only
  rw [h3, h4]
  rw [if_pos ⟨by simp, hr, rfl⟩]
  rfl
theorem sx_s2vn {j k y : Nat} {a1 a2 : Value} {rest : List Value} (h : mj_at id pc = some (.invokestatic j)) (ho : mj_own id = k) (hc : mj_cs k j = some (2, y, 2, 100, 0)) (hr : rest.length ≤ 8) : mj_E sl (d + 1) id pc L (a2 :: a1 :: rest) M = (mj_C sl d y [a1, a2] M).bind (fun q => mj_E sl (d + 1) id (pc + 3) L rest q.2) := by
  obtain ⟨h1, ⟨me, h2, h3, h4⟩, h5⟩ := mj_cs_spec hc
  refine mj_Ecv h h5 ?_
  rw [mj_k2 ho h1]
  unfold mj_scl
  rw [h2]
  dsimp only
  rw [h3, h4]
  rw [if_pos ⟨by simp, hr, rfl⟩]
  rfl
theorem sx_v3i {j k y b ci : Nat} {a1 a2 a3 : Value} {rest : List Value} (h : mj_at id pc = some (.invokevirtual j)) (ho : mj_own id = k) (hc : mj_cs k j = some (0, y, 3, ci, 1)) (hb : mj_ocl b = ci) (hr : rest.length ≤ 8) : mj_E sl (d + 1) id pc L (a3 :: a2 :: a1 :: .ref b :: rest) M = (mj_C sl d y [.ref b, a1, a2, a3] M).bind (fun q => mj_E sl (d + 1) id (pc + 3) L (.int q.1 :: rest) q.2) := by
  obtain ⟨h1, ⟨me, h2, h3, h4⟩, h5⟩ := mj_cs_spec hc
  refine mj_Eci h h5 ?_
  rw [mj_k0 ho h1]
  unfold mj_vcl
  rw [h2]
  dsimp only
  rw [h3]
  show (if mj_ocl b = me.2.2.2.2.2.2.1 ∧ rest.length ≤ 8 then _ else _) = _
  rw [if_pos ⟨by rw [h4]; exact hb, hr⟩]
  rfl
theorem sx_s3i {j k y : Nat} {a1 a2 a3 : Value} {rest : List Value} (h : mj_at id pc = some (.invokestatic j)) (ho : mj_own id = k) (hc : mj_cs k j = some (1, y, 3, 100, 1)) (hr : rest.length ≤ 8) : mj_E sl (d + 1) id pc L (a3 :: a2 :: a1 :: rest) M = (mj_C sl d y [a1, a2, a3] M).bind (fun q => mj_E sl (d + 1) id (pc + 3) L (.int q.1 :: rest) q.2) := by
  obtain ⟨h1, ⟨me, h2, h3, h4⟩, h5⟩ := mj_cs_spec hc
  refine mj_Eci h h5 ?_
  rw [mj_k1 ho h1]
  unfold mj_scl
  rw [h2]
  dsimp only
  rw [h3, h4]
  rw [if_pos ⟨by simp, hr, rfl⟩]
  rfl
theorem sx_s3in {j k y : Nat} {a1 a2 a3 : Value} {rest : List Value} (h : mj_at id pc = some (.invokestatic j)) (ho : mj_own id = k) (hc : mj_cs k j = some (2, y, 3, 100, 1)) (hr : rest.length ≤ 8) : mj_E sl (d + 1) id pc L (a3 :: a2 :: a1 :: rest) M = (mj_C sl d y [a1, a2, a3] M).bind (fun q => mj_E sl (d + 1) id (pc + 3) L (.int q.1 :: rest) q.2) := by
  obtain ⟨h1, ⟨me, h2, h3, h4⟩, h5⟩ := mj_cs_spec hc
  refine mj_Eci h h5 ?_
  rw [mj_k2 ho h1]
  unfold mj_scl
  rw [h2]
  dsimp only
  rw [h3, h4]
  rw [if_pos ⟨by simp, hr, rfl⟩]
  rfl
theorem sx_v3v {j k y b ci : Nat} {a1 a2 a3 : Value} {rest : List Value} (h : mj_at id pc = some (.invokevirtual j)) (ho : mj_own id = k) (hc : mj_cs k j = some (0, y, 3, ci, 0)) (hb : mj_ocl b = ci) (hr : rest.length ≤ 8) : mj_E sl (d + 1) id pc L (a3 :: a2 :: a1 :: .ref b :: rest) M = (mj_C sl d y [.ref b, a1, a2, a3] M).bind (fun q => mj_E sl (d + 1) id (pc + 3) L rest q.2) := by
  obtain ⟨h1, ⟨me, h2, h3, h4⟩, h5⟩ := mj_cs_spec hc
  refine mj_Ecv h h5 ?_
  rw [mj_k0 ho h1]
  unfold mj_vcl
  rw [h2]
  dsimp only
  rw [h3]
  show (if mj_ocl b = me.2.2.2.2.2.2.1 ∧ rest.length ≤ 8 then _ else _) = _
  rw [if_pos ⟨by rw [h4]; exact hb, hr⟩]
  rfl
theorem sx_s3v {j k y : Nat} {a1 a2 a3 : Value} {rest : List Value} (h : mj_at id pc = some (.invokestatic j)) (ho : mj_own id = k) (hc : mj_cs k j = some (1, y, 3, 100, 0)) (hr : rest.length ≤ 8) : mj_E sl (d + 1) id pc L (a3 :: a2 :: a1 :: rest) M = (mj_C sl d y [a1, a2, a3] M).bind (fun q => mj_E sl (d + 1) id (pc + 3) L rest q.2) := by
  obtain ⟨h1, ⟨me, h2, h3, h4⟩, h5⟩ := mj_cs_spec hc
  refine mj_Ecv h h5 ?_
  rw [mj_k1 ho h1]
  unfold mj_scl
  rw [h2]
  dsimp only
  rw [h3, h4]
  rw [if_pos ⟨by simp, hr, rfl⟩]
  rfl
theorem sx_s3vn {j k y : Nat} {a1 a2 a3 : Value} {rest : List Value} (h : mj_at id pc = some (.invokestatic j)) (ho : mj_own id = k) (hc : mj_cs k j = some (2, y, 3, 100, 0)) (hr : rest.length ≤ 8) : mj_E sl (d + 1) id pc L (a3 :: a2 :: a1 :: rest) M = (mj_C sl d y [a1, a2, a3] M).bind (fun q => mj_E sl (d + 1) id (pc + 3) L rest q.2) := by
  obtain ⟨h1, ⟨me, h2, h3, h4⟩, h5⟩ := mj_cs_spec hc
  refine mj_Ecv h h5 ?_
  rw [mj_k2 ho h1]
  unfold mj_scl
  rw [h2]
  dsimp only
  rw [h3, h4]
  rw [if_pos ⟨by simp, hr, rfl⟩]
  rfl
theorem sx_v4i {j k y b ci : Nat} {a1 a2 a3 a4 : Value} {rest : List Value} (h : mj_at id pc = some (.invokevirtual j)) (ho : mj_own id = k) (hc : mj_cs k j = some (0, y, 4, ci, 1)) (hb : mj_ocl b = ci) (hr : rest.length ≤ 8) : mj_E sl (d + 1) id pc L (a4 :: a3 :: a2 :: a1 :: .ref b :: rest) M = (mj_C sl d y [.ref b, a1, a2, a3, a4] M).bind (fun q => mj_E sl (d + 1) id (pc + 3) L (.int q.1 :: rest) q.2) := by
  obtain ⟨h1, ⟨me, h2, h3, h4⟩, h5⟩ := mj_cs_spec hc
  refine mj_Eci h h5 ?_
  rw [mj_k0 ho h1]
  unfold mj_vcl
  rw [h2]
  dsimp only
  rw [h3]
  show (if mj_ocl b = me.2.2.2.2.2.2.1 ∧ rest.length ≤ 8 then _ else _) = _
  rw [if_pos ⟨by rw [h4]; exact hb, hr⟩]
  rfl
theorem sx_s4i {j k y : Nat} {a1 a2 a3 a4 : Value} {rest : List Value} (h : mj_at id pc = some (.invokestatic j)) (ho : mj_own id = k) (hc : mj_cs k j = some (1, y, 4, 100, 1)) (hr : rest.length ≤ 8) : mj_E sl (d + 1) id pc L (a4 :: a3 :: a2 :: a1 :: rest) M = (mj_C sl d y [a1, a2, a3, a4] M).bind (fun q => mj_E sl (d + 1) id (pc + 3) L (.int q.1 :: rest) q.2) := by
  obtain ⟨h1, ⟨me, h2, h3, h4⟩, h5⟩ := mj_cs_spec hc
  refine mj_Eci h h5 ?_
  rw [mj_k1 ho h1]
  unfold mj_scl
  rw [h2]
  dsimp only
  rw [h3, h4]
  rw [if_pos ⟨by simp, hr, rfl⟩]
  rfl
theorem sx_s4in {j k y : Nat} {a1 a2 a3 a4 : Value} {rest : List Value} (h : mj_at id pc = some (.invokestatic j)) (ho : mj_own id = k) (hc : mj_cs k j = some (2, y, 4, 100, 1)) (hr : rest.length ≤ 8) : mj_E sl (d + 1) id pc L (a4 :: a3 :: a2 :: a1 :: rest) M = (mj_C sl d y [a1, a2, a3, a4] M).bind (fun q => mj_E sl (d + 1) id (pc + 3) L (.int q.1 :: rest) q.2) := by
  obtain ⟨h1, ⟨me, h2, h3, h4⟩, h5⟩ := mj_cs_spec hc
  refine mj_Eci h h5 ?_
  rw [mj_k2 ho h1]
  unfold mj_scl
  rw [h2]
  dsimp only
  rw [h3, h4]
  rw [if_pos ⟨by simp, hr, rfl⟩]
  rfl
theorem sx_v4v {j k y b ci : Nat} {a1 a2 a3 a4 : Value} {rest : List Value} (h : mj_at id pc = some (.invokevirtual j)) (ho : mj_own id = k) (hc : mj_cs k j = some (0, y, 4, ci, 0)) (hb : mj_ocl b = ci) (hr : rest.length ≤ 8) : mj_E sl (d + 1) id pc L (a4 :: a3 :: a2 :: a1 :: .ref b :: rest) M = (mj_C sl d y [.ref b, a1, a2, a3, a4] M).bind (fun q => mj_E sl (d + 1) id (pc + 3) L rest q.2) := by
  obtain ⟨h1, ⟨me, h2, h3, h4⟩, h5⟩ := mj_cs_spec hc
  refine mj_Ecv h h5 ?_
  rw [mj_k0 ho h1]
  unfold mj_vcl
  rw [h2]
  dsimp only
  rw [h3]
  show (if mj_ocl b = me.2.2.2.2.2.2.1 ∧ rest.length ≤ 8 then _ else _) = _
  rw [if_pos ⟨by rw [h4]; exact hb, hr⟩]
  rfl
theorem sx_s4v {j k y : Nat} {a1 a2 a3 a4 : Value} {rest : List Value} (h : mj_at id pc = some (.invokestatic j)) (ho : mj_own id = k) (hc : mj_cs k j = some (1, y, 4, 100, 0)) (hr : rest.length ≤ 8) : mj_E sl (d + 1) id pc L (a4 :: a3 :: a2 :: a1 :: rest) M = (mj_C sl d y [a1, a2, a3, a4] M).bind (fun q => mj_E sl (d + 1) id (pc + 3) L rest q.2) := by
  obtain ⟨h1, ⟨me, h2, h3, h4⟩, h5⟩ := mj_cs_spec hc
  refine mj_Ecv h h5 ?_
  rw [mj_k1 ho h1]
  unfold mj_scl
  rw [h2]
  dsimp only
  rw [h3, h4]
  rw [if_pos ⟨by simp, hr, rfl⟩]
  rfl
theorem sx_s4vn {j k y : Nat} {a1 a2 a3 a4 : Value} {rest : List Value} (h : mj_at id pc = some (.invokestatic j)) (ho : mj_own id = k) (hc : mj_cs k j = some (2, y, 4, 100, 0)) (hr : rest.length ≤ 8) : mj_E sl (d + 1) id pc L (a4 :: a3 :: a2 :: a1 :: rest) M = (mj_C sl d y [a1, a2, a3, a4] M).bind (fun q => mj_E sl (d + 1) id (pc + 3) L rest q.2) := by
  obtain ⟨h1, ⟨me, h2, h3, h4⟩, h5⟩ := mj_cs_spec hc
  refine mj_Ecv h h5 ?_
  rw [mj_k2 ho h1]
  unfold mj_scl
  rw [h2]
  dsimp only
  rw [h3, h4]
  rw [if_pos ⟨by simp, hr, rfl⟩]
  rfl
theorem sx_v5i {j k y b ci : Nat} {a1 a2 a3 a4 a5 : Value} {rest : List Value} (h : mj_at id pc = some (.invokevirtual j)) (ho : mj_own id = k) (hc : mj_cs k j = some (0, y, 5, ci, 1)) (hb : mj_ocl b = ci) (hr : rest.length ≤ 8) : mj_E sl (d + 1) id pc L (a5 :: a4 :: a3 :: a2 :: a1 :: .ref b :: rest) M = (mj_C sl d y [.ref b, a1, a2, a3, a4, a5] M).bind (fun q => mj_E sl (d + 1) id (pc + 3) L (.int q.1 :: rest) q.2) := by
  obtain ⟨h1, ⟨me, h2, h3, h4⟩, h5⟩ := mj_cs_spec hc
  refine mj_Eci h h5 ?_
  rw [mj_k0 ho h1]
  unfold mj_vcl
  rw [h2]
  dsimp only
  rw [h3]
  show (if mj_ocl b = me.2.2.2.2.2.2.1 ∧ rest.length ≤ 8 then _ else _) = _
  rw [if_pos ⟨by rw [h4]; exact hb, hr⟩]
  rfl
theorem sx_s5i {j k y : Nat} {a1 a2 a3 a4 a5 : Value} {rest : List Value} (h : mj_at id pc = some (.invokestatic j)) (ho : mj_own id = k) (hc : mj_cs k j = some (1, y, 5, 100, 1)) (hr : rest.length ≤ 8) : mj_E sl (d + 1) id pc L (a5 :: a4 :: a3 :: a2 :: a1 :: rest) M = (mj_C sl d y [a1, a2, a3, a4, a5] M).bind (fun q => mj_E sl (d + 1) id (pc + 3) L (.int q.1 :: rest) q.2) := by
  obtain ⟨h1, ⟨me, h2, h3, h4⟩, h5⟩ := mj_cs_spec hc
  refine mj_Eci h h5 ?_
  rw [mj_k1 ho h1]
  unfold mj_scl
  rw [h2]
  dsimp only
  rw [h3, h4]
  rw [if_pos ⟨by simp, hr, rfl⟩]
  rfl
theorem sx_s5in {j k y : Nat} {a1 a2 a3 a4 a5 : Value} {rest : List Value} (h : mj_at id pc = some (.invokestatic j)) (ho : mj_own id = k) (hc : mj_cs k j = some (2, y, 5, 100, 1)) (hr : rest.length ≤ 8) : mj_E sl (d + 1) id pc L (a5 :: a4 :: a3 :: a2 :: a1 :: rest) M = (mj_C sl d y [a1, a2, a3, a4, a5] M).bind (fun q => mj_E sl (d + 1) id (pc + 3) L (.int q.1 :: rest) q.2) := by
  obtain ⟨h1, ⟨me, h2, h3, h4⟩, h5⟩ := mj_cs_spec hc
  refine mj_Eci h h5 ?_
  rw [mj_k2 ho h1]
  unfold mj_scl
  rw [h2]
  dsimp only
  rw [h3, h4]
  rw [if_pos ⟨by simp, hr, rfl⟩]
  rfl
theorem sx_v5v {j k y b ci : Nat} {a1 a2 a3 a4 a5 : Value} {rest : List Value} (h : mj_at id pc = some (.invokevirtual j)) (ho : mj_own id = k) (hc : mj_cs k j = some (0, y, 5, ci, 0)) (hb : mj_ocl b = ci) (hr : rest.length ≤ 8) : mj_E sl (d + 1) id pc L (a5 :: a4 :: a3 :: a2 :: a1 :: .ref b :: rest) M = (mj_C sl d y [.ref b, a1, a2, a3, a4, a5] M).bind (fun q => mj_E sl (d + 1) id (pc + 3) L rest q.2) := by
  obtain ⟨h1, ⟨me, h2, h3, h4⟩, h5⟩ := mj_cs_spec hc
  refine mj_Ecv h h5 ?_
  rw [mj_k0 ho h1]
  unfold mj_vcl
  rw [h2]
  dsimp only
  rw [h3]
  show (if mj_ocl b = me.2.2.2.2.2.2.1 ∧ rest.length ≤ 8 then _ else _) = _
  rw [if_pos ⟨by rw [h4]; exact hb, hr⟩]
  rfl
theorem sx_s5v {j k y : Nat} {a1 a2 a3 a4 a5 : Value} {rest : List Value} (h : mj_at id pc = some (.invokestatic j)) (ho : mj_own id = k) (hc : mj_cs k j = some (1, y, 5, 100, 0)) (hr : rest.length ≤ 8) : mj_E sl (d + 1) id pc L (a5 :: a4 :: a3 :: a2 :: a1 :: rest) M = (mj_C sl d y [a1, a2, a3, a4, a5] M).bind (fun q => mj_E sl (d + 1) id (pc + 3) L rest q.2) := by
  obtain ⟨h1, ⟨me, h2, h3, h4⟩, h5⟩ := mj_cs_spec hc
  refine mj_Ecv h h5 ?_
  rw [mj_k1 ho h1]
  unfold mj_scl
  rw [h2]
  dsimp only
  rw [h3, h4]
  rw [if_pos ⟨by simp, hr, rfl⟩]
  rfl
theorem sx_s5vn {j k y : Nat} {a1 a2 a3 a4 a5 : Value} {rest : List Value} (h : mj_at id pc = some (.invokestatic j)) (ho : mj_own id = k) (hc : mj_cs k j = some (2, y, 5, 100, 0)) (hr : rest.length ≤ 8) : mj_E sl (d + 1) id pc L (a5 :: a4 :: a3 :: a2 :: a1 :: rest) M = (mj_C sl d y [a1, a2, a3, a4, a5] M).bind (fun q => mj_E sl (d + 1) id (pc + 3) L rest q.2) := by
  obtain ⟨h1, ⟨me, h2, h3, h4⟩, h5⟩ := mj_cs_spec hc
  refine mj_Ecv h h5 ?_
  rw [mj_k2 ho h1]
  unfold mj_scl
  rw [h2]
  dsimp only
  rw [h3, h4]
  rw [if_pos ⟨by simp, hr, rfl⟩]
  rfl
theorem sx_ildk {a n k : Nat} {i : Int32} (h : mj_at id pc = some .iaload) (ha : ¬ a = 72) (hn : mj_ial a = n) (hi : mj_inB i n = true) (hk : i.toNatClampNeg = k) : mj_E sl d id pc L (.int i :: .ref a :: st) M = mj_E sl d id (pc + 1) L (.int (M a k) :: st) M := by
  rw [sx_ild h ha hn, if_pos hi, hk]
theorem sx_istk {a n k : Nat} {i x : Int32} (h : mj_at id pc = some .iastore) (hn : mj_ial a = n) (hi : mj_inB i n = true) (hk : i.toNatClampNeg = k) : mj_E sl d id pc L (.int x :: .int i :: .ref a :: st) M = mj_E sl d id (pc + 1) L st (mj_st M a k x) := by
  rw [sx_ist h hn, if_pos hi, hk]
theorem sx_bldk {a n k : Nat} {i : Int32} (h : mj_at id pc = some .baload) (hn : mj_bln a = n) (hi : mj_inB i n = true) (hk : i.toNatClampNeg = k) : mj_E sl d id pc L (.int i :: .ref a :: st) M = mj_E sl d id (pc + 1) L (.int (M a k) :: st) M := by
  rw [sx_bld h hn, if_pos hi, hk]
theorem mj_sel {α : Type} {c : Prop} [Decidable c] {x a b : α} (h1 : c → x = a) (h2 : ¬ c → x = b) : x = if c then a else b := by
  split
  · next h => exact h1 h
  · next h => exact h2 h
theorem mj_ne {x c : Int32} {n : Int} (h : ¬ x = c) (hc : c.toInt = n) : x.toInt ≠ n := fun e => h (Int32.toInt_inj.mp (e.trans hc.symm))
theorem mj_nes {x : Int32} {n : Int} (h : x.toInt ≠ n) : n ≠ x.toInt := fun e => h e.symm
end MJ2
end
section
theorem ow_0 : mj_own 0 = 8 := by decide +kernel
theorem rt_0 : mj_rt 0 = 1 := by decide +kernel
theorem ow_1 : mj_own 1 = 8 := by decide +kernel
theorem rt_1 : mj_rt 1 = 1 := by decide +kernel
theorem ow_2 : mj_own 2 = 8 := by decide +kernel
theorem rt_2 : mj_rt 2 = 1 := by decide +kernel
theorem ow_3 : mj_own 3 = 8 := by decide +kernel
theorem rt_3 : mj_rt 3 = 1 := by decide +kernel
theorem ow_4 : mj_own 4 = 0 := by decide +kernel
theorem rt_4 : mj_rt 4 = 0 := by decide +kernel
theorem ow_5 : mj_own 5 = 0 := by decide +kernel
theorem rt_5 : mj_rt 5 = 2 := by decide +kernel
theorem ow_6 : mj_own 6 = 0 := by decide +kernel
theorem rt_6 : mj_rt 6 = 0 := by decide +kernel
theorem ow_7 : mj_own 7 = 0 := by decide +kernel
theorem rt_7 : mj_rt 7 = 0 := by decide +kernel
theorem ow_8 : mj_own 8 = 0 := by decide +kernel
theorem rt_8 : mj_rt 8 = 1 := by decide +kernel
theorem ow_9 : mj_own 9 = 0 := by decide +kernel
theorem rt_9 : mj_rt 9 = 1 := by decide +kernel
theorem ow_10 : mj_own 10 = 0 := by decide +kernel
theorem rt_10 : mj_rt 10 = 1 := by decide +kernel
theorem ow_11 : mj_own 11 = 0 := by decide +kernel
theorem rt_11 : mj_rt 11 = 0 := by decide +kernel
theorem ow_12 : mj_own 12 = 0 := by decide +kernel
theorem rt_12 : mj_rt 12 = 2 := by decide +kernel
theorem ow_13 : mj_own 13 = 0 := by decide +kernel
theorem rt_13 : mj_rt 13 = 1 := by decide +kernel
theorem ow_14 : mj_own 14 = 0 := by decide +kernel
theorem rt_14 : mj_rt 14 = 0 := by decide +kernel
theorem ow_15 : mj_own 15 = 0 := by decide +kernel
theorem rt_15 : mj_rt 15 = 0 := by decide +kernel
theorem ow_16 : mj_own 16 = 0 := by decide +kernel
theorem rt_16 : mj_rt 16 = 0 := by decide +kernel
theorem ow_17 : mj_own 17 = 0 := by decide +kernel
theorem rt_17 : mj_rt 17 = 0 := by decide +kernel
theorem ow_18 : mj_own 18 = 0 := by decide +kernel
theorem rt_18 : mj_rt 18 = 0 := by decide +kernel
theorem ow_19 : mj_own 19 = 0 := by decide +kernel
theorem rt_19 : mj_rt 19 = 1 := by decide +kernel
theorem ow_20 : mj_own 20 = 9 := by decide +kernel
theorem rt_20 : mj_rt 20 = 2 := by decide +kernel
theorem ow_21 : mj_own 21 = 9 := by decide +kernel
theorem rt_21 : mj_rt 21 = 1 := by decide +kernel
theorem ow_22 : mj_own 22 = 9 := by decide +kernel
theorem rt_22 : mj_rt 22 = 1 := by decide +kernel
theorem ow_23 : mj_own 23 = 9 := by decide +kernel
theorem rt_23 : mj_rt 23 = 1 := by decide +kernel
theorem ow_24 : mj_own 24 = 9 := by decide +kernel
theorem rt_24 : mj_rt 24 = 1 := by decide +kernel
theorem ow_25 : mj_own 25 = 9 := by decide +kernel
theorem rt_25 : mj_rt 25 = 1 := by decide +kernel
theorem ow_26 : mj_own 26 = 9 := by decide +kernel
theorem rt_26 : mj_rt 26 = 1 := by decide +kernel
theorem ow_27 : mj_own 27 = 9 := by decide +kernel
theorem rt_27 : mj_rt 27 = 1 := by decide +kernel
theorem ow_28 : mj_own 28 = 9 := by decide +kernel
theorem rt_28 : mj_rt 28 = 1 := by decide +kernel
theorem ow_29 : mj_own 29 = 9 := by decide +kernel
theorem rt_29 : mj_rt 29 = 1 := by decide +kernel
theorem ow_30 : mj_own 30 = 9 := by decide +kernel
theorem rt_30 : mj_rt 30 = 1 := by decide +kernel
theorem ow_31 : mj_own 31 = 9 := by decide +kernel
theorem rt_31 : mj_rt 31 = 1 := by decide +kernel
theorem ow_32 : mj_own 32 = 9 := by decide +kernel
theorem rt_32 : mj_rt 32 = 1 := by decide +kernel
theorem ow_33 : mj_own 33 = 9 := by decide +kernel
theorem rt_33 : mj_rt 33 = 1 := by decide +kernel
theorem ow_34 : mj_own 34 = 1 := by decide +kernel
theorem rt_34 : mj_rt 34 = 0 := by decide +kernel
theorem ow_35 : mj_own 35 = 1 := by decide +kernel
theorem rt_35 : mj_rt 35 = 0 := by decide +kernel
theorem ow_36 : mj_own 36 = 1 := by decide +kernel
theorem rt_36 : mj_rt 36 = 0 := by decide +kernel
theorem ow_37 : mj_own 37 = 1 := by decide +kernel
theorem rt_37 : mj_rt 37 = 1 := by decide +kernel
theorem ow_38 : mj_own 38 = 1 := by decide +kernel
theorem rt_38 : mj_rt 38 = 2 := by decide +kernel
theorem ow_39 : mj_own 39 = 1 := by decide +kernel
theorem rt_39 : mj_rt 39 = 1 := by decide +kernel
theorem ow_40 : mj_own 40 = 1 := by decide +kernel
theorem rt_40 : mj_rt 40 = 1 := by decide +kernel
theorem ow_41 : mj_own 41 = 1 := by decide +kernel
theorem rt_41 : mj_rt 41 = 0 := by decide +kernel
theorem ow_42 : mj_own 42 = 1 := by decide +kernel
theorem rt_42 : mj_rt 42 = 0 := by decide +kernel
theorem ow_43 : mj_own 43 = 1 := by decide +kernel
theorem rt_43 : mj_rt 43 = 1 := by decide +kernel
theorem ow_44 : mj_own 44 = 1 := by decide +kernel
theorem rt_44 : mj_rt 44 = 0 := by decide +kernel
theorem ow_45 : mj_own 45 = 1 := by decide +kernel
theorem rt_45 : mj_rt 45 = 0 := by decide +kernel
theorem ow_46 : mj_own 46 = 2 := by decide +kernel
theorem rt_46 : mj_rt 46 = 3 := by decide +kernel
theorem ow_47 : mj_own 47 = 2 := by decide +kernel
theorem rt_47 : mj_rt 47 = 1 := by decide +kernel
theorem ow_48 : mj_own 48 = 2 := by decide +kernel
theorem rt_48 : mj_rt 48 = 1 := by decide +kernel
theorem ow_49 : mj_own 49 = 2 := by decide +kernel
theorem rt_49 : mj_rt 49 = 2 := by decide +kernel
theorem ow_50 : mj_own 50 = 2 := by decide +kernel
theorem rt_50 : mj_rt 50 = 0 := by decide +kernel
theorem ow_51 : mj_own 51 = 2 := by decide +kernel
theorem rt_51 : mj_rt 51 = 0 := by decide +kernel
theorem ow_52 : mj_own 52 = 2 := by decide +kernel
theorem rt_52 : mj_rt 52 = 2 := by decide +kernel
theorem ow_53 : mj_own 53 = 2 := by decide +kernel
theorem rt_53 : mj_rt 53 = 0 := by decide +kernel
theorem ow_54 : mj_own 54 = 2 := by decide +kernel
theorem rt_54 : mj_rt 54 = 0 := by decide +kernel
theorem ow_55 : mj_own 55 = 2 := by decide +kernel
theorem rt_55 : mj_rt 55 = 0 := by decide +kernel
theorem ow_56 : mj_own 56 = 2 := by decide +kernel
theorem rt_56 : mj_rt 56 = 0 := by decide +kernel
theorem ow_57 : mj_own 57 = 2 := by decide +kernel
theorem rt_57 : mj_rt 57 = 0 := by decide +kernel
theorem ow_58 : mj_own 58 = 2 := by decide +kernel
theorem rt_58 : mj_rt 58 = 0 := by decide +kernel
theorem ow_59 : mj_own 59 = 2 := by decide +kernel
theorem rt_59 : mj_rt 59 = 0 := by decide +kernel
theorem ow_60 : mj_own 60 = 2 := by decide +kernel
theorem rt_60 : mj_rt 60 = 0 := by decide +kernel
theorem ow_61 : mj_own 61 = 2 := by decide +kernel
theorem rt_61 : mj_rt 61 = 2 := by decide +kernel
theorem ow_62 : mj_own 62 = 3 := by decide +kernel
theorem rt_62 : mj_rt 62 = 2 := by decide +kernel
theorem ow_63 : mj_own 63 = 3 := by decide +kernel
theorem rt_63 : mj_rt 63 = 0 := by decide +kernel
theorem ow_64 : mj_own 64 = 3 := by decide +kernel
theorem rt_64 : mj_rt 64 = 1 := by decide +kernel
theorem ow_65 : mj_own 65 = 3 := by decide +kernel
theorem rt_65 : mj_rt 65 = 1 := by decide +kernel
theorem ow_66 : mj_own 66 = 3 := by decide +kernel
theorem rt_66 : mj_rt 66 = 1 := by decide +kernel
theorem ow_67 : mj_own 67 = 4 := by decide +kernel
theorem rt_67 : mj_rt 67 = 1 := by decide +kernel
theorem ow_68 : mj_own 68 = 4 := by decide +kernel
theorem rt_68 : mj_rt 68 = 1 := by decide +kernel
theorem ow_69 : mj_own 69 = 4 := by decide +kernel
theorem rt_69 : mj_rt 69 = 1 := by decide +kernel
theorem ow_70 : mj_own 70 = 4 := by decide +kernel
theorem rt_70 : mj_rt 70 = 1 := by decide +kernel
theorem ow_71 : mj_own 71 = 4 := by decide +kernel
theorem rt_71 : mj_rt 71 = 1 := by decide +kernel
theorem ow_72 : mj_own 72 = 4 := by decide +kernel
theorem rt_72 : mj_rt 72 = 1 := by decide +kernel
theorem ow_73 : mj_own 73 = 5 := by decide +kernel
theorem rt_73 : mj_rt 73 = 2 := by decide +kernel
theorem ow_74 : mj_own 74 = 5 := by decide +kernel
theorem rt_74 : mj_rt 74 = 0 := by decide +kernel
theorem ow_75 : mj_own 75 = 5 := by decide +kernel
theorem rt_75 : mj_rt 75 = 2 := by decide +kernel
theorem ow_76 : mj_own 76 = 5 := by decide +kernel
theorem rt_76 : mj_rt 76 = 1 := by decide +kernel
theorem ow_77 : mj_own 77 = 5 := by decide +kernel
theorem rt_77 : mj_rt 77 = 1 := by decide +kernel
theorem ow_78 : mj_own 78 = 6 := by decide +kernel
theorem rt_78 : mj_rt 78 = 2 := by decide +kernel
theorem ow_79 : mj_own 79 = 6 := by decide +kernel
theorem rt_79 : mj_rt 79 = 2 := by decide +kernel
theorem ow_80 : mj_own 80 = 6 := by decide +kernel
theorem rt_80 : mj_rt 80 = 2 := by decide +kernel
theorem ow_81 : mj_own 81 = 6 := by decide +kernel
theorem rt_81 : mj_rt 81 = 1 := by decide +kernel
theorem ow_82 : mj_own 82 = 6 := by decide +kernel
theorem rt_82 : mj_rt 82 = 1 := by decide +kernel
theorem ow_83 : mj_own 83 = 6 := by decide +kernel
theorem rt_83 : mj_rt 83 = 1 := by decide +kernel
theorem ow_84 : mj_own 84 = 6 := by decide +kernel
theorem rt_84 : mj_rt 84 = 1 := by decide +kernel
theorem ow_85 : mj_own 85 = 6 := by decide +kernel
theorem rt_85 : mj_rt 85 = 1 := by decide +kernel
theorem ow_86 : mj_own 86 = 6 := by decide +kernel
theorem rt_86 : mj_rt 86 = 1 := by decide +kernel
theorem ow_87 : mj_own 87 = 6 := by decide +kernel
theorem rt_87 : mj_rt 87 = 2 := by decide +kernel
theorem ow_88 : mj_own 88 = 6 := by decide +kernel
theorem rt_88 : mj_rt 88 = 1 := by decide +kernel
theorem ow_89 : mj_own 89 = 6 := by decide +kernel
theorem rt_89 : mj_rt 89 = 1 := by decide +kernel
theorem ow_90 : mj_own 90 = 6 := by decide +kernel
theorem rt_90 : mj_rt 90 = 1 := by decide +kernel
theorem ow_91 : mj_own 91 = 6 := by decide +kernel
theorem rt_91 : mj_rt 91 = 1 := by decide +kernel
theorem ow_92 : mj_own 92 = 6 := by decide +kernel
theorem rt_92 : mj_rt 92 = 1 := by decide +kernel
theorem ow_93 : mj_own 93 = 6 := by decide +kernel
theorem rt_93 : mj_rt 93 = 1 := by decide +kernel
theorem ow_94 : mj_own 94 = 6 := by decide +kernel
theorem rt_94 : mj_rt 94 = 1 := by decide +kernel
theorem ow_95 : mj_own 95 = 6 := by decide +kernel
theorem rt_95 : mj_rt 95 = 1 := by decide +kernel
theorem ow_96 : mj_own 96 = 6 := by decide +kernel
theorem rt_96 : mj_rt 96 = 1 := by decide +kernel
theorem ow_97 : mj_own 97 = 6 := by decide +kernel
theorem rt_97 : mj_rt 97 = 1 := by decide +kernel
theorem ow_98 : mj_own 98 = 6 := by decide +kernel
theorem rt_98 : mj_rt 98 = 1 := by decide +kernel
theorem ow_99 : mj_own 99 = 6 := by decide +kernel
theorem rt_99 : mj_rt 99 = 1 := by decide +kernel
theorem ow_100 : mj_own 100 = 6 := by decide +kernel
theorem rt_100 : mj_rt 100 = 1 := by decide +kernel
theorem ow_101 : mj_own 101 = 6 := by decide +kernel
theorem rt_101 : mj_rt 101 = 1 := by decide +kernel
theorem ow_102 : mj_own 102 = 6 := by decide +kernel
theorem rt_102 : mj_rt 102 = 1 := by decide +kernel
theorem ow_103 : mj_own 103 = 6 := by decide +kernel
theorem rt_103 : mj_rt 103 = 1 := by decide +kernel
theorem ow_104 : mj_own 104 = 6 := by decide +kernel
theorem rt_104 : mj_rt 104 = 1 := by decide +kernel
theorem ow_105 : mj_own 105 = 6 := by decide +kernel
theorem rt_105 : mj_rt 105 = 1 := by decide +kernel
theorem ow_106 : mj_own 106 = 6 := by decide +kernel
theorem rt_106 : mj_rt 106 = 1 := by decide +kernel
theorem ow_107 : mj_own 107 = 6 := by decide +kernel
theorem rt_107 : mj_rt 107 = 1 := by decide +kernel
theorem ow_108 : mj_own 108 = 6 := by decide +kernel
theorem rt_108 : mj_rt 108 = 1 := by decide +kernel
theorem ow_109 : mj_own 109 = 6 := by decide +kernel
theorem rt_109 : mj_rt 109 = 0 := by decide +kernel
theorem ow_110 : mj_own 110 = 6 := by decide +kernel
theorem rt_110 : mj_rt 110 = 1 := by decide +kernel
theorem ow_111 : mj_own 111 = 6 := by decide +kernel
theorem rt_111 : mj_rt 111 = 1 := by decide +kernel
theorem ow_112 : mj_own 112 = 6 := by decide +kernel
theorem rt_112 : mj_rt 112 = 1 := by decide +kernel
theorem ow_113 : mj_own 113 = 6 := by decide +kernel
theorem rt_113 : mj_rt 113 = 1 := by decide +kernel
theorem ow_114 : mj_own 114 = 6 := by decide +kernel
theorem rt_114 : mj_rt 114 = 1 := by decide +kernel
theorem ow_115 : mj_own 115 = 6 := by decide +kernel
theorem rt_115 : mj_rt 115 = 1 := by decide +kernel
theorem ow_116 : mj_own 116 = 6 := by decide +kernel
theorem rt_116 : mj_rt 116 = 1 := by decide +kernel
theorem ow_117 : mj_own 117 = 6 := by decide +kernel
theorem rt_117 : mj_rt 117 = 1 := by decide +kernel
theorem ow_118 : mj_own 118 = 6 := by decide +kernel
theorem rt_118 : mj_rt 118 = 2 := by decide +kernel
theorem ow_119 : mj_own 119 = 6 := by decide +kernel
theorem rt_119 : mj_rt 119 = 1 := by decide +kernel
theorem ow_120 : mj_own 120 = 6 := by decide +kernel
theorem rt_120 : mj_rt 120 = 2 := by decide +kernel
theorem ow_121 : mj_own 121 = 6 := by decide +kernel
theorem rt_121 : mj_rt 121 = 1 := by decide +kernel
theorem ow_122 : mj_own 122 = 6 := by decide +kernel
theorem rt_122 : mj_rt 122 = 1 := by decide +kernel
theorem ow_123 : mj_own 123 = 6 := by decide +kernel
theorem rt_123 : mj_rt 123 = 1 := by decide +kernel
theorem ow_124 : mj_own 124 = 7 := by decide +kernel
theorem rt_124 : mj_rt 124 = 2 := by decide +kernel
theorem ow_125 : mj_own 125 = 7 := by decide +kernel
theorem rt_125 : mj_rt 125 = 1 := by decide +kernel
theorem ow_126 : mj_own 126 = 7 := by decide +kernel
theorem rt_126 : mj_rt 126 = 1 := by decide +kernel
theorem ow_127 : mj_own 127 = 7 := by decide +kernel
theorem rt_127 : mj_rt 127 = 2 := by decide +kernel
theorem ow_128 : mj_own 128 = 7 := by decide +kernel
theorem rt_128 : mj_rt 128 = 1 := by decide +kernel
theorem ow_129 : mj_own 129 = 7 := by decide +kernel
theorem rt_129 : mj_rt 129 = 0 := by decide +kernel
theorem ow_130 : mj_own 130 = 7 := by decide +kernel
theorem rt_130 : mj_rt 130 = 2 := by decide +kernel
theorem ow_131 : mj_own 131 = 7 := by decide +kernel
theorem rt_131 : mj_rt 131 = 2 := by decide +kernel
theorem ow_132 : mj_own 132 = 7 := by decide +kernel
theorem rt_132 : mj_rt 132 = 2 := by decide +kernel
theorem ow_133 : mj_own 133 = 7 := by decide +kernel
theorem rt_133 : mj_rt 133 = 1 := by decide +kernel
theorem ow_134 : mj_own 134 = 7 := by decide +kernel
theorem rt_134 : mj_rt 134 = 1 := by decide +kernel
theorem ow_135 : mj_own 135 = 7 := by decide +kernel
theorem rt_135 : mj_rt 135 = 1 := by decide +kernel
theorem ow_136 : mj_own 136 = 7 := by decide +kernel
theorem rt_136 : mj_rt 136 = 1 := by decide +kernel
theorem ow_137 : mj_own 137 = 7 := by decide +kernel
theorem rt_137 : mj_rt 137 = 1 := by decide +kernel
theorem ow_138 : mj_own 138 = 7 := by decide +kernel
theorem rt_138 : mj_rt 138 = 2 := by decide +kernel
theorem ow_139 : mj_own 139 = 7 := by decide +kernel
theorem rt_139 : mj_rt 139 = 1 := by decide +kernel
theorem ow_140 : mj_own 140 = 7 := by decide +kernel
theorem rt_140 : mj_rt 140 = 1 := by decide +kernel
theorem ow_141 : mj_own 141 = 7 := by decide +kernel
theorem rt_141 : mj_rt 141 = 2 := by decide +kernel
theorem ow_142 : mj_own 142 = 7 := by decide +kernel
theorem rt_142 : mj_rt 142 = 2 := by decide +kernel
theorem ow_143 : mj_own 143 = 7 := by decide +kernel
theorem rt_143 : mj_rt 143 = 2 := by decide +kernel
theorem ow_144 : mj_own 144 = 7 := by decide +kernel
theorem rt_144 : mj_rt 144 = 0 := by decide +kernel
theorem ow_145 : mj_own 145 = 7 := by decide +kernel
theorem rt_145 : mj_rt 145 = 1 := by decide +kernel
theorem ow_146 : mj_own 146 = 7 := by decide +kernel
theorem rt_146 : mj_rt 146 = 1 := by decide +kernel
theorem ow_147 : mj_own 147 = 7 := by decide +kernel
theorem rt_147 : mj_rt 147 = 1 := by decide +kernel
theorem ow_148 : mj_own 148 = 7 := by decide +kernel
theorem rt_148 : mj_rt 148 = 2 := by decide +kernel
theorem ow_149 : mj_own 149 = 7 := by decide +kernel
theorem rt_149 : mj_rt 149 = 2 := by decide +kernel
theorem ow_150 : mj_own 150 = 7 := by decide +kernel
theorem rt_150 : mj_rt 150 = 2 := by decide +kernel
theorem ow_151 : mj_own 151 = 7 := by decide +kernel
theorem rt_151 : mj_rt 151 = 2 := by decide +kernel
theorem ow_152 : mj_own 152 = 7 := by decide +kernel
theorem rt_152 : mj_rt 152 = 0 := by decide +kernel
theorem ow_153 : mj_own 153 = 7 := by decide +kernel
theorem rt_153 : mj_rt 153 = 2 := by decide +kernel
theorem ow_154 : mj_own 154 = 7 := by decide +kernel
theorem rt_154 : mj_rt 154 = 1 := by decide +kernel
theorem ow_155 : mj_own 155 = 7 := by decide +kernel
theorem rt_155 : mj_rt 155 = 1 := by decide +kernel
theorem ow_156 : mj_own 156 = 7 := by decide +kernel
theorem rt_156 : mj_rt 156 = 1 := by decide +kernel
theorem ow_157 : mj_own 157 = 7 := by decide +kernel
theorem rt_157 : mj_rt 157 = 0 := by decide +kernel
theorem ow_158 : mj_own 158 = 7 := by decide +kernel
theorem rt_158 : mj_rt 158 = 2 := by decide +kernel
theorem ow_159 : mj_own 159 = 7 := by decide +kernel
theorem rt_159 : mj_rt 159 = 2 := by decide +kernel
theorem ow_160 : mj_own 160 = 7 := by decide +kernel
theorem rt_160 : mj_rt 160 = 2 := by decide +kernel
theorem ow_161 : mj_own 161 = 7 := by decide +kernel
theorem rt_161 : mj_rt 161 = 0 := by decide +kernel
theorem ow_162 : mj_own 162 = 7 := by decide +kernel
theorem rt_162 : mj_rt 162 = 0 := by decide +kernel
theorem ow_163 : mj_own 163 = 7 := by decide +kernel
theorem rt_163 : mj_rt 163 = 0 := by decide +kernel
theorem ow_164 : mj_own 164 = 7 := by decide +kernel
theorem rt_164 : mj_rt 164 = 2 := by decide +kernel
theorem ow_165 : mj_own 165 = 7 := by decide +kernel
theorem rt_165 : mj_rt 165 = 2 := by decide +kernel
theorem ow_166 : mj_own 166 = 7 := by decide +kernel
theorem rt_166 : mj_rt 166 = 2 := by decide +kernel
theorem ow_167 : mj_own 167 = 7 := by decide +kernel
theorem rt_167 : mj_rt 167 = 0 := by decide +kernel
theorem ow_168 : mj_own 168 = 7 := by decide +kernel
theorem rt_168 : mj_rt 168 = 1 := by decide +kernel
theorem ow_169 : mj_own 169 = 7 := by decide +kernel
theorem rt_169 : mj_rt 169 = 1 := by decide +kernel
theorem ow_170 : mj_own 170 = 7 := by decide +kernel
theorem rt_170 : mj_rt 170 = 1 := by decide +kernel
theorem ow_171 : mj_own 171 = 7 := by decide +kernel
theorem rt_171 : mj_rt 171 = 1 := by decide +kernel
theorem ow_172 : mj_own 172 = 7 := by decide +kernel
theorem rt_172 : mj_rt 172 = 2 := by decide +kernel
theorem ow_173 : mj_own 173 = 7 := by decide +kernel
theorem rt_173 : mj_rt 173 = 1 := by decide +kernel
theorem ow_174 : mj_own 174 = 7 := by decide +kernel
theorem rt_174 : mj_rt 174 = 2 := by decide +kernel
theorem ow_175 : mj_own 175 = 7 := by decide +kernel
theorem rt_175 : mj_rt 175 = 2 := by decide +kernel
theorem ow_176 : mj_own 176 = 7 := by decide +kernel
theorem rt_176 : mj_rt 176 = 1 := by decide +kernel
theorem ow_177 : mj_own 177 = 7 := by decide +kernel
theorem rt_177 : mj_rt 177 = 1 := by decide +kernel
theorem ow_178 : mj_own 178 = 7 := by decide +kernel
theorem rt_178 : mj_rt 178 = 1 := by decide +kernel
theorem ow_179 : mj_own 179 = 7 := by decide +kernel
theorem rt_179 : mj_rt 179 = 1 := by decide +kernel
theorem ow_180 : mj_own 180 = 7 := by decide +kernel
theorem rt_180 : mj_rt 180 = 1 := by decide +kernel
theorem ow_181 : mj_own 181 = 7 := by decide +kernel
theorem rt_181 : mj_rt 181 = 1 := by decide +kernel
theorem ow_182 : mj_own 182 = 7 := by decide +kernel
theorem rt_182 : mj_rt 182 = 2 := by decide +kernel
theorem ow_183 : mj_own 183 = 7 := by decide +kernel
theorem rt_183 : mj_rt 183 = 2 := by decide +kernel
theorem ow_184 : mj_own 184 = 7 := by decide +kernel
theorem rt_184 : mj_rt 184 = 1 := by decide +kernel
theorem ow_185 : mj_own 185 = 7 := by decide +kernel
theorem rt_185 : mj_rt 185 = 1 := by decide +kernel
theorem ow_186 : mj_own 186 = 7 := by decide +kernel
theorem rt_186 : mj_rt 186 = 0 := by decide +kernel
theorem ow_187 : mj_own 187 = 7 := by decide +kernel
theorem rt_187 : mj_rt 187 = 0 := by decide +kernel
theorem ow_188 : mj_own 188 = 7 := by decide +kernel
theorem rt_188 : mj_rt 188 = 0 := by decide +kernel
theorem ow_189 : mj_own 189 = 7 := by decide +kernel
theorem rt_189 : mj_rt 189 = 0 := by decide +kernel
theorem ow_190 : mj_own 190 = 7 := by decide +kernel
theorem rt_190 : mj_rt 190 = 1 := by decide +kernel
theorem ow_191 : mj_own 191 = 7 := by decide +kernel
theorem rt_191 : mj_rt 191 = 1 := by decide +kernel
theorem ow_192 : mj_own 192 = 7 := by decide +kernel
theorem rt_192 : mj_rt 192 = 1 := by decide +kernel
theorem ow_193 : mj_own 193 = 7 := by decide +kernel
theorem rt_193 : mj_rt 193 = 1 := by decide +kernel
theorem ow_194 : mj_own 194 = 7 := by decide +kernel
theorem rt_194 : mj_rt 194 = 1 := by decide +kernel
theorem ow_195 : mj_own 195 = 7 := by decide +kernel
theorem rt_195 : mj_rt 195 = 1 := by decide +kernel
theorem ow_196 : mj_own 196 = 7 := by decide +kernel
theorem rt_196 : mj_rt 196 = 1 := by decide +kernel
theorem ow_197 : mj_own 197 = 7 := by decide +kernel
theorem rt_197 : mj_rt 197 = 1 := by decide +kernel
theorem ow_198 : mj_own 198 = 7 := by decide +kernel
theorem rt_198 : mj_rt 198 = 1 := by decide +kernel
theorem ow_199 : mj_own 199 = 7 := by decide +kernel
theorem rt_199 : mj_rt 199 = 1 := by decide +kernel
theorem ow_200 : mj_own 200 = 7 := by decide +kernel
theorem rt_200 : mj_rt 200 = 0 := by decide +kernel
theorem ow_201 : mj_own 201 = 7 := by decide +kernel
theorem rt_201 : mj_rt 201 = 1 := by decide +kernel
theorem ow_202 : mj_own 202 = 7 := by decide +kernel
theorem rt_202 : mj_rt 202 = 2 := by decide +kernel
theorem ow_203 : mj_own 203 = 7 := by decide +kernel
theorem rt_203 : mj_rt 203 = 1 := by decide +kernel
theorem ow_204 : mj_own 204 = 7 := by decide +kernel
theorem rt_204 : mj_rt 204 = 1 := by decide +kernel
theorem ow_205 : mj_own 205 = 7 := by decide +kernel
theorem rt_205 : mj_rt 205 = 1 := by decide +kernel
theorem ow_206 : mj_own 206 = 7 := by decide +kernel
theorem rt_206 : mj_rt 206 = 1 := by decide +kernel
theorem ow_207 : mj_own 207 = 7 := by decide +kernel
theorem rt_207 : mj_rt 207 = 1 := by decide +kernel
theorem ow_208 : mj_own 208 = 7 := by decide +kernel
theorem rt_208 : mj_rt 208 = 1 := by decide +kernel
theorem ow_209 : mj_own 209 = 7 := by decide +kernel
theorem rt_209 : mj_rt 209 = 1 := by decide +kernel
theorem ow_210 : mj_own 210 = 7 := by decide +kernel
theorem rt_210 : mj_rt 210 = 1 := by decide +kernel
theorem ow_211 : mj_own 211 = 7 := by decide +kernel
theorem rt_211 : mj_rt 211 = 1 := by decide +kernel
theorem ow_212 : mj_own 212 = 7 := by decide +kernel
theorem rt_212 : mj_rt 212 = 2 := by decide +kernel
theorem ow_213 : mj_own 213 = 7 := by decide +kernel
theorem rt_213 : mj_rt 213 = 2 := by decide +kernel
theorem ow_214 : mj_own 214 = 7 := by decide +kernel
theorem rt_214 : mj_rt 214 = 1 := by decide +kernel
theorem ow_215 : mj_own 215 = 7 := by decide +kernel
theorem rt_215 : mj_rt 215 = 1 := by decide +kernel
theorem ow_216 : mj_own 216 = 7 := by decide +kernel
theorem rt_216 : mj_rt 216 = 2 := by decide +kernel
theorem ow_217 : mj_own 217 = 7 := by decide +kernel
theorem rt_217 : mj_rt 217 = 1 := by decide +kernel
theorem ow_218 : mj_own 218 = 7 := by decide +kernel
theorem rt_218 : mj_rt 218 = 1 := by decide +kernel
theorem ow_219 : mj_own 219 = 7 := by decide +kernel
theorem rt_219 : mj_rt 219 = 1 := by decide +kernel
theorem ow_220 : mj_own 220 = 7 := by decide +kernel
theorem rt_220 : mj_rt 220 = 1 := by decide +kernel
theorem ow_221 : mj_own 221 = 7 := by decide +kernel
theorem rt_221 : mj_rt 221 = 1 := by decide +kernel
theorem ow_222 : mj_own 222 = 7 := by decide +kernel
theorem rt_222 : mj_rt 222 = 1 := by decide +kernel
theorem ow_223 : mj_own 223 = 7 := by decide +kernel
theorem rt_223 : mj_rt 223 = 1 := by decide +kernel
theorem ow_224 : mj_own 224 = 7 := by decide +kernel
theorem rt_224 : mj_rt 224 = 2 := by decide +kernel
theorem ow_225 : mj_own 225 = 7 := by decide +kernel
theorem rt_225 : mj_rt 225 = 1 := by decide +kernel
theorem ow_226 : mj_own 226 = 7 := by decide +kernel
theorem rt_226 : mj_rt 226 = 2 := by decide +kernel
theorem ow_227 : mj_own 227 = 7 := by decide +kernel
theorem rt_227 : mj_rt 227 = 1 := by decide +kernel
theorem ow_228 : mj_own 228 = 7 := by decide +kernel
theorem rt_228 : mj_rt 228 = 1 := by decide +kernel
theorem ow_229 : mj_own 229 = 11 := by decide +kernel
theorem rt_229 : mj_rt 229 = 1 := by decide +kernel
theorem ow_230 : mj_own 230 = 13 := by decide +kernel
theorem rt_230 : mj_rt 230 = 0 := by decide +kernel
theorem ow_231 : mj_own 231 = 13 := by decide +kernel
theorem rt_231 : mj_rt 231 = 0 := by decide +kernel
theorem ow_232 : mj_own 232 = 10 := by decide +kernel
theorem rt_232 : mj_rt 232 = 2 := by decide +kernel
theorem ow_233 : mj_own 233 = 14 := by decide +kernel
theorem rt_233 : mj_rt 233 = 1 := by decide +kernel
theorem ow_234 : mj_own 234 = 14 := by decide +kernel
theorem rt_234 : mj_rt 234 = 1 := by decide +kernel
theorem ow_235 : mj_own 235 = 14 := by decide +kernel
theorem rt_235 : mj_rt 235 = 1 := by decide +kernel
theorem ow_236 : mj_own 236 = 14 := by decide +kernel
theorem rt_236 : mj_rt 236 = 4 := by decide +kernel
theorem ow_237 : mj_own 237 = 14 := by decide +kernel
theorem rt_237 : mj_rt 237 = 2 := by decide +kernel
theorem ow_238 : mj_own 238 = 15 := by decide +kernel
theorem rt_238 : mj_rt 238 = 2 := by decide +kernel
theorem ow_239 : mj_own 239 = 15 := by decide +kernel
theorem rt_239 : mj_rt 239 = 1 := by decide +kernel
theorem ow_240 : mj_own 240 = 15 := by decide +kernel
theorem rt_240 : mj_rt 240 = 1 := by decide +kernel
theorem cx_10_13 : mj_cs 10 13 = some (0, 78, 2, 6, 1) := by decide +kernel
theorem cx_6_72 : mj_cs 6 72 = some (1, 20, 1, 100, 1) := by decide +kernel
theorem cx_6_78 : mj_cs 6 78 = some (0, 63, 2, 3, 0) := by decide +kernel
theorem cx_10_18 : mj_cs 10 18 = some (0, 79, 3, 6, 1) := by decide +kernel
theorem cx_6_82 : mj_cs 6 82 = some (0, 6, 3, 0, 0) := by decide +kernel
theorem cx_0_53 : mj_cs 0 53 = some (1, 231, 4, 100, 0) := by decide +kernel
theorem cx_13_13 : mj_cs 13 13 = some (1, 230, 3, 100, 0) := by decide +kernel
theorem cx_10_23 : mj_cs 10 23 = some (0, 80, 3, 6, 1) := by decide +kernel
theorem cx_6_85 : mj_cs 6 85 = some (0, 5, 1, 0, 1) := by decide +kernel
theorem cx_6_88 : mj_cs 6 88 = some (0, 62, 1, 3, 1) := by decide +kernel
theorem cx_6_89 : mj_cs 6 89 = some (0, 7, 3, 0, 0) := by decide +kernel
theorem cx_10_27 : mj_cs 10 27 = some (0, 81, 5, 6, 1) := by decide +kernel
theorem cx_6_92 : mj_cs 6 92 = some (0, 73, 0, 5, 1) := by decide +kernel
theorem cx_6_96 : mj_cs 6 96 = some (0, 74, 1, 5, 0) := by decide +kernel
theorem cx_10_32 : mj_cs 10 32 = some (0, 82, 1, 6, 1) := by decide +kernel
theorem cx_6_104 : mj_cs 6 104 = some (0, 75, 3, 5, 1) := by decide +kernel
theorem cx_6_107 : mj_cs 6 107 = some (0, 47, 1, 2, 1) := by decide +kernel
theorem cx_2_32 : mj_cs 2 32 = some (0, 41, 0, 1, 0) := by decide +kernel
theorem cx_2_35 : mj_cs 2 35 = some (0, 53, 0, 2, 0) := by decide +kernel
theorem cx_2_51 : mj_cs 2 51 = some (0, 48, 0, 2, 1) := by decide +kernel
theorem cx_2_45 : mj_cs 2 45 = some (0, 76, 1, 5, 1) := by decide +kernel
theorem cx_2_59 : mj_cs 2 59 = some (0, 50, 1, 2, 0) := by decide +kernel
theorem cx_2_55 : mj_cs 2 55 = some (2, 123, 2, 100, 1) := by decide +kernel
theorem cx_2_65 : mj_cs 2 65 = some (0, 57, 1, 2, 0) := by decide +kernel
theorem cx_2_98 : mj_cs 2 98 = some (0, 58, 1, 2, 0) := by decide +kernel
theorem cx_2_101 : mj_cs 2 101 = some (0, 59, 1, 2, 0) := by decide +kernel
theorem cx_2_106 : mj_cs 2 106 = some (0, 234, 1, 14, 1) := by decide +kernel
theorem cx_14_633 : mj_cs 14 633 = some (0, 235, 2, 14, 1) := by decide +kernel
theorem cx_14_492 : mj_cs 14 492 = some (0, 237, 0, 14, 1) := by decide +kernel
theorem cx_14_505 : mj_cs 14 505 = some (0, 233, 0, 14, 1) := by decide +kernel
theorem cx_14_335 : mj_cs 14 335 = some (0, 236, 0, 14, 1) := by decide +kernel
theorem cx_14_637 : mj_cs 14 637 = some (1, 239, 4, 100, 1) := by decide +kernel
theorem cx_15_88 : mj_cs 15 88 = some (1, 238, 1, 100, 1) := by decide +kernel
theorem cx5_15_92 : mj_cT 15 92 = some (5, 0) := by decide +kernel
theorem cx6_15_38 : mj_cT 15 38 = some (6, 0) := by decide +kernel
theorem cx_15_95 : mj_cs 15 95 = some (1, 240, 4, 100, 1) := by decide +kernel
theorem cx_2_94 : mj_cs 2 94 = some (0, 52, 1, 2, 1) := by decide +kernel
theorem cx_2_41 : mj_cs 2 41 = some (0, 51, 1, 2, 0) := by decide +kernel
theorem cx_2_111 : mj_cs 2 111 = some (1, 61, 1, 100, 1) := by decide +kernel
theorem cx_2_114 : mj_cs 2 114 = some (0, 60, 0, 2, 0) := by decide +kernel
theorem cx_2_68 : mj_cs 2 68 = some (0, 42, 1, 1, 0) := by decide +kernel
theorem cx_2_81 : mj_cs 2 81 = some (0, 49, 2, 2, 1) := by decide +kernel
theorem cx_2_71 : mj_cs 2 71 = some (0, 54, 1, 2, 0) := by decide +kernel
theorem cx_2_78 : mj_cs 2 78 = some (0, 55, 1, 2, 0) := by decide +kernel
theorem cx_2_91 : mj_cs 2 91 = some (0, 56, 1, 2, 0) := by decide +kernel
theorem cx_2_85 : mj_cs 2 85 = some (0, 43, 1, 1, 1) := by decide +kernel
theorem cx_1_54 : mj_cs 1 54 = some (0, 42, 1, 1, 0) := by decide +kernel
theorem cx_2_88 : mj_cs 2 88 = some (0, 44, 1, 1, 0) := by decide +kernel
theorem cx_2_74 : mj_cs 2 74 = some (0, 45, 3, 1, 0) := by decide +kernel
theorem cx_6_111 : mj_cs 6 111 = some (0, 46, 1, 2, 2) := by decide +kernel
theorem cx_10_37 : mj_cs 10 37 = some (0, 83, 1, 6, 1) := by decide +kernel
theorem cx_6_115 : mj_cs 6 115 = some (0, 67, 2, 4, 1) := by decide +kernel
theorem cx_4_31 : mj_cs 4 31 = some (0, 76, 1, 5, 1) := by decide +kernel
theorem cx_4_37 : mj_cs 4 37 = some (1, 72, 3, 100, 1) := by decide +kernel
theorem cx_4_41 : mj_cs 4 41 = some (0, 68, 1, 4, 1) := by decide +kernel
theorem cx_4_52 : mj_cs 4 52 = some (2, 123, 2, 100, 1) := by decide +kernel
theorem cx_4_44 : mj_cs 4 44 = some (0, 69, 2, 4, 1) := by decide +kernel
theorem cx_4_64 : mj_cs 4 64 = some (0, 71, 3, 4, 1) := by decide +kernel
theorem cx_4_48 : mj_cs 4 48 = some (0, 70, 3, 4, 1) := by decide +kernel
theorem cx3_4_55 : mj_cT 4 55 = some (3, 0) := by decide +kernel
theorem cx_10_41 : mj_cs 10 41 = some (0, 84, 1, 6, 1) := by decide +kernel
theorem cx_6_119 : mj_cs 6 119 = some (0, 4, 1, 0, 0) := by decide +kernel
theorem cx3_0_41 : mj_cT 0 41 = some (3, 0) := by decide +kernel
theorem cx_6_123 : mj_cs 6 123 = some (1, 0, 3, 100, 1) := by decide +kernel
theorem cx_8_11 : mj_cs 8 11 = some (1, 1, 5, 100, 1) := by decide +kernel
theorem cx_8_15 : mj_cs 8 15 = some (0, 76, 1, 5, 1) := by decide +kernel
theorem cx_8_25 : mj_cs 8 25 = some (2, 123, 2, 100, 1) := by decide +kernel
theorem cx_8_42 : mj_cs 8 42 = some (0, 5, 1, 0, 1) := by decide +kernel
theorem cx_8_50 : mj_cs 8 50 = some (0, 62, 1, 3, 1) := by decide +kernel
theorem cx_8_21 : mj_cs 8 21 = some (1, 2, 3, 100, 1) := by decide +kernel
theorem cx_8_29 : mj_cs 8 29 = some (0, 8, 2, 0, 1) := by decide +kernel
theorem cx_8_34 : mj_cs 8 34 = some (1, 3, 4, 100, 1) := by decide +kernel
theorem cx_8_56 : mj_cs 8 56 = some (1, 22, 1, 100, 1) := by decide +kernel
theorem cx_8_59 : mj_cs 8 59 = some (1, 23, 1, 100, 1) := by decide +kernel
theorem cx_8_62 : mj_cs 8 62 = some (1, 26, 1, 100, 1) := by decide +kernel
theorem cx_8_38 : mj_cs 8 38 = some (0, 7, 3, 0, 0) := by decide +kernel
theorem cx_10_45 : mj_cs 10 45 = some (0, 85, 1, 6, 1) := by decide +kernel
theorem cx_6_129 : mj_cs 6 129 = some (0, 14, 2, 0, 0) := by decide +kernel
theorem cx_0_100 : mj_cs 0 100 = some (0, 15, 1, 0, 0) := by decide +kernel
theorem cx_0_88 : mj_cs 0 88 = some (0, 11, 0, 0, 0) := by decide +kernel
theorem cx_0_80 : mj_cs 0 80 = some (0, 9, 1, 0, 1) := by decide +kernel
theorem cx_0_61 : mj_cs 0 61 = some (1, 229, 1, 100, 1) := by decide +kernel
theorem cx_0_83 : mj_cs 0 83 = some (0, 5, 1, 0, 1) := by decide +kernel
theorem cx_0_84 : mj_cs 0 84 = some (0, 12, 2, 0, 1) := by decide +kernel
theorem cx_0_104 : mj_cs 0 104 = some (0, 16, 2, 0, 0) := by decide +kernel
theorem cx_0_113 : mj_cs 0 113 = some (0, 34, 4, 1, 0) := by decide +kernel
theorem cx_0_119 : mj_cs 0 119 = some (0, 35, 2, 1, 0) := by decide +kernel
theorem cx_0_123 : mj_cs 0 123 = some (0, 36, 3, 1, 0) := by decide +kernel
theorem cx_0_127 : mj_cs 0 127 = some (0, 37, 2, 1, 1) := by decide +kernel
theorem cx_1_34 : mj_cs 1 34 = some (0, 39, 1, 1, 1) := by decide +kernel
theorem cx_1_50 : mj_cs 1 50 = some (1, 40, 3, 100, 1) := by decide +kernel
theorem cx6_1_38 : mj_cT 1 38 = some (6, 0) := by decide +kernel
theorem cx5_1_44 : mj_cT 1 44 = some (5, 0) := by decide +kernel
theorem cx6_0_108 : mj_cT 0 108 = some (6, 0) := by decide +kernel
theorem cx_0_67 : mj_cs 0 67 = some (0, 62, 1, 3, 1) := by decide +kernel
theorem cx_0_130 : mj_cs 0 130 = some (0, 17, 3, 0, 0) := by decide +kernel
theorem cx_0_71 : mj_cs 0 71 = some (0, 8, 2, 0, 1) := by decide +kernel
theorem cx_0_134 : mj_cs 0 134 = some (0, 38, 0, 1, 1) := by decide +kernel
theorem cx_0_138 : mj_cs 0 138 = some (0, 19, 0, 0, 1) := by decide +kernel
theorem cx_0_142 : mj_cs 0 142 = some (0, 18, 2, 0, 0) := by decide +kernel
theorem cx_0_145 : mj_cs 0 145 = some (0, 7, 3, 0, 0) := by decide +kernel
theorem cx_10_49 : mj_cs 10 49 = some (0, 86, 2, 6, 1) := by decide +kernel
theorem cx_6_136 : mj_cs 6 136 = some (0, 87, 1, 6, 1) := by decide +kernel
theorem cx_6_145 : mj_cs 6 145 = some (0, 13, 0, 0, 1) := by decide +kernel
theorem cx_6_149 : mj_cs 6 149 = some (0, 88, 2, 6, 1) := by decide +kernel
theorem cx_6_153 : mj_cs 6 153 = some (0, 9, 1, 0, 1) := by decide +kernel
theorem cx_6_156 : mj_cs 6 156 = some (0, 11, 0, 0, 0) := by decide +kernel
theorem cx_10_54 : mj_cs 10 54 = some (0, 89, 2, 6, 1) := by decide +kernel
theorem cx_6_168 : mj_cs 6 168 = some (0, 90, 2, 6, 1) := by decide +kernel
theorem cx_6_172 : mj_cs 6 172 = some (0, 8, 2, 0, 1) := by decide +kernel
theorem cx_6_175 : mj_cs 6 175 = some (0, 64, 1, 3, 1) := by decide +kernel
theorem cx_3_22 : mj_cs 3 22 = some (1, 229, 1, 100, 1) := by decide +kernel
theorem cx_10_58 : mj_cs 10 58 = some (0, 91, 2, 6, 1) := by decide +kernel
theorem cx_10_62 : mj_cs 10 62 = some (0, 92, 1, 6, 1) := by decide +kernel
theorem cx_10_66 : mj_cs 10 66 = some (0, 93, 1, 6, 1) := by decide +kernel
theorem cx_10_70 : mj_cs 10 70 = some (0, 94, 2, 6, 1) := by decide +kernel
theorem cx_6_181 : mj_cs 6 181 = some (1, 21, 2, 100, 1) := by decide +kernel
theorem cx_9_12 : mj_cs 9 12 = some (1, 229, 1, 100, 1) := by decide +kernel
theorem cx_10_74 : mj_cs 10 74 = some (0, 95, 2, 6, 1) := by decide +kernel
theorem cx_6_184 : mj_cs 6 184 = some (0, 97, 1, 6, 1) := by decide +kernel
theorem cx_6_195 : mj_cs 6 195 = some (1, 229, 1, 100, 1) := by decide +kernel
theorem cx_6_191 : mj_cs 6 191 = some (0, 96, 3, 6, 1) := by decide +kernel
theorem cx_10_78 : mj_cs 10 78 = some (0, 98, 2, 6, 1) := by decide +kernel
theorem cx_6_200 : mj_cs 6 200 = some (0, 76, 1, 5, 1) := by decide +kernel
theorem cx_6_203 : mj_cs 6 203 = some (0, 99, 1, 6, 1) := by decide +kernel
theorem cx3_6_209 : mj_cT 6 209 = some (3, 0) := by decide +kernel
theorem cx_6_206 : mj_cs 6 206 = some (0, 100, 1, 6, 1) := by decide +kernel
theorem cx_10_82 : mj_cs 10 82 = some (0, 101, 3, 6, 1) := by decide +kernel
theorem cx_6_215 : mj_cs 6 215 = some (0, 102, 2, 6, 1) := by decide +kernel
theorem cx_6_218 : mj_cs 6 218 = some (0, 65, 2, 3, 1) := by decide +kernel
theorem cx_3_28 : mj_cs 3 28 = some (0, 62, 1, 3, 1) := by decide +kernel
theorem cx_3_32 : mj_cs 3 32 = some (1, 21, 2, 100, 1) := by decide +kernel
theorem cx6_3_36 : mj_cT 3 36 = some (6, 0) := by decide +kernel
theorem cx_6_221 : mj_cs 6 221 = some (0, 103, 3, 6, 1) := by decide +kernel
theorem cx_10_87 : mj_cs 10 87 = some (0, 104, 2, 6, 1) := by decide +kernel
theorem cx_6_228 : mj_cs 6 228 = some (0, 77, 1, 5, 1) := by decide +kernel
theorem cx_5_19 : mj_cs 5 19 = some (0, 76, 1, 5, 1) := by decide +kernel
theorem cx_6_231 : mj_cs 6 231 = some (0, 105, 2, 6, 1) := by decide +kernel
theorem cx_6_235 : mj_cs 6 235 = some (0, 106, 2, 6, 1) := by decide +kernel
theorem cx_10_91 : mj_cs 10 91 = some (0, 107, 2, 6, 1) := by decide +kernel
theorem cx_6_238 : mj_cs 6 238 = some (0, 10, 2, 0, 1) := by decide +kernel
theorem cx_0_75 : mj_cs 0 75 = some (1, 21, 2, 100, 1) := by decide +kernel
theorem cx_10_95 : mj_cs 10 95 = some (0, 108, 2, 6, 1) := by decide +kernel
theorem cx_6_241 : mj_cs 6 241 = some (0, 109, 1, 6, 0) := by decide +kernel
theorem cx_6_244 : mj_cs 6 244 = some (0, 110, 0, 6, 1) := by decide +kernel
theorem cx_6_247 : mj_cs 6 247 = some (0, 111, 1, 6, 1) := by decide +kernel
theorem cx_10_99 : mj_cs 10 99 = some (0, 112, 2, 6, 1) := by decide +kernel
theorem cx_10_103 : mj_cs 10 103 = some (0, 113, 0, 6, 1) := by decide +kernel
theorem cx_10_108 : mj_cs 10 108 = some (0, 114, 2, 6, 1) := by decide +kernel
theorem cx_10_112 : mj_cs 10 112 = some (0, 115, 2, 6, 1) := by decide +kernel
theorem cx_6_250 : mj_cs 6 250 = some (1, 30, 1, 100, 1) := by decide +kernel
theorem cx_9_43 : mj_cs 9 43 = some (1, 29, 2, 100, 1) := by decide +kernel
theorem cx_9_31 : mj_cs 9 31 = some (1, 22, 1, 100, 1) := by decide +kernel
theorem cx_9_34 : mj_cs 9 34 = some (1, 23, 1, 100, 1) := by decide +kernel
theorem cx_9_37 : mj_cs 9 37 = some (1, 24, 1, 100, 1) := by decide +kernel
theorem cx_9_40 : mj_cs 9 40 = some (1, 25, 1, 100, 1) := by decide +kernel
theorem cx_6_253 : mj_cs 6 253 = some (1, 31, 1, 100, 1) := by decide +kernel
theorem cx_6_256 : mj_cs 6 256 = some (1, 32, 1, 100, 1) := by decide +kernel
theorem cx_6_259 : mj_cs 6 259 = some (1, 26, 1, 100, 1) := by decide +kernel
theorem cx_6_262 : mj_cs 6 262 = some (1, 27, 1, 100, 1) := by decide +kernel
theorem cx_6_265 : mj_cs 6 265 = some (1, 33, 1, 100, 1) := by decide +kernel
theorem cx5_9_48 : mj_cT 9 48 = some (5, 0) := by decide +kernel
theorem cx_10_116 : mj_cs 10 116 = some (0, 116, 2, 6, 1) := by decide +kernel
theorem cx_6_268 : mj_cs 6 268 = some (1, 28, 2, 100, 1) := by decide +kernel
theorem cx_9_25 : mj_cs 9 25 = some (1, 26, 1, 100, 1) := by decide +kernel
theorem cx_9_28 : mj_cs 9 28 = some (1, 27, 1, 100, 1) := by decide +kernel
theorem cx_10_120 : mj_cs 10 120 = some (0, 117, 2, 6, 1) := by decide +kernel
theorem cx_6_271 : mj_cs 6 271 = some (0, 66, 1, 3, 1) := by decide +kernel
theorem cx_10_124 : mj_cs 10 124 = some (0, 118, 1, 6, 1) := by decide +kernel
theorem cx_10_129 : mj_cs 10 129 = some (0, 119, 0, 6, 1) := by decide +kernel
theorem cx_10_133 : mj_cs 10 133 = some (0, 120, 0, 6, 1) := by decide +kernel
theorem cx_10_138 : mj_cs 10 138 = some (0, 121, 1, 6, 1) := by decide +kernel
theorem cx_10_142 : mj_cs 10 142 = some (0, 122, 1, 6, 1) := by decide +kernel
theorem cx_10_17 : mj_cs 10 17 = some (0, 141, 2, 7, 1) := by decide +kernel
theorem cx_7_90 : mj_cs 7 90 = some (1, 124, 3, 100, 1) := by decide +kernel
theorem cx_7_120 : mj_cs 7 120 = some (1, 130, 1, 100, 1) := by decide +kernel
theorem cx_10_22 : mj_cs 10 22 = some (0, 142, 3, 7, 1) := by decide +kernel
theorem cx_7_101 : mj_cs 7 101 = some (1, 135, 2, 100, 1) := by decide +kernel
theorem cx_10_26 : mj_cs 10 26 = some (0, 143, 3, 7, 1) := by decide +kernel
theorem cx_7_98 : mj_cs 7 98 = some (0, 132, 1, 7, 1) := by decide +kernel
theorem cx_7_94 : mj_cs 7 94 = some (0, 131, 1, 7, 1) := by decide +kernel
theorem cx_10_31 : mj_cs 10 31 = some (0, 145, 5, 7, 1) := by decide +kernel
theorem cx_7_127 : mj_cs 7 127 = some (0, 144, 1, 7, 0) := by decide +kernel
theorem cx_10_36 : mj_cs 10 36 = some (0, 168, 1, 7, 1) := by decide +kernel
theorem cx_7_214 : mj_cs 7 214 = some (0, 167, 1, 7, 0) := by decide +kernel
theorem cx_7_217 : mj_cs 7 217 = some (0, 166, 0, 7, 1) := by decide +kernel
theorem cx_7_137 : mj_cs 7 137 = some (0, 147, 0, 7, 1) := by decide +kernel
theorem cx_7_144 : mj_cs 7 144 = some (0, 149, 2, 7, 1) := by decide +kernel
theorem cx_7_193 : mj_cs 7 193 = some (0, 160, 0, 7, 1) := by decide +kernel
theorem cx_7_180 : mj_cs 7 180 = some (0, 158, 0, 7, 1) := by decide +kernel
theorem cx_7_171 : mj_cs 7 171 = some (0, 153, 1, 7, 1) := by decide +kernel
theorem cx_7_150 : mj_cs 7 150 = some (0, 148, 0, 7, 1) := by decide +kernel
theorem cx_7_174 : mj_cs 7 174 = some (0, 151, 0, 7, 1) := by decide +kernel
theorem cx_7_167 : mj_cs 7 167 = some (0, 152, 2, 7, 0) := by decide +kernel
theorem cx_7_177 : mj_cs 7 177 = some (1, 155, 1, 100, 1) := by decide +kernel
theorem cx_7_183 : mj_cs 7 183 = some (1, 156, 1, 100, 1) := by decide +kernel
theorem cx_7_186 : mj_cs 7 186 = some (0, 157, 1, 7, 0) := by decide +kernel
theorem cx_7_164 : mj_cs 7 164 = some (0, 154, 0, 7, 1) := by decide +kernel
theorem cx_7_190 : mj_cs 7 190 = some (0, 159, 1, 7, 1) := by decide +kernel
theorem cx_7_211 : mj_cs 7 211 = some (0, 165, 0, 7, 1) := by decide +kernel
theorem cx_7_199 : mj_cs 7 199 = some (0, 164, 0, 7, 1) := by decide +kernel
theorem cx_7_196 : mj_cs 7 196 = some (0, 161, 0, 7, 0) := by decide +kernel
theorem cx_7_202 : mj_cs 7 202 = some (0, 162, 1, 7, 0) := by decide +kernel
theorem cx_7_205 : mj_cs 7 205 = some (0, 163, 1, 7, 0) := by decide +kernel
theorem cx_7_220 : mj_cs 7 220 = some (0, 150, 1, 7, 1) := by decide +kernel
theorem cx_10_40 : mj_cs 10 40 = some (0, 176, 1, 7, 1) := by decide +kernel
theorem cx_7_248 : mj_cs 7 248 = some (0, 175, 0, 7, 1) := by decide +kernel
theorem cx_7_242 : mj_cs 7 242 = some (0, 173, 0, 7, 1) := by decide +kernel
theorem cx_7_233 : mj_cs 7 233 = some (0, 146, 1, 7, 1) := by decide +kernel
theorem cx_7_245 : mj_cs 7 245 = some (0, 174, 3, 7, 1) := by decide +kernel
theorem cx_10_44 : mj_cs 10 44 = some (0, 184, 1, 7, 1) := by decide +kernel
theorem cx_7_275 : mj_cs 7 275 = some (1, 129, 2, 100, 0) := by decide +kernel
theorem cx_7_279 : mj_cs 7 279 = some (0, 183, 0, 7, 1) := by decide +kernel
theorem cx_7_105 : mj_cs 7 105 = some (0, 136, 2, 7, 1) := by decide +kernel
theorem cx_7_269 : mj_cs 7 269 = some (1, 182, 1, 100, 1) := by decide +kernel
theorem cx_7_272 : mj_cs 7 272 = some (1, 181, 2, 100, 1) := by decide +kernel
theorem cx_7_260 : mj_cs 7 260 = some (1, 180, 2, 100, 1) := by decide +kernel
theorem cx_7_254 : mj_cs 7 254 = some (1, 127, 2, 100, 1) := by decide +kernel
theorem cx_7_263 : mj_cs 7 263 = some (1, 178, 1, 100, 1) := by decide +kernel
theorem cx_7_257 : mj_cs 7 257 = some (1, 177, 2, 100, 1) := by decide +kernel
theorem cx_10_48 : mj_cs 10 48 = some (0, 190, 1, 7, 1) := by decide +kernel
theorem cx_7_317 : mj_cs 7 317 = some (0, 189, 1, 7, 0) := by decide +kernel
theorem cx_7_314 : mj_cs 7 314 = some (0, 188, 0, 7, 0) := by decide +kernel
theorem cx_7_305 : mj_cs 7 305 = some (0, 139, 1, 7, 1) := by decide +kernel
theorem cx_7_115 : mj_cs 7 115 = some (0, 138, 2, 7, 1) := by decide +kernel
theorem cx_7_112 : mj_cs 7 112 = some (0, 137, 1, 7, 1) := by decide +kernel
theorem cx_7_108 : mj_cs 7 108 = some (1, 128, 1, 100, 1) := by decide +kernel
theorem cx_7_283 : mj_cs 7 283 = some (0, 186, 4, 7, 0) := by decide +kernel
theorem cx_7_290 : mj_cs 7 290 = some (0, 171, 2, 7, 1) := by decide +kernel
theorem cx_7_230 : mj_cs 7 230 = some (0, 170, 2, 7, 1) := by decide +kernel
theorem cx_7_226 : mj_cs 7 226 = some (1, 169, 3, 100, 1) := by decide +kernel
theorem cx_7_308 : mj_cs 7 308 = some (1, 125, 2, 100, 1) := by decide +kernel
theorem cx_7_311 : mj_cs 7 311 = some (0, 187, 2, 7, 0) := by decide +kernel
theorem cx_7_287 : mj_cs 7 287 = some (0, 172, 1, 7, 1) := by decide +kernel
theorem cx_7_296 : mj_cs 7 296 = some (0, 185, 0, 7, 1) := by decide +kernel
theorem cx_10_53 : mj_cs 10 53 = some (0, 192, 2, 7, 1) := by decide +kernel
theorem cx_7_320 : mj_cs 7 320 = some (0, 191, 0, 7, 1) := by decide +kernel
theorem cx_10_57 : mj_cs 10 57 = some (0, 193, 2, 7, 1) := by decide +kernel
theorem cx_7_323 : mj_cs 7 323 = some (0, 140, 1, 7, 1) := by decide +kernel
theorem cx_10_61 : mj_cs 10 61 = some (0, 194, 2, 7, 1) := by decide +kernel
theorem cx_10_65 : mj_cs 10 65 = some (0, 195, 1, 7, 1) := by decide +kernel
theorem cx_10_69 : mj_cs 10 69 = some (0, 196, 1, 7, 1) := by decide +kernel
theorem cx_10_73 : mj_cs 10 73 = some (0, 197, 2, 7, 1) := by decide +kernel
theorem cx_10_77 : mj_cs 10 77 = some (0, 198, 2, 7, 1) := by decide +kernel
theorem cx_10_81 : mj_cs 10 81 = some (0, 199, 2, 7, 1) := by decide +kernel
theorem cx_10_86 : mj_cs 10 86 = some (0, 201, 3, 7, 1) := by decide +kernel
theorem cx_7_332 : mj_cs 7 332 = some (0, 200, 3, 7, 0) := by decide +kernel
theorem cx_10_90 : mj_cs 10 90 = some (0, 203, 2, 7, 1) := by decide +kernel
theorem cx_7_336 : mj_cs 7 336 = some (0, 133, 0, 7, 1) := by decide +kernel
theorem cx_7_339 : mj_cs 7 339 = some (0, 134, 0, 7, 1) := by decide +kernel
theorem cx_7_342 : mj_cs 7 342 = some (0, 202, 1, 7, 1) := by decide +kernel
theorem cx_10_94 : mj_cs 10 94 = some (0, 205, 2, 7, 1) := by decide +kernel
theorem cx_7_345 : mj_cs 7 345 = some (0, 204, 2, 7, 1) := by decide +kernel
theorem cx_10_98 : mj_cs 10 98 = some (0, 207, 2, 7, 1) := by decide +kernel
theorem cx_7_348 : mj_cs 7 348 = some (0, 206, 2, 7, 1) := by decide +kernel
theorem cx_10_102 : mj_cs 10 102 = some (0, 208, 2, 7, 1) := by decide +kernel
theorem cx_10_107 : mj_cs 10 107 = some (0, 209, 0, 7, 1) := by decide +kernel
theorem cx_10_111 : mj_cs 10 111 = some (0, 210, 2, 7, 1) := by decide +kernel
theorem cx_10_115 : mj_cs 10 115 = some (0, 220, 2, 7, 1) := by decide +kernel
theorem cx_7_371 : mj_cs 7 371 = some (1, 214, 1, 100, 1) := by decide +kernel
theorem cx_7_355 : mj_cs 7 355 = some (1, 211, 3, 100, 1) := by decide +kernel
theorem cx_7_351 : mj_cs 7 351 = some (1, 212, 3, 100, 1) := by decide +kernel
theorem cx_7_359 : mj_cs 7 359 = some (1, 213, 1, 100, 1) := by decide +kernel
theorem cx_7_374 : mj_cs 7 374 = some (1, 215, 1, 100, 1) := by decide +kernel
theorem cx_7_377 : mj_cs 7 377 = some (1, 217, 1, 100, 1) := by decide +kernel
theorem cx_7_362 : mj_cs 7 362 = some (1, 216, 3, 100, 1) := by decide +kernel
theorem cx_7_365 : mj_cs 7 365 = some (1, 126, 2, 100, 1) := by decide +kernel
theorem cx_7_380 : mj_cs 7 380 = some (1, 179, 1, 100, 1) := by decide +kernel
theorem cx_7_383 : mj_cs 7 383 = some (1, 219, 1, 100, 1) := by decide +kernel
theorem cx_7_368 : mj_cs 7 368 = some (1, 218, 2, 100, 1) := by decide +kernel
theorem cx_10_119 : mj_cs 10 119 = some (0, 221, 2, 7, 1) := by decide +kernel
theorem cx_10_123 : mj_cs 10 123 = some (0, 223, 2, 7, 1) := by decide +kernel
theorem cx_7_386 : mj_cs 7 386 = some (0, 222, 1, 7, 1) := by decide +kernel
theorem cx_10_128 : mj_cs 10 128 = some (0, 224, 1, 7, 1) := by decide +kernel
theorem cx_10_132 : mj_cs 10 132 = some (0, 225, 0, 7, 1) := by decide +kernel
theorem cx_10_137 : mj_cs 10 137 = some (0, 226, 0, 7, 1) := by decide +kernel
theorem cx_10_141 : mj_cs 10 141 = some (0, 227, 1, 7, 1) := by decide +kernel
theorem cx_10_145 : mj_cs 10 145 = some (0, 228, 1, 7, 1) := by decide +kernel
theorem cn_14_640 : mj_cT 14 640 = none := by decide +kernel
theorem gs_14_38 : mj_sT 14 38 = true := by decide +kernel
theorem oc_73 : mj_ocl 73 = 14 := rfl
theorem bl_50 : mj_bln 50 = 260 := rfl
theorem bl_74 : mj_bln 74 = 9 := rfl
theorem fx_3_9 : mj_fT 3 9 = some (3, 0, 1) := by decide +kernel
theorem fx_0_56 : mj_fT 0 56 = some (3, 0, 1) := by decide +kernel
theorem fx_6_178 : mj_fT 6 178 = some (3, 0, 1) := by decide +kernel
theorem fx_3_15 : mj_fT 3 15 = some (3, 1, 0) := by decide +kernel
theorem fx_6_224 : mj_fT 6 224 = some (3, 1, 0) := by decide +kernel
theorem fx_0_31 : mj_fT 0 31 = some (0, 0, 1) := by decide +kernel
theorem fx_8_46 : mj_fT 8 46 = some (0, 0, 1) := by decide +kernel
theorem fx_0_9 : mj_fT 0 9 = some (0, 1, 1) := by decide +kernel
theorem fx_6_165 : mj_fT 6 165 = some (0, 1, 1) := by decide +kernel
theorem fx_0_15 : mj_fT 0 15 = some (0, 2, 1) := by decide +kernel
theorem fx_6_162 : mj_fT 6 162 = some (0, 2, 1) := by decide +kernel
theorem fx_0_18 : mj_fT 0 18 = some (0, 3, 1) := by decide +kernel
theorem fx_0_21 : mj_fT 0 21 = some (0, 4, 1) := by decide +kernel
theorem fx_0_24 : mj_fT 0 24 = some (0, 5, 1) := by decide +kernel
theorem fx_6_159 : mj_fT 6 159 = some (0, 5, 1) := by decide +kernel
theorem fx_0_47 : mj_fT 0 47 = some (0, 6, 0) := by decide +kernel
theorem fx_6_227 : mj_fT 6 227 = some (0, 6, 0) := by decide +kernel
theorem fx_0_50 : mj_fT 0 50 = some (0, 7, 0) := by decide +kernel
theorem fx_6_278 : mj_fT 6 278 = some (0, 7, 0) := by decide +kernel
theorem fx_0_27 : mj_fT 0 27 = some (0, 8, 0) := by decide +kernel
theorem fx_6_275 : mj_fT 6 275 = some (0, 8, 0) := by decide +kernel
theorem fx_6_133 : mj_fT 6 133 = some (0, 9, 0) := by decide +kernel
theorem fx_0_91 : mj_fT 0 91 = some (0, 9, 0) := by decide +kernel
theorem fx_6_139 : mj_fT 6 139 = some (0, 10, 0) := by decide +kernel
theorem fx_0_94 : mj_fT 0 94 = some (0, 10, 0) := by decide +kernel
theorem fx_6_142 : mj_fT 6 142 = some (0, 11, 0) := by decide +kernel
theorem fx_0_97 : mj_fT 0 97 = some (0, 11, 0) := by decide +kernel
theorem fx_5_11 : mj_fT 5 11 = some (5, 0, 1) := by decide +kernel
theorem fx_5_15 : mj_fT 5 15 = some (5, 1, 0) := by decide +kernel
theorem fx_6_100 : mj_fT 6 100 = some (5, 1, 0) := by decide +kernel
theorem fx_4_9 : mj_fT 4 9 = some (4, 0, 1) := by decide +kernel
theorem fx_6_188 : mj_fT 6 188 = some (4, 0, 1) := by decide +kernel
theorem fx_4_15 : mj_fT 4 15 = some (4, 1, 1) := by decide +kernel
theorem fx_4_18 : mj_fT 4 18 = some (4, 2, 1) := by decide +kernel
theorem fx_4_21 : mj_fT 4 21 = some (4, 3, 1) := by decide +kernel
theorem fx_4_61 : mj_fT 4 61 = some (4, 4, 0) := by decide +kernel
theorem fx_6_187 : mj_fT 6 187 = some (4, 4, 0) := by decide +kernel
theorem fx_4_24 : mj_fT 4 24 = some (4, 5, 0) := by decide +kernel
theorem fx_4_28 : mj_fT 4 28 = some (4, 6, 0) := by decide +kernel
theorem fx_1_11 : mj_fT 1 11 = some (1, 0, 1) := by decide +kernel
theorem fx_1_15 : mj_fT 1 15 = some (1, 1, 1) := by decide +kernel
theorem fx_1_18 : mj_fT 1 18 = some (1, 2, 1) := by decide +kernel
theorem fx_1_21 : mj_fT 1 21 = some (1, 3, 1) := by decide +kernel
theorem fx_1_24 : mj_fT 1 24 = some (1, 4, 1) := by decide +kernel
theorem fx_1_27 : mj_fT 1 27 = some (1, 5, 1) := by decide +kernel
theorem fx_1_47 : mj_fT 1 47 = some (1, 6, 0) := by decide +kernel
theorem fx_2_62 : mj_fT 2 62 = some (1, 6, 0) := by decide +kernel
theorem fx_2_38 : mj_fT 2 38 = some (1, 7, 0) := by decide +kernel
theorem fx_1_30 : mj_fT 1 30 = some (1, 7, 0) := by decide +kernel
theorem fx_6_281 : mj_fT 6 281 = some (1, 7, 0) := by decide +kernel
theorem fx_2_18 : mj_fT 2 18 = some (2, 0, 1) := by decide +kernel
theorem fx_2_12 : mj_fT 2 12 = some (2, 1, 2) := by decide +kernel
theorem fx_2_22 : mj_fT 2 22 = some (2, 2, 0) := by decide +kernel
theorem fx_2_26 : mj_fT 2 26 = some (2, 3, 0) := by decide +kernel
theorem fx_2_29 : mj_fT 2 29 = some (2, 4, 0) := by decide +kernel
theorem fx_6_10 : mj_fT 6 10 = some (6, 0, 1) := by decide +kernel
theorem fx_6_21 : mj_fT 6 21 = some (6, 1, 1) := by decide +kernel
theorem fx_6_25 : mj_fT 6 25 = some (6, 2, 1) := by decide +kernel
theorem fx_6_28 : mj_fT 6 28 = some (6, 3, 1) := by decide +kernel
theorem fx_6_34 : mj_fT 6 34 = some (6, 4, 1) := by decide +kernel
theorem fx_6_41 : mj_fT 6 41 = some (6, 5, 1) := by decide +kernel
theorem fx_6_50 : mj_fT 6 50 = some (6, 6, 1) := by decide +kernel
theorem fx_6_54 : mj_fT 6 54 = some (6, 7, 1) := by decide +kernel
theorem fx_6_58 : mj_fT 6 58 = some (6, 8, 1) := by decide +kernel
theorem fx_6_64 : mj_fT 6 64 = some (6, 9, 2) := by decide +kernel
theorem fx_6_68 : mj_fT 6 68 = some (6, 10, 3) := by decide +kernel
theorem fx_7_7 : mj_fT 7 7 = some (7, 0, 1) := by decide +kernel
theorem fx_7_13 : mj_fT 7 13 = some (7, 1, 1) := by decide +kernel
theorem fx_7_16 : mj_fT 7 16 = some (7, 2, 1) := by decide +kernel
theorem fx_7_19 : mj_fT 7 19 = some (7, 3, 1) := by decide +kernel
theorem fx_7_22 : mj_fT 7 22 = some (7, 4, 1) := by decide +kernel
theorem fx_7_123 : mj_fT 7 123 = some (7, 5, 0) := by decide +kernel
theorem fx_7_131 : mj_fT 7 131 = some (7, 6, 0) := by decide +kernel
theorem fx_7_134 : mj_fT 7 134 = some (7, 7, 0) := by decide +kernel
theorem fx_7_141 : mj_fT 7 141 = some (7, 8, 0) := by decide +kernel
theorem fx_7_147 : mj_fT 7 147 = some (7, 9, 0) := by decide +kernel
theorem fx_7_158 : mj_fT 7 158 = some (7, 10, 0) := by decide +kernel
theorem fx_7_154 : mj_fT 7 154 = some (7, 11, 0) := by decide +kernel
theorem fx_7_161 : mj_fT 7 161 = some (7, 12, 0) := by decide +kernel
theorem fx_7_208 : mj_fT 7 208 = some (7, 13, 0) := by decide +kernel
theorem fx_7_223 : mj_fT 7 223 = some (7, 14, 0) := by decide +kernel
theorem fx_7_26 : mj_fT 7 26 = some (7, 15, 1) := by decide +kernel
theorem fx_7_29 : mj_fT 7 29 = some (7, 16, 1) := by decide +kernel
theorem fx_7_32 : mj_fT 7 32 = some (7, 17, 1) := by decide +kernel
theorem fx_7_35 : mj_fT 7 35 = some (7, 18, 1) := by decide +kernel
theorem fx_7_38 : mj_fT 7 38 = some (7, 19, 1) := by decide +kernel
theorem fx_7_41 : mj_fT 7 41 = some (7, 20, 1) := by decide +kernel
theorem fx_7_44 : mj_fT 7 44 = some (7, 21, 1) := by decide +kernel
theorem fx_7_47 : mj_fT 7 47 = some (7, 22, 1) := by decide +kernel
theorem fx_7_50 : mj_fT 7 50 = some (7, 23, 1) := by decide +kernel
theorem fx_7_53 : mj_fT 7 53 = some (7, 24, 1) := by decide +kernel
theorem fx_7_56 : mj_fT 7 56 = some (7, 25, 1) := by decide +kernel
theorem fx_7_59 : mj_fT 7 59 = some (7, 26, 1) := by decide +kernel
theorem fx_7_62 : mj_fT 7 62 = some (7, 27, 1) := by decide +kernel
theorem fx_7_65 : mj_fT 7 65 = some (7, 28, 1) := by decide +kernel
theorem fx_7_68 : mj_fT 7 68 = some (7, 29, 1) := by decide +kernel
theorem fx_7_71 : mj_fT 7 71 = some (7, 30, 1) := by decide +kernel
theorem fx_7_74 : mj_fT 7 74 = some (7, 31, 1) := by decide +kernel
theorem fx_7_251 : mj_fT 7 251 = some (7, 32, 0) := by decide +kernel
theorem fx_7_236 : mj_fT 7 236 = some (7, 33, 0) := by decide +kernel
theorem fx_7_239 : mj_fT 7 239 = some (7, 34, 0) := by decide +kernel
theorem fx_7_266 : mj_fT 7 266 = some (7, 35, 0) := by decide +kernel
theorem fx_7_77 : mj_fT 7 77 = some (7, 36, 1) := by decide +kernel
theorem fx_7_299 : mj_fT 7 299 = some (7, 37, 0) := by decide +kernel
theorem fx_7_302 : mj_fT 7 302 = some (7, 38, 0) := by decide +kernel
theorem fx_7_293 : mj_fT 7 293 = some (7, 39, 0) := by decide +kernel
theorem fx_7_80 : mj_fT 7 80 = some (7, 40, 1) := by decide +kernel
theorem fx_7_329 : mj_fT 7 329 = some (7, 41, 0) := by decide +kernel
theorem fx_7_326 : mj_fT 7 326 = some (7, 42, 0) := by decide +kernel
theorem fx_7_83 : mj_fT 7 83 = some (7, 43, 1) := by decide +kernel
theorem fx_7_86 : mj_fT 7 86 = some (7, 44, 1) := by decide +kernel
theorem fx_7_390 : mj_fT 7 390 = some (7, 45, 3) := by decide +kernel
theorem fx_14_15 : mj_fT 14 15 = some (14, 0, 5) := by decide +kernel
theorem fx_14_9 : mj_fT 14 9 = some (14, 1, 4) := by decide +kernel
theorem kx_9_11 : mj_kT 9 11 = some 33554431 := by decide +kernel
theorem kx_8_55 : mj_kT 8 55 = some 33554431 := by decide +kernel
theorem kx_9_18 : mj_kT 9 18 = some (-1082402) := by decide +kernel
theorem kx_9_19 : mj_kT 9 19 = some (-17318417) := by decide +kernel
theorem kx_9_20 : mj_kT 9 20 = some 1082401 := by decide +kernel
theorem kx_9_21 : mj_kT 9 21 = some 2164802 := by decide +kernel
theorem kx_9_22 : mj_kT 9 22 = some 4329604 := by decide +kernel
theorem kx_9_23 : mj_kT 9 23 = some 8659208 := by decide +kernel
theorem kx_9_24 : mj_kT 9 24 = some 17318416 := by decide +kernel
theorem kx_11_265 : mj_kT 11 265 = some 1431655765 := by decide +kernel
theorem kx_11_266 : mj_kT 11 266 = some 858993459 := by decide +kernel
theorem kx_11_267 : mj_kT 11 267 = some 252645135 := by decide +kernel
theorem kx_0_148 : mj_kT 0 148 = some 65535 := by decide +kernel
theorem kx_3_21 : mj_kT 3 21 = some 2147483647 := by decide +kernel
theorem kx_6_234 : mj_kT 6 234 = some 2147483647 := by decide +kernel
theorem kx_9_47 : mj_kT 9 47 = some 33080895 := by decide +kernel
theorem kx_6_274 : mj_kT 6 274 = some 65535 := by decide +kernel
theorem kx_7_89 : mj_kT 7 89 = some 33554431 := by decide +kernel
theorem kx_7_157 : mj_kT 7 157 = some 1048576 := by decide +kernel
theorem kx_7_282 : mj_kT 7 282 = some 65536 := by decide +kernel
theorem kx_7_119 : mj_kT 7 119 = some 1000000 := by decide +kernel
theorem kx_7_389 : mj_kT 7 389 = some 65535 := by decide +kernel
theorem kx_str : mj_kT 2 104 = none := by decide +kernel
theorem oc_0 : mj_ocl 0 = 6 := rfl
theorem oc_1 : mj_ocl 1 = 3 := rfl
theorem ia_2 : mj_ial 2 = 8 := rfl
theorem oc_3 : mj_ocl 3 = 0 := rfl
theorem ia_4 : mj_ial 4 = 10 := rfl
theorem ia_5 : mj_ial 5 = 10 := rfl
theorem ia_6 : mj_ial 6 = 80 := rfl
theorem ia_7 : mj_ial 7 = 10 := rfl
theorem ia_8 : mj_ial 8 = 10 := rfl
theorem oc_9 : mj_ocl 9 = 0 := rfl
theorem ia_10 : mj_ial 10 = 10 := rfl
theorem ia_11 : mj_ial 11 = 10 := rfl
theorem ia_12 : mj_ial 12 = 80 := rfl
theorem ia_13 : mj_ial 13 = 10 := rfl
theorem ia_14 : mj_ial 14 = 10 := rfl
theorem oc_15 : mj_ocl 15 = 0 := rfl
theorem ia_16 : mj_ial 16 = 10 := rfl
theorem ia_17 : mj_ial 17 = 10 := rfl
theorem ia_18 : mj_ial 18 = 80 := rfl
theorem ia_19 : mj_ial 19 = 10 := rfl
theorem ia_20 : mj_ial 20 = 10 := rfl
theorem oc_21 : mj_ocl 21 = 5 := rfl
theorem ia_22 : mj_ial 22 = 260 := rfl
theorem oc_23 : mj_ocl 23 = 4 := rfl
theorem ia_24 : mj_ial 24 = 60 := rfl
theorem ia_25 : mj_ial 25 = 60 := rfl
theorem ia_26 : mj_ial 26 = 2 := rfl
theorem ia_27 : mj_ial 27 = 2 := rfl
theorem oc_28 : mj_ocl 28 = 2 := rfl
theorem oc_29 : mj_ocl 29 = 1 := rfl
theorem ia_30 : mj_ial 30 = 480 := rfl
theorem ia_31 : mj_ial 31 = 32 := rfl
theorem ia_32 : mj_ial 32 = 9 := rfl
theorem ia_33 : mj_ial 33 = 16 := rfl
theorem ia_34 : mj_ial 34 = 16 := rfl
theorem ia_35 : mj_ial 35 = 16 := rfl
theorem ia_36 : mj_ial 36 = 10 := rfl
theorem ia_37 : mj_ial 37 = 60 := rfl
theorem oc_38 : mj_ocl 38 = 1 := rfl
theorem ia_39 : mj_ial 39 = 480 := rfl
theorem ia_40 : mj_ial 40 = 32 := rfl
theorem ia_41 : mj_ial 41 = 9 := rfl
theorem ia_42 : mj_ial 42 = 16 := rfl
theorem ia_43 : mj_ial 43 = 16 := rfl
theorem ia_44 : mj_ial 44 = 16 := rfl
theorem oc_45 : mj_ocl 45 = 7 := rfl
theorem ia_46 : mj_ial 46 = 112 := rfl
theorem ia_47 : mj_ial 47 = 112 := rfl
theorem ia_48 : mj_ial 48 = 112 := rfl
theorem ia_49 : mj_ial 49 = 8 := rfl
theorem ba_50 : mj_bal 50 = 260 := rfl
theorem ia_51 : mj_ial 51 = 260 := rfl
theorem ia_52 : mj_ial 52 = 260 := rfl
theorem ia_53 : mj_ial 53 = 16 := rfl
theorem ia_54 : mj_ial 54 = 16 := rfl
theorem ia_55 : mj_ial 55 = 16 := rfl
theorem ia_56 : mj_ial 56 = 16 := rfl
theorem ia_57 : mj_ial 57 = 260 := rfl
theorem ia_58 : mj_ial 58 = 16 := rfl
theorem ia_59 : mj_ial 59 = 16 := rfl
theorem ia_60 : mj_ial 60 = 16 := rfl
theorem ia_61 : mj_ial 61 = 16 := rfl
theorem ia_62 : mj_ial 62 = 260 := rfl
theorem ia_63 : mj_ial 63 = 9 := rfl
theorem ia_64 : mj_ial 64 = 60 := rfl
theorem ia_65 : mj_ial 65 = 60 := rfl
theorem ia_66 : mj_ial 66 = 2 := rfl
theorem ia_67 : mj_ial 67 = 2 := rfl
theorem ia_68 : mj_ial 68 = 10 := rfl
theorem ia_69 : mj_ial 69 = 60 := rfl
theorem ia_70 : mj_ial 70 = 8 := rfl
theorem ia_71 : mj_ial 71 = 10 := rfl
theorem rb_0_0 : mj_rf 0 0 = 1 := rfl
theorem rb_0_1 : mj_rf 0 1 = 3 := rfl
theorem rb_0_2 : mj_rf 0 2 = 9 := rfl
theorem rb_0_3 : mj_rf 0 3 = 15 := rfl
theorem rb_0_4 : mj_rf 0 4 = 21 := rfl
theorem rb_0_5 : mj_rf 0 5 = 23 := rfl
theorem rb_0_6 : mj_rf 0 6 = 28 := rfl
theorem rb_0_7 : mj_rf 0 7 = 36 := rfl
theorem rb_0_8 : mj_rf 0 8 = 37 := rfl
theorem rb_1_0 : mj_rf 1 0 = 2 := rfl
theorem rb_3_0 : mj_rf 3 0 = 1 := rfl
theorem rb_3_1 : mj_rf 3 1 = 4 := rfl
theorem rb_3_2 : mj_rf 3 2 = 5 := rfl
theorem rb_3_3 : mj_rf 3 3 = 6 := rfl
theorem rb_3_4 : mj_rf 3 4 = 7 := rfl
theorem rb_3_5 : mj_rf 3 5 = 8 := rfl
theorem rb_9_0 : mj_rf 9 0 = 1 := rfl
theorem rb_9_1 : mj_rf 9 1 = 10 := rfl
theorem rb_9_2 : mj_rf 9 2 = 11 := rfl
theorem rb_9_3 : mj_rf 9 3 = 12 := rfl
theorem rb_9_4 : mj_rf 9 4 = 13 := rfl
theorem rb_9_5 : mj_rf 9 5 = 14 := rfl
theorem rb_15_0 : mj_rf 15 0 = 1 := rfl
theorem rb_15_1 : mj_rf 15 1 = 16 := rfl
theorem rb_15_2 : mj_rf 15 2 = 17 := rfl
theorem rb_15_3 : mj_rf 15 3 = 18 := rfl
theorem rb_15_4 : mj_rf 15 4 = 19 := rfl
theorem rb_15_5 : mj_rf 15 5 = 20 := rfl
theorem rb_21_0 : mj_rf 21 0 = 22 := rfl
theorem rb_23_0 : mj_rf 23 0 = 24 := rfl
theorem rb_23_1 : mj_rf 23 1 = 25 := rfl
theorem rb_23_2 : mj_rf 23 2 = 26 := rfl
theorem rb_23_3 : mj_rf 23 3 = 27 := rfl
theorem rb_28_0 : mj_rf 28 0 = 21 := rfl
theorem rb_29_0 : mj_rf 29 0 = 30 := rfl
theorem rb_29_1 : mj_rf 29 1 = 31 := rfl
theorem rb_29_2 : mj_rf 29 2 = 32 := rfl
theorem rb_29_3 : mj_rf 29 3 = 33 := rfl
theorem rb_29_4 : mj_rf 29 4 = 34 := rfl
theorem rb_29_5 : mj_rf 29 5 = 35 := rfl
theorem rb_38_0 : mj_rf 38 0 = 39 := rfl
theorem rb_38_1 : mj_rf 38 1 = 40 := rfl
theorem rb_38_2 : mj_rf 38 2 = 41 := rfl
theorem rb_38_3 : mj_rf 38 3 = 42 := rfl
theorem rb_38_4 : mj_rf 38 4 = 43 := rfl
theorem rb_38_5 : mj_rf 38 5 = 44 := rfl
theorem rb_45_0 : mj_rf 45 0 = 46 := rfl
theorem rb_45_1 : mj_rf 45 1 = 47 := rfl
theorem rb_45_2 : mj_rf 45 2 = 48 := rfl
theorem rb_45_3 : mj_rf 45 3 = 49 := rfl
theorem rb_45_4 : mj_rf 45 4 = 50 := rfl
theorem rb_45_15 : mj_rf 45 15 = 51 := rfl
theorem rb_45_16 : mj_rf 45 16 = 52 := rfl
theorem rb_45_17 : mj_rf 45 17 = 53 := rfl
theorem rb_45_18 : mj_rf 45 18 = 54 := rfl
theorem rb_45_19 : mj_rf 45 19 = 55 := rfl
theorem rb_45_20 : mj_rf 45 20 = 56 := rfl
theorem rb_45_21 : mj_rf 45 21 = 57 := rfl
theorem rb_45_22 : mj_rf 45 22 = 58 := rfl
theorem rb_45_23 : mj_rf 45 23 = 59 := rfl
theorem rb_45_24 : mj_rf 45 24 = 60 := rfl
theorem rb_45_25 : mj_rf 45 25 = 61 := rfl
theorem rb_45_26 : mj_rf 45 26 = 62 := rfl
theorem rb_45_27 : mj_rf 45 27 = 63 := rfl
theorem rb_45_28 : mj_rf 45 28 = 64 := rfl
theorem rb_45_29 : mj_rf 45 29 = 65 := rfl
theorem rb_45_30 : mj_rf 45 30 = 66 := rfl
theorem rb_45_31 : mj_rf 45 31 = 67 := rfl
theorem rb_45_36 : mj_rf 45 36 = 68 := rfl
theorem rb_45_40 : mj_rf 45 40 = 69 := rfl
theorem rb_45_43 : mj_rf 45 43 = 70 := rfl
theorem rb_45_44 : mj_rf 45 44 = 71 := rfl
theorem mj_ocl_lt {a : Nat} (h : mj_ocl a ≠ 100) : a < 75 := by
  rcases Nat.lt_or_ge a 75 with q | q
  · exact q
  · exact absurd (show mj_ocl a = 100 from by
      unfold mj_ocl
      rw [List.getD_eq_getElem?_getD, List.getElem?_eq_none (by exact q)]
      rfl) h
theorem mj_court : ∀ a, a < 75 → mj_ocl a = 0 → a = 3 ∨ a = 9 ∨ a = 15 := by decide +kernel
theorem mj_lawc : ∀ a, a < 75 → mj_ocl a = 1 → a = 29 ∨ a = 38 := by decide +kernel
theorem mj_courtE {a : Nat} (h : mj_ocl a = 0) : a = 3 ∨ a = 9 ∨ a = 15 := mj_court a (mj_ocl_lt (by rw [h]; decide)) h
theorem mj_lawE {a : Nat} (h : mj_ocl a = 1) : a = 29 ∨ a = 38 := mj_lawc a (mj_ocl_lt (by rw [h]; decide)) h
theorem oc_lw (x : Int32) : mj_ocl (mj_lw x) = 1 := by
  unfold mj_lw
  split <;> rfl
theorem rbC_0 {c : Nat} (h : mj_ocl c = 0) : mj_rf c 0 = 1 := by rcases mj_courtE h with rfl | rfl | rfl <;> rfl
theorem rbC_1 {c : Nat} (h : mj_ocl c = 0) : mj_rf c 1 = c + 1 := by rcases mj_courtE h with rfl | rfl | rfl <;> rfl
theorem iaC_1 {c : Nat} (h : mj_ocl c = 0) : mj_ial (c + 1) = 10 := by rcases mj_courtE h with rfl | rfl | rfl <;> rfl
theorem naC_1 {c : Nat} (h : mj_ocl c = 0) : ¬ c + 1 = 72 := by rcases mj_courtE h with rfl | rfl | rfl <;> decide
theorem rbC_2 {c : Nat} (h : mj_ocl c = 0) : mj_rf c 2 = c + 2 := by rcases mj_courtE h with rfl | rfl | rfl <;> rfl
theorem iaC_2 {c : Nat} (h : mj_ocl c = 0) : mj_ial (c + 2) = 10 := by rcases mj_courtE h with rfl | rfl | rfl <;> rfl
theorem naC_2 {c : Nat} (h : mj_ocl c = 0) : ¬ c + 2 = 72 := by rcases mj_courtE h with rfl | rfl | rfl <;> decide
theorem rbC_3 {c : Nat} (h : mj_ocl c = 0) : mj_rf c 3 = c + 3 := by rcases mj_courtE h with rfl | rfl | rfl <;> rfl
theorem iaC_3 {c : Nat} (h : mj_ocl c = 0) : mj_ial (c + 3) = 80 := by rcases mj_courtE h with rfl | rfl | rfl <;> rfl
theorem naC_3 {c : Nat} (h : mj_ocl c = 0) : ¬ c + 3 = 72 := by rcases mj_courtE h with rfl | rfl | rfl <;> decide
theorem rbC_4 {c : Nat} (h : mj_ocl c = 0) : mj_rf c 4 = c + 4 := by rcases mj_courtE h with rfl | rfl | rfl <;> rfl
theorem iaC_4 {c : Nat} (h : mj_ocl c = 0) : mj_ial (c + 4) = 10 := by rcases mj_courtE h with rfl | rfl | rfl <;> rfl
theorem naC_4 {c : Nat} (h : mj_ocl c = 0) : ¬ c + 4 = 72 := by rcases mj_courtE h with rfl | rfl | rfl <;> decide
theorem rbC_5 {c : Nat} (h : mj_ocl c = 0) : mj_rf c 5 = c + 5 := by rcases mj_courtE h with rfl | rfl | rfl <;> rfl
theorem iaC_5 {c : Nat} (h : mj_ocl c = 0) : mj_ial (c + 5) = 10 := by rcases mj_courtE h with rfl | rfl | rfl <;> rfl
theorem naC_5 {c : Nat} (h : mj_ocl c = 0) : ¬ c + 5 = 72 := by rcases mj_courtE h with rfl | rfl | rfl <;> decide
theorem rbL_0 {c : Nat} (h : mj_ocl c = 1) : mj_rf c 0 = c + 1 := by rcases mj_lawE h with rfl | rfl <;> rfl
theorem iaL_0 {c : Nat} (h : mj_ocl c = 1) : mj_ial (c + 1) = 480 := by rcases mj_lawE h with rfl | rfl <;> rfl
theorem naL_0 {c : Nat} (h : mj_ocl c = 1) : ¬ c + 1 = 72 := by rcases mj_lawE h with rfl | rfl <;> decide
theorem rbL_1 {c : Nat} (h : mj_ocl c = 1) : mj_rf c 1 = c + 2 := by rcases mj_lawE h with rfl | rfl <;> rfl
theorem iaL_1 {c : Nat} (h : mj_ocl c = 1) : mj_ial (c + 2) = 32 := by rcases mj_lawE h with rfl | rfl <;> rfl
theorem naL_1 {c : Nat} (h : mj_ocl c = 1) : ¬ c + 2 = 72 := by rcases mj_lawE h with rfl | rfl <;> decide
theorem rbL_2 {c : Nat} (h : mj_ocl c = 1) : mj_rf c 2 = c + 3 := by rcases mj_lawE h with rfl | rfl <;> rfl
theorem iaL_2 {c : Nat} (h : mj_ocl c = 1) : mj_ial (c + 3) = 9 := by rcases mj_lawE h with rfl | rfl <;> rfl
theorem naL_2 {c : Nat} (h : mj_ocl c = 1) : ¬ c + 3 = 72 := by rcases mj_lawE h with rfl | rfl <;> decide
theorem rbL_3 {c : Nat} (h : mj_ocl c = 1) : mj_rf c 3 = c + 4 := by rcases mj_lawE h with rfl | rfl <;> rfl
theorem iaL_3 {c : Nat} (h : mj_ocl c = 1) : mj_ial (c + 4) = 16 := by rcases mj_lawE h with rfl | rfl <;> rfl
theorem naL_3 {c : Nat} (h : mj_ocl c = 1) : ¬ c + 4 = 72 := by rcases mj_lawE h with rfl | rfl <;> decide
theorem rbL_4 {c : Nat} (h : mj_ocl c = 1) : mj_rf c 4 = c + 5 := by rcases mj_lawE h with rfl | rfl <;> rfl
theorem iaL_4 {c : Nat} (h : mj_ocl c = 1) : mj_ial (c + 5) = 16 := by rcases mj_lawE h with rfl | rfl <;> rfl
theorem naL_4 {c : Nat} (h : mj_ocl c = 1) : ¬ c + 5 = 72 := by rcases mj_lawE h with rfl | rfl <;> decide
theorem rbL_5 {c : Nat} (h : mj_ocl c = 1) : mj_rf c 5 = c + 6 := by rcases mj_lawE h with rfl | rfl <;> rfl
theorem iaL_5 {c : Nat} (h : mj_ocl c = 1) : mj_ial (c + 6) = 16 := by rcases mj_lawE h with rfl | rfl <;> rfl
theorem naL_5 {c : Nat} (h : mj_ocl c = 1) : ¬ c + 6 = 72 := by rcases mj_lawE h with rfl | rfl <;> decide
end
section
def mj_T0 : u_T := fun k => match k with
  | 0 => ("CourtHand$Court", "models", "LCourtHand$Models;", true)
  | 1 => ("CourtHand$Court", "age", "[I", true)
  | 2 => ("CourtHand$Court", "ink", "[I", true)
  | 3 => ("CourtHand$Court", "forms", "[I", true)
  | 4 => ("CourtHand$Court", "faults", "[I", true)
  | 5 => ("CourtHand$Court", "ranks", "[I", true)
  | 6 => ("CourtHand$Court", "told", "I", false)
  | 7 => ("CourtHand$Court", "moon", "I", false)
  | 8 => ("CourtHand$Court", "x", "I", false)
  | 9 => ("CourtHand$Court", "mended", "I", false)
  | 10 => ("CourtHand$Court", "spoiled", "I", false)
  | _ => ("CourtHand$Court", "used", "I", false)
def mj_ty0 : Nat → FieldType := fun k => match k with
  | 0 => .object "CourtHand$Models"
  | 1 => .array .int
  | 2 => .array .int
  | 3 => .array .int
  | 4 => .array .int
  | 5 => .array .int
  | 6 => .int
  | 7 => .int
  | 8 => .int
  | 9 => .int
  | 10 => .int
  | _ => .int
theorem mj_ty0_ok : ∀ k, k < 12 → parseFieldDescriptor (mj_T0 k).2.2.1 = some (mj_ty0 k) := by decide +kernel
theorem mj_nm0 : ∀ a, a < 12 → ∀ b, b < 12 → a ≠ b → (mj_T0 a).2.1 ≠ (mj_T0 b).2.1 := by decide +kernel
def mj_T1 : u_T := fun k => match k with
  | 0 => ("CourtHand$Law", "code", "[I", true)
  | 1 => ("CourtHand$Law", "stack", "[I", true)
  | 2 => ("CourtHand$Law", "known", "[I", true)
  | 3 => ("CourtHand$Law", "kinds", "[I", true)
  | 4 => ("CourtHand$Law", "amounts", "[I", true)
  | 5 => ("CourtHand$Law", "conditions", "[I", true)
  | 6 => ("CourtHand$Law", "length", "I", false)
  | _ => ("CourtHand$Law", "rules", "I", false)
def mj_ty1 : Nat → FieldType := fun k => match k with
  | 0 => .array .int
  | 1 => .array .int
  | 2 => .array .int
  | 3 => .array .int
  | 4 => .array .int
  | 5 => .array .int
  | 6 => .int
  | _ => .int
theorem mj_ty1_ok : ∀ k, k < 8 → parseFieldDescriptor (mj_T1 k).2.2.1 = some (mj_ty1 k) := by decide +kernel
theorem mj_nm1 : ∀ a, a < 8 → ∀ b, b < 8 → a ≠ b → (mj_T1 a).2.1 ≠ (mj_T1 b).2.1 := by decide +kernel
def mj_T2 : u_T := fun k => match k with
  | 0 => ("CourtHand$LawReader", "tape", "LCourtHand$Tape;", true)
  | 1 => ("CourtHand$LawReader", "draft", "LCourtHand$Law;", false)
  | 2 => ("CourtHand$LawReader", "end", "I", false)
  | 3 => ("CourtHand$LawReader", "at", "I", false)
  | _ => ("CourtHand$LawReader", "wrong", "I", false)
def mj_ty2 : Nat → FieldType := fun k => match k with
  | 0 => .object "CourtHand$Tape"
  | 1 => .object "CourtHand$Law"
  | 2 => .int
  | 3 => .int
  | _ => .int
theorem mj_ty2_ok : ∀ k, k < 5 → parseFieldDescriptor (mj_T2 k).2.2.1 = some (mj_ty2 k) := by decide +kernel
theorem mj_nm2 : ∀ a, a < 5 → ∀ b, b < 5 → a ≠ b → (mj_T2 a).2.1 ≠ (mj_T2 b).2.1 := by decide +kernel
def mj_T3 : u_T := fun k => match k with
  | 0 => ("CourtHand$Models", "grids", "[I", true)
  | _ => ("CourtHand$Models", "told", "I", false)
def mj_ty3 : Nat → FieldType := fun k => match k with
  | 0 => .array .int
  | _ => .int
theorem mj_ty3_ok : ∀ k, k < 2 → parseFieldDescriptor (mj_T3 k).2.2.1 = some (mj_ty3 k) := by decide +kernel
theorem mj_nm3 : ∀ a, a < 2 → ∀ b, b < 2 → a ≠ b → (mj_T3 a).2.1 ≠ (mj_T3 b).2.1 := by decide +kernel
def mj_T4 : u_T := fun k => match k with
  | 0 => ("CourtHand$Order", "letters", "[I", true)
  | 1 => ("CourtHand$Order", "draft", "[I", true)
  | 2 => ("CourtHand$Order", "openPlace", "[I", true)
  | 3 => ("CourtHand$Order", "openMade", "[I", true)
  | 4 => ("CourtHand$Order", "length", "I", false)
  | 5 => ("CourtHand$Order", "made", "I", false)
  | _ => ("CourtHand$Order", "open", "I", false)
def mj_ty4 : Nat → FieldType := fun k => match k with
  | 0 => .array .int
  | 1 => .array .int
  | 2 => .array .int
  | 3 => .array .int
  | 4 => .int
  | 5 => .int
  | _ => .int
theorem mj_ty4_ok : ∀ k, k < 7 → parseFieldDescriptor (mj_T4 k).2.2.1 = some (mj_ty4 k) := by decide +kernel
theorem mj_nm4 : ∀ a, a < 7 → ∀ b, b < 7 → a ≠ b → (mj_T4 a).2.1 ≠ (mj_T4 b).2.1 := by decide +kernel
def mj_T5 : u_T := fun k => match k with
  | 0 => ("CourtHand$Tape", "bytes", "[I", true)
  | _ => ("CourtHand$Tape", "length", "I", false)
def mj_ty5 : Nat → FieldType := fun k => match k with
  | 0 => .array .int
  | _ => .int
theorem mj_ty5_ok : ∀ k, k < 2 → parseFieldDescriptor (mj_T5 k).2.2.1 = some (mj_ty5 k) := by decide +kernel
theorem mj_nm5 : ∀ a, a < 2 → ∀ b, b < 2 → a ≠ b → (mj_T5 a).2.1 ≠ (mj_T5 b).2.1 := by decide +kernel
def mj_T6 : u_T := fun k => match k with
  | 0 => ("CourtHand", "models", "LCourtHand$Models;", true)
  | 1 => ("CourtHand", "court", "LCourtHand$Court;", true)
  | 2 => ("CourtHand", "kept", "LCourtHand$Court;", true)
  | 3 => ("CourtHand", "trial", "LCourtHand$Court;", true)
  | 4 => ("CourtHand", "tape", "LCourtHand$Tape;", true)
  | 5 => ("CourtHand", "sheet", "LCourtHand$Order;", true)
  | 6 => ("CourtHand", "reader", "LCourtHand$LawReader;", true)
  | 7 => ("CourtHand", "near", "[I", true)
  | 8 => ("CourtHand", "copy", "[I", true)
  | 9 => ("CourtHand", "ruling", "LCourtHand$Law;", false)
  | _ => ("CourtHand", "isKept", "Z", false)
def mj_ty6 : Nat → FieldType := fun k => match k with
  | 0 => .object "CourtHand$Models"
  | 1 => .object "CourtHand$Court"
  | 2 => .object "CourtHand$Court"
  | 3 => .object "CourtHand$Court"
  | 4 => .object "CourtHand$Tape"
  | 5 => .object "CourtHand$Order"
  | 6 => .object "CourtHand$LawReader"
  | 7 => .array .int
  | 8 => .array .int
  | 9 => .object "CourtHand$Law"
  | _ => .boolean
theorem mj_ty6_ok : ∀ k, k < 11 → parseFieldDescriptor (mj_T6 k).2.2.1 = some (mj_ty6 k) := by decide +kernel
theorem mj_nm6 : ∀ a, a < 11 → ∀ b, b < 11 → a ≠ b → (mj_T6 a).2.1 ≠ (mj_T6 b).2.1 := by decide +kernel
def mj_T7 : u_T := fun k => match k with
  | 0 => ("CourtHandModel", "now", "[I", true)
  | 1 => ("CourtHandModel", "aside", "[I", true)
  | 2 => ("CourtHandModel", "kept", "[I", true)
  | 3 => ("CourtHandModel", "modelNow", "[I", true)
  | 4 => ("CourtHandModel", "tape", "[B", true)
  | 5 => ("CourtHandModel", "taped", "I", false)
  | 6 => ("CourtHandModel", "place0", "I", false)
  | 7 => ("CourtHandModel", "length0", "I", false)
  | 8 => ("CourtHandModel", "fault", "I", false)
  | 9 => ("CourtHandModel", "number0", "I", false)
  | 10 => ("CourtHandModel", "open", "I", false)
  | 11 => ("CourtHandModel", "codeMany", "I", false)
  | 12 => ("CourtHandModel", "waiting", "I", false)
  | 13 => ("CourtHandModel", "saidMany", "I", false)
  | 14 => ("CourtHandModel", "clauses", "I", false)
  | 15 => ("CourtHandModel", "said", "[I", true)
  | 16 => ("CourtHandModel", "waitsAt", "[I", true)
  | 17 => ("CourtHandModel", "saidLetter", "[I", true)
  | 18 => ("CourtHandModel", "saidFrom", "[I", true)
  | 19 => ("CourtHandModel", "saidHalf", "[I", true)
  | 20 => ("CourtHandModel", "saidTo", "[I", true)
  | 21 => ("CourtHandModel", "codes", "[I", true)
  | 22 => ("CourtHandModel", "clauseOf", "[I", true)
  | 23 => ("CourtHandModel", "codeFrom", "[I", true)
  | 24 => ("CourtHandModel", "codeHalf", "[I", true)
  | 25 => ("CourtHandModel", "codeTo", "[I", true)
  | 26 => ("CourtHandModel", "stack", "[I", true)
  | 27 => ("CourtHandModel", "facts", "[I", true)
  | 28 => ("CourtHandModel", "orderNow", "[I", true)
  | 29 => ("CourtHandModel", "newOrder", "[I", true)
  | 30 => ("CourtHandModel", "roundFrom", "[I", true)
  | 31 => ("CourtHandModel", "roundAt", "[I", true)
  | 32 => ("CourtHandModel", "orderMany", "I", false)
  | 33 => ("CourtHandModel", "newMany", "I", false)
  | 34 => ("CourtHandModel", "rounds", "I", false)
  | 35 => ("CourtHandModel", "lines", "I", false)
  | 36 => ("CourtHandModel", "rankAhead", "[I", true)
  | 37 => ("CourtHandModel", "mended", "I", false)
  | 38 => ("CourtHandModel", "spoiled", "I", false)
  | 39 => ("CourtHandModel", "inkUsed", "I", false)
  | 40 => ("CourtHandModel", "copyNow", "[I", true)
  | 41 => ("CourtHandModel", "bestDots", "I", false)
  | 42 => ("CourtHandModel", "bestMany", "I", false)
  | 43 => ("CourtHandModel", "sheet", "[I", true)
  | 44 => ("CourtHandModel", "rankNow", "[I", true)
  | _ => ("CourtHandModel", "isKept", "Z", false)
def mj_ty7 : Nat → FieldType := fun k => match k with
  | 0 => .array .int
  | 1 => .array .int
  | 2 => .array .int
  | 3 => .array .int
  | 4 => .array .byte
  | 5 => .int
  | 6 => .int
  | 7 => .int
  | 8 => .int
  | 9 => .int
  | 10 => .int
  | 11 => .int
  | 12 => .int
  | 13 => .int
  | 14 => .int
  | 15 => .array .int
  | 16 => .array .int
  | 17 => .array .int
  | 18 => .array .int
  | 19 => .array .int
  | 20 => .array .int
  | 21 => .array .int
  | 22 => .array .int
  | 23 => .array .int
  | 24 => .array .int
  | 25 => .array .int
  | 26 => .array .int
  | 27 => .array .int
  | 28 => .array .int
  | 29 => .array .int
  | 30 => .array .int
  | 31 => .array .int
  | 32 => .int
  | 33 => .int
  | 34 => .int
  | 35 => .int
  | 36 => .array .int
  | 37 => .int
  | 38 => .int
  | 39 => .int
  | 40 => .array .int
  | 41 => .int
  | 42 => .int
  | 43 => .array .int
  | 44 => .array .int
  | _ => .boolean
theorem mj_ty7_ok : ∀ k, k < 46 → parseFieldDescriptor (mj_T7 k).2.2.1 = some (mj_ty7 k) := by decide +kernel
theorem mj_nm7 : ∀ a, a < 46 → ∀ b, b < 46 → a ≠ b → (mj_T7 a).2.1 ≠ (mj_T7 b).2.1 := by decide +kernel
def mj_cl : List vw_C := [("CourtHand$Court", mj_T0, 12), ("CourtHand$Law", mj_T1, 8), ("CourtHand$LawReader", mj_T2, 5), ("CourtHand$Models", mj_T3, 2), ("CourtHand$Order", mj_T4, 7), ("CourtHand$Tape", mj_T5, 2), ("CourtHand", mj_T6, 11), ("CourtHandModel", mj_T7, 46)]
def mj_w0 : List Cond := lw_tbl.filter goodWord
theorem mj_w0_in {w : Cond} (i : Nat) (h : lw_tbl[i]? = some w) (hg : goodWord w = true) : w ∈ mj_w0 := List.mem_filter.mpr ⟨List.mem_of_getElem? h, hg⟩
theorem mj_in0 : ∀ w ∈ u_ws "CourtHand$Court" mj_T0 12, w ∈ mj_w0 := by
  have h1 : u_ws "CourtHand$Court" mj_T0 12 = ([162, 164, 166, 168, 170, 172, 174, 176, 178, 180, 182, 184] : List Nat).filterMap (fun i => lw_tbl[i]?) := by decide +kernel
  have h2 : (u_ws "CourtHand$Court" mj_T0 12).all goodWord = true := by decide +kernel
  intro w hw
  have h3 := List.all_eq_true.mp h2 w hw
  rw [h1] at hw
  obtain ⟨i, -, hi⟩ := List.mem_filterMap.mp hw
  exact mj_w0_in i hi h3
theorem mj_in1 : ∀ w ∈ u_ws "CourtHand$Law" mj_T1 8, w ∈ mj_w0 := by
  have h1 : u_ws "CourtHand$Law" mj_T1 8 = ([254, 256, 258, 260, 262, 264, 266, 268] : List Nat).filterMap (fun i => lw_tbl[i]?) := by decide +kernel
  have h2 : (u_ws "CourtHand$Law" mj_T1 8).all goodWord = true := by decide +kernel
  intro w hw
  have h3 := List.all_eq_true.mp h2 w hw
  rw [h1] at hw
  obtain ⟨i, -, hi⟩ := List.mem_filterMap.mp hw
  exact mj_w0_in i hi h3
theorem mj_in2 : ∀ w ∈ u_ws "CourtHand$LawReader" mj_T2 5, w ∈ mj_w0 := by
  have h1 : u_ws "CourtHand$LawReader" mj_T2 5 = ([276, 278, 280, 282, 284] : List Nat).filterMap (fun i => lw_tbl[i]?) := by decide +kernel
  have h2 : (u_ws "CourtHand$LawReader" mj_T2 5).all goodWord = true := by decide +kernel
  intro w hw
  have h3 := List.all_eq_true.mp h2 w hw
  rw [h1] at hw
  obtain ⟨i, -, hi⟩ := List.mem_filterMap.mp hw
  exact mj_w0_in i hi h3
theorem mj_in3 : ∀ w ∈ u_ws "CourtHand$Models" mj_T3 2, w ∈ mj_w0 := by
  have h1 : u_ws "CourtHand$Models" mj_T3 2 = ([125, 127] : List Nat).filterMap (fun i => lw_tbl[i]?) := by decide +kernel
  have h2 : (u_ws "CourtHand$Models" mj_T3 2).all goodWord = true := by decide +kernel
  intro w hw
  have h3 := List.all_eq_true.mp h2 w hw
  rw [h1] at hw
  obtain ⟨i, -, hi⟩ := List.mem_filterMap.mp hw
  exact mj_w0_in i hi h3
theorem mj_in4 : ∀ w ∈ u_ws "CourtHand$Order" mj_T4 7, w ∈ mj_w0 := by
  have h1 : u_ws "CourtHand$Order" mj_T4 7 = ([216, 218, 220, 222, 224, 226, 228] : List Nat).filterMap (fun i => lw_tbl[i]?) := by decide +kernel
  have h2 : (u_ws "CourtHand$Order" mj_T4 7).all goodWord = true := by decide +kernel
  intro w hw
  have h3 := List.all_eq_true.mp h2 w hw
  rw [h1] at hw
  obtain ⟨i, -, hi⟩ := List.mem_filterMap.mp hw
  exact mj_w0_in i hi h3
theorem mj_in5 : ∀ w ∈ u_ws "CourtHand$Tape" mj_T5 2, w ∈ mj_w0 := by
  have h1 : u_ws "CourtHand$Tape" mj_T5 2 = ([196, 198] : List Nat).filterMap (fun i => lw_tbl[i]?) := by decide +kernel
  have h2 : (u_ws "CourtHand$Tape" mj_T5 2).all goodWord = true := by decide +kernel
  intro w hw
  have h3 := List.all_eq_true.mp h2 w hw
  rw [h1] at hw
  obtain ⟨i, -, hi⟩ := List.mem_filterMap.mp hw
  exact mj_w0_in i hi h3
theorem mj_in6 : ∀ w ∈ u_ws "CourtHand" mj_T6 11, w ∈ mj_w0 := by
  have h1 : u_ws "CourtHand" mj_T6 11 = ([300, 302, 304, 306, 308, 310, 312, 314, 316, 318, 320] : List Nat).filterMap (fun i => lw_tbl[i]?) := by decide +kernel
  have h2 : (u_ws "CourtHand" mj_T6 11).all goodWord = true := by decide +kernel
  intro w hw
  have h3 := List.all_eq_true.mp h2 w hw
  rw [h1] at hw
  obtain ⟨i, -, hi⟩ := List.mem_filterMap.mp hw
  exact mj_w0_in i hi h3
theorem mj_in7 : ∀ w ∈ u_ws "CourtHandModel" mj_T7 46, w ∈ mj_w0 := by
  have h1 : u_ws "CourtHandModel" mj_T7 46 = ([1001, 1003, 1005, 1007, 1009, 1011, 1013, 1015, 1017, 1019, 1021, 1023, 1025, 1027, 1029, 1031, 1033, 1035, 1037, 1039, 1041, 1043, 1045, 1047, 1049, 1051, 1053, 1055, 1057, 1059, 1061, 1063, 1065, 1067, 1069, 1071, 1073, 1075, 1077, 1079, 1081, 1083, 1085, 1087, 1089, 1091] : List Nat).filterMap (fun i => lw_tbl[i]?) := by decide +kernel
  have h2 : (u_ws "CourtHandModel" mj_T7 46).all goodWord = true := by decide +kernel
  intro w hw
  have h3 := List.all_eq_true.mp h2 w hw
  rw [h1] at hw
  obtain ⟨i, -, hi⟩ := List.mem_filterMap.mp hw
  exact mj_w0_in i hi h3
def mj_tyC (c : Nat) : Nat → FieldType := match c with
  | 0 => mj_ty0
  | 1 => mj_ty1
  | 2 => mj_ty2
  | 3 => mj_ty3
  | 4 => mj_ty4
  | 5 => mj_ty5
  | 6 => mj_ty6
  | _ => mj_ty7
theorem mj_cls {ci : Nat} {q : vw_C} (h : mj_cl[ci]? = some q) : (∀ w ∈ u_ws q.1 q.2.1 q.2.2, w ∈ mj_w0) ∧ (∀ k, k < q.2.2 → parseFieldDescriptor (q.2.1 k).2.2.1 = some (mj_tyC ci k)) ∧ (∀ a, a < q.2.2 → ∀ b, b < q.2.2 → a ≠ b → (q.2.1 a).2.1 ≠ (q.2.1 b).2.1) ∧ q.2.2 = mj_nf ci := by
  match ci, h with
  | 0, h => cases h; exact ⟨mj_in0, mj_ty0_ok, mj_nm0, rfl⟩
  | 1, h => cases h; exact ⟨mj_in1, mj_ty1_ok, mj_nm1, rfl⟩
  | 2, h => cases h; exact ⟨mj_in2, mj_ty2_ok, mj_nm2, rfl⟩
  | 3, h => cases h; exact ⟨mj_in3, mj_ty3_ok, mj_nm3, rfl⟩
  | 4, h => cases h; exact ⟨mj_in4, mj_ty4_ok, mj_nm4, rfl⟩
  | 5, h => cases h; exact ⟨mj_in5, mj_ty5_ok, mj_nm5, rfl⟩
  | 6, h => cases h; exact ⟨mj_in6, mj_ty6_ok, mj_nm6, rfl⟩
  | 7, h => cases h; exact ⟨mj_in7, mj_ty7_ok, mj_nm7, rfl⟩
  | k + 8, h => exact absurd h (by simp [mj_cl])
def mj_fck (e : Nat × Nat × Nat × Nat × Nat × Nat) : Bool := match mj_cl[e.2.2.1]? with
  | some q => decide (e.2.2.2.1 < q.2.2) && decide (lw_tbl[e.2.2.2.2.2]? = some (.fieldLink (mj_cn e.1) e.2.1 q.1 (q.2.1 e.2.2.2.1).2.1 (q.2.1 e.2.2.2.1).2.2.1)) && decide ((q.2.1 e.2.2.2.1).1 = q.1) && decide (e.2.2.2.2.1 = mj_fk e.2.2.1 e.2.2.2.1) && (decide (e.2.2.2.2.1 = 1) || !(q.2.1 e.2.2.2.1).2.2.2) && (decide (e.2.2.2.2.1 ≠ 0) || decide (mj_tyC e.2.2.1 e.2.2.2.1 = .int)) && (decide (e.2.2.2.2.1 ≠ 3) || decide (mj_tyC e.2.2.1 e.2.2.2.1 = .boolean)) && (decide (e.2.2.2.2.1 ≠ 2) || decide (mj_tyC e.2.2.1 e.2.2.2.1 = .object "CourtHand$Law")) && decide (e.2.2.2.2.1 ≤ 3) && decide (e.2.2.1 < 8)
  | none => decide (e.2.2.1 = 14) && ((decide (e.2.2.2.2.1 = 4) && decide (lw_tbl[e.2.2.2.2.2]? = some (.fieldLink (mj_cn e.1) e.2.1 "java/lang/String" "value" "[B"))) || (decide (e.2.2.2.2.1 = 5) && decide (lw_tbl[e.2.2.2.2.2]? = some (.fieldLink (mj_cn e.1) e.2.1 "java/lang/String" "coder" "B"))))
theorem mj_f_ok : mj_fTab.all mj_fck = true := by decide +kernel
def mj_cck (e : Nat × Nat × Nat × Nat × Nat) : Bool := if e.2.2.1 = 5 then decide (lw_tbl[e.2.2.2.2]? = some (.methodLink (mj_cn e.1) e.2.1 Lib.Math.max.name)) else if e.2.2.1 = 6 then decide (lw_tbl[e.2.2.2.2]? = some (.methodLink (mj_cn e.1) e.2.1 Lib.Math.min.name)) else if e.2.2.1 = 3 then decide (lw_tbl[e.2.2.2.2]? = some (.methodLink (mj_cn e.1) e.2.1 arraycopyName)) else match mj_tab[e.2.2.2.1]? with
  | some me => if e.2.2.1 = 2 then decide (lw_tbl[e.2.2.2.2]? = some (.methodLinkNest (mj_cn e.1) e.2.1 me.2.2.2.2.1 "CourtHand")) && decide (me.2.2.2.2.1 = ⟨"CourtHand", "fault", "(II)I"⟩) && decide ((e.1 = 2 ∧ e.2.1 = 55) ∨ (e.1 = 4 ∧ e.2.1 = 52) ∨ (e.1 = 8 ∧ e.2.1 = 25)) else decide (lw_tbl[e.2.2.2.2]? = some (.methodLink (mj_cn e.1) e.2.1 me.2.2.2.2.1))
  | none => false
theorem mj_c_ok : mj_cTab.all mj_cck = true := by decide +kernel
def mj_kck (e : Nat × Nat × Int32 × Nat) : Bool := decide (lw_tbl[e.2.2.2]? = some (.constant (mj_cn e.1) e.2.1 e.2.2.1))
theorem mj_k_ok : mj_kTab.all mj_kck = true := by decide +kernel
def mj_sck (e : Nat × Nat × Nat) : Bool := decide (lw_tbl[e.2.2]? = some (.fieldLink (mj_cn e.1) e.2.1 "java/lang/String" "COMPACT_STRINGS" "Z"))
theorem mj_s_ok : mj_sTab.all mj_sck = true := by decide +kernel
def mj_mck (me : mj_I) : Bool := if me.1 = 10 then true else decide (me.2.2.2.2.1.cls = mj_cn me.1) && decide (me.2.2.1 ≤ 21) && decide ((parseMethodDescriptor me.2.2.2.2.1.desc).map (fun d => d.parameters.length) = some me.2.2.2.2.2.1) && plainName me.2.2.2.2.1.cls && decide (me.2.2.2.2.1.cls ≠ "java/lang/invoke/MethodHandle") && decide (me.2.2.2.2.1.cls ≠ "java/lang/invoke/VarHandle") && decide ((if me.2.2.2.2.2.2.1 = 100 then me.2.2.2.2.2.1 else me.2.2.2.2.2.1 + 1) ≤ me.2.2.1) && (match me.2.2.2.2.2.2.2 with
  | [a, b, c, d] => (if me.2.2.2.2.2.2.1 = 100 then decide (lw_tbl[b]? = some (.static me.2.2.2.2.1)) else decide (lw_tbl[b]? = some (.instanceMethod me.2.2.2.2.1)) && decide (lw_tbl[c]? = some (.selects me.2.2.2.2.1.cls me.2.2.2.2.1 me.2.2.2.2.1)) && decide (me.2.2.2.2.2.2.1 = me.1)) && decide (lw_tbl[d]? = some (.initialized me.2.2.2.2.1.cls))
  | _ => false)
def mj_cdk (me : mj_I) : Prop := me.1 = 10 ∨ lw_tbl[me.2.2.2.2.2.2.2.headD 0]? = some (.code me.2.2.2.2.1 me.2.1 me.2.2.1 me.2.2.2.1)
set_option maxRecDepth 100000 in
theorem mcd_0 : mj_cdk mj_r0 := Or.inr rfl
set_option maxRecDepth 100000 in
theorem mcd_1 : mj_cdk mj_r1 := Or.inr rfl
set_option maxRecDepth 100000 in
theorem mcd_2 : mj_cdk mj_r2 := Or.inr rfl
set_option maxRecDepth 100000 in
theorem mcd_3 : mj_cdk mj_r3 := Or.inr rfl
set_option maxRecDepth 100000 in
theorem mcd_4 : mj_cdk mj_r4 := Or.inr rfl
set_option maxRecDepth 100000 in
theorem mcd_5 : mj_cdk mj_r5 := Or.inr rfl
set_option maxRecDepth 100000 in
theorem mcd_6 : mj_cdk mj_r6 := Or.inr rfl
set_option maxRecDepth 100000 in
theorem mcd_7 : mj_cdk mj_r7 := Or.inr rfl
set_option maxRecDepth 100000 in
theorem mcd_8 : mj_cdk mj_r8 := Or.inr rfl
set_option maxRecDepth 100000 in
theorem mcd_9 : mj_cdk mj_r9 := Or.inr rfl
set_option maxRecDepth 100000 in
theorem mcd_10 : mj_cdk mj_r10 := Or.inr rfl
set_option maxRecDepth 100000 in
theorem mcd_11 : mj_cdk mj_r11 := Or.inr rfl
set_option maxRecDepth 100000 in
theorem mcd_12 : mj_cdk mj_r12 := Or.inr rfl
set_option maxRecDepth 100000 in
theorem mcd_13 : mj_cdk mj_r13 := Or.inr rfl
set_option maxRecDepth 100000 in
theorem mcd_14 : mj_cdk mj_r14 := Or.inr rfl
set_option maxRecDepth 100000 in
theorem mcd_15 : mj_cdk mj_r15 := Or.inr rfl
set_option maxRecDepth 100000 in
theorem mcd_16 : mj_cdk mj_r16 := Or.inr rfl
set_option maxRecDepth 100000 in
theorem mcd_17 : mj_cdk mj_r17 := Or.inr rfl
set_option maxRecDepth 100000 in
theorem mcd_18 : mj_cdk mj_r18 := Or.inr rfl
set_option maxRecDepth 100000 in
theorem mcd_19 : mj_cdk mj_r19 := Or.inr rfl
set_option maxRecDepth 100000 in
theorem mcd_20 : mj_cdk mj_r20 := Or.inr rfl
set_option maxRecDepth 100000 in
theorem mcd_21 : mj_cdk mj_r21 := Or.inr rfl
set_option maxRecDepth 100000 in
theorem mcd_22 : mj_cdk mj_r22 := Or.inr rfl
set_option maxRecDepth 100000 in
theorem mcd_23 : mj_cdk mj_r23 := Or.inr rfl
set_option maxRecDepth 100000 in
theorem mcd_24 : mj_cdk mj_r24 := Or.inr rfl
set_option maxRecDepth 100000 in
theorem mcd_25 : mj_cdk mj_r25 := Or.inr rfl
set_option maxRecDepth 100000 in
theorem mcd_26 : mj_cdk mj_r26 := Or.inr rfl
set_option maxRecDepth 100000 in
theorem mcd_27 : mj_cdk mj_r27 := Or.inr rfl
set_option maxRecDepth 100000 in
theorem mcd_28 : mj_cdk mj_r28 := Or.inr rfl
set_option maxRecDepth 100000 in
theorem mcd_29 : mj_cdk mj_r29 := Or.inr rfl
set_option maxRecDepth 100000 in
theorem mcd_30 : mj_cdk mj_r30 := Or.inr rfl
set_option maxRecDepth 100000 in
theorem mcd_31 : mj_cdk mj_r31 := Or.inr rfl
set_option maxRecDepth 100000 in
theorem mcd_32 : mj_cdk mj_r32 := Or.inr rfl
set_option maxRecDepth 100000 in
theorem mcd_33 : mj_cdk mj_r33 := Or.inr rfl
set_option maxRecDepth 100000 in
theorem mcd_34 : mj_cdk mj_r34 := Or.inr rfl
set_option maxRecDepth 100000 in
theorem mcd_35 : mj_cdk mj_r35 := Or.inr rfl
set_option maxRecDepth 100000 in
theorem mcd_36 : mj_cdk mj_r36 := Or.inr rfl
set_option maxRecDepth 100000 in
theorem mcd_37 : mj_cdk mj_r37 := Or.inr rfl
set_option maxRecDepth 100000 in
theorem mcd_38 : mj_cdk mj_r38 := Or.inr rfl
set_option maxRecDepth 100000 in
theorem mcd_39 : mj_cdk mj_r39 := Or.inr rfl
set_option maxRecDepth 100000 in
theorem mcd_40 : mj_cdk mj_r40 := Or.inr rfl
set_option maxRecDepth 100000 in
theorem mcd_41 : mj_cdk mj_r41 := Or.inr rfl
set_option maxRecDepth 100000 in
theorem mcd_42 : mj_cdk mj_r42 := Or.inr rfl
set_option maxRecDepth 100000 in
theorem mcd_43 : mj_cdk mj_r43 := Or.inr rfl
set_option maxRecDepth 100000 in
theorem mcd_44 : mj_cdk mj_r44 := Or.inr rfl
set_option maxRecDepth 100000 in
theorem mcd_45 : mj_cdk mj_r45 := Or.inr rfl
set_option maxRecDepth 100000 in
theorem mcd_46 : mj_cdk mj_r46 := Or.inr rfl
set_option maxRecDepth 100000 in
theorem mcd_47 : mj_cdk mj_r47 := Or.inr rfl
set_option maxRecDepth 100000 in
theorem mcd_48 : mj_cdk mj_r48 := Or.inr rfl
set_option maxRecDepth 100000 in
theorem mcd_49 : mj_cdk mj_r49 := Or.inr rfl
set_option maxRecDepth 100000 in
theorem mcd_50 : mj_cdk mj_r50 := Or.inr rfl
set_option maxRecDepth 100000 in
theorem mcd_51 : mj_cdk mj_r51 := Or.inr rfl
set_option maxRecDepth 100000 in
theorem mcd_52 : mj_cdk mj_r52 := Or.inr rfl
set_option maxRecDepth 100000 in
theorem mcd_53 : mj_cdk mj_r53 := Or.inr rfl
set_option maxRecDepth 100000 in
theorem mcd_54 : mj_cdk mj_r54 := Or.inr rfl
set_option maxRecDepth 100000 in
theorem mcd_55 : mj_cdk mj_r55 := Or.inr rfl
set_option maxRecDepth 100000 in
theorem mcd_56 : mj_cdk mj_r56 := Or.inr rfl
set_option maxRecDepth 100000 in
theorem mcd_57 : mj_cdk mj_r57 := Or.inr rfl
set_option maxRecDepth 100000 in
theorem mcd_58 : mj_cdk mj_r58 := Or.inr rfl
set_option maxRecDepth 100000 in
theorem mcd_59 : mj_cdk mj_r59 := Or.inr rfl
set_option maxRecDepth 100000 in
theorem mcd_60 : mj_cdk mj_r60 := Or.inr rfl
set_option maxRecDepth 100000 in
theorem mcd_61 : mj_cdk mj_r61 := Or.inr rfl
set_option maxRecDepth 100000 in
theorem mcd_62 : mj_cdk mj_r62 := Or.inr rfl
set_option maxRecDepth 100000 in
theorem mcd_63 : mj_cdk mj_r63 := Or.inr rfl
set_option maxRecDepth 100000 in
theorem mcd_64 : mj_cdk mj_r64 := Or.inr rfl
set_option maxRecDepth 100000 in
theorem mcd_65 : mj_cdk mj_r65 := Or.inr rfl
set_option maxRecDepth 100000 in
theorem mcd_66 : mj_cdk mj_r66 := Or.inr rfl
set_option maxRecDepth 100000 in
theorem mcd_67 : mj_cdk mj_r67 := Or.inr rfl
set_option maxRecDepth 100000 in
theorem mcd_68 : mj_cdk mj_r68 := Or.inr rfl
set_option maxRecDepth 100000 in
theorem mcd_69 : mj_cdk mj_r69 := Or.inr rfl
set_option maxRecDepth 100000 in
theorem mcd_70 : mj_cdk mj_r70 := Or.inr rfl
set_option maxRecDepth 100000 in
theorem mcd_71 : mj_cdk mj_r71 := Or.inr rfl
set_option maxRecDepth 100000 in
theorem mcd_72 : mj_cdk mj_r72 := Or.inr rfl
set_option maxRecDepth 100000 in
theorem mcd_73 : mj_cdk mj_r73 := Or.inr rfl
set_option maxRecDepth 100000 in
theorem mcd_74 : mj_cdk mj_r74 := Or.inr rfl
set_option maxRecDepth 100000 in
theorem mcd_75 : mj_cdk mj_r75 := Or.inr rfl
set_option maxRecDepth 100000 in
theorem mcd_76 : mj_cdk mj_r76 := Or.inr rfl
set_option maxRecDepth 100000 in
theorem mcd_77 : mj_cdk mj_r77 := Or.inr rfl
set_option maxRecDepth 100000 in
theorem mcd_78 : mj_cdk mj_r78 := Or.inr rfl
set_option maxRecDepth 100000 in
theorem mcd_79 : mj_cdk mj_r79 := Or.inr rfl
set_option maxRecDepth 100000 in
theorem mcd_80 : mj_cdk mj_r80 := Or.inr rfl
set_option maxRecDepth 100000 in
theorem mcd_81 : mj_cdk mj_r81 := Or.inr rfl
set_option maxRecDepth 100000 in
theorem mcd_82 : mj_cdk mj_r82 := Or.inr rfl
set_option maxRecDepth 100000 in
theorem mcd_83 : mj_cdk mj_r83 := Or.inr rfl
set_option maxRecDepth 100000 in
theorem mcd_84 : mj_cdk mj_r84 := Or.inr rfl
set_option maxRecDepth 100000 in
theorem mcd_85 : mj_cdk mj_r85 := Or.inr rfl
set_option maxRecDepth 100000 in
theorem mcd_86 : mj_cdk mj_r86 := Or.inr rfl
set_option maxRecDepth 100000 in
theorem mcd_87 : mj_cdk mj_r87 := Or.inr rfl
set_option maxRecDepth 100000 in
theorem mcd_88 : mj_cdk mj_r88 := Or.inr rfl
set_option maxRecDepth 100000 in
theorem mcd_89 : mj_cdk mj_r89 := Or.inr rfl
set_option maxRecDepth 100000 in
theorem mcd_90 : mj_cdk mj_r90 := Or.inr rfl
set_option maxRecDepth 100000 in
theorem mcd_91 : mj_cdk mj_r91 := Or.inr rfl
set_option maxRecDepth 100000 in
theorem mcd_92 : mj_cdk mj_r92 := Or.inr rfl
set_option maxRecDepth 100000 in
theorem mcd_93 : mj_cdk mj_r93 := Or.inr rfl
set_option maxRecDepth 100000 in
theorem mcd_94 : mj_cdk mj_r94 := Or.inr rfl
set_option maxRecDepth 100000 in
theorem mcd_95 : mj_cdk mj_r95 := Or.inr rfl
set_option maxRecDepth 100000 in
theorem mcd_96 : mj_cdk mj_r96 := Or.inr rfl
set_option maxRecDepth 100000 in
theorem mcd_97 : mj_cdk mj_r97 := Or.inr rfl
set_option maxRecDepth 100000 in
theorem mcd_98 : mj_cdk mj_r98 := Or.inr rfl
set_option maxRecDepth 100000 in
theorem mcd_99 : mj_cdk mj_r99 := Or.inr rfl
set_option maxRecDepth 100000 in
theorem mcd_100 : mj_cdk mj_r100 := Or.inr rfl
set_option maxRecDepth 100000 in
theorem mcd_101 : mj_cdk mj_r101 := Or.inr rfl
set_option maxRecDepth 100000 in
theorem mcd_102 : mj_cdk mj_r102 := Or.inr rfl
set_option maxRecDepth 100000 in
theorem mcd_103 : mj_cdk mj_r103 := Or.inr rfl
set_option maxRecDepth 100000 in
theorem mcd_104 : mj_cdk mj_r104 := Or.inr rfl
set_option maxRecDepth 100000 in
theorem mcd_105 : mj_cdk mj_r105 := Or.inr rfl
set_option maxRecDepth 100000 in
theorem mcd_106 : mj_cdk mj_r106 := Or.inr rfl
set_option maxRecDepth 100000 in
theorem mcd_107 : mj_cdk mj_r107 := Or.inr rfl
set_option maxRecDepth 100000 in
theorem mcd_108 : mj_cdk mj_r108 := Or.inr rfl
set_option maxRecDepth 100000 in
theorem mcd_109 : mj_cdk mj_r109 := Or.inr rfl
set_option maxRecDepth 100000 in
theorem mcd_110 : mj_cdk mj_r110 := Or.inr rfl
set_option maxRecDepth 100000 in
theorem mcd_111 : mj_cdk mj_r111 := Or.inr rfl
set_option maxRecDepth 100000 in
theorem mcd_112 : mj_cdk mj_r112 := Or.inr rfl
set_option maxRecDepth 100000 in
theorem mcd_113 : mj_cdk mj_r113 := Or.inr rfl
set_option maxRecDepth 100000 in
theorem mcd_114 : mj_cdk mj_r114 := Or.inr rfl
set_option maxRecDepth 100000 in
theorem mcd_115 : mj_cdk mj_r115 := Or.inr rfl
set_option maxRecDepth 100000 in
theorem mcd_116 : mj_cdk mj_r116 := Or.inr rfl
set_option maxRecDepth 100000 in
theorem mcd_117 : mj_cdk mj_r117 := Or.inr rfl
set_option maxRecDepth 100000 in
theorem mcd_118 : mj_cdk mj_r118 := Or.inr rfl
set_option maxRecDepth 100000 in
theorem mcd_119 : mj_cdk mj_r119 := Or.inr rfl
set_option maxRecDepth 100000 in
theorem mcd_120 : mj_cdk mj_r120 := Or.inr rfl
set_option maxRecDepth 100000 in
theorem mcd_121 : mj_cdk mj_r121 := Or.inr rfl
set_option maxRecDepth 100000 in
theorem mcd_122 : mj_cdk mj_r122 := Or.inr rfl
set_option maxRecDepth 100000 in
theorem mcd_123 : mj_cdk mj_r123 := Or.inr rfl
set_option maxRecDepth 100000 in
theorem mcd_124 : mj_cdk mj_r124 := Or.inr rfl
set_option maxRecDepth 100000 in
theorem mcd_125 : mj_cdk mj_r125 := Or.inr rfl
set_option maxRecDepth 100000 in
theorem mcd_126 : mj_cdk mj_r126 := Or.inr rfl
set_option maxRecDepth 100000 in
theorem mcd_127 : mj_cdk mj_r127 := Or.inr rfl
set_option maxRecDepth 100000 in
theorem mcd_128 : mj_cdk mj_r128 := Or.inr rfl
set_option maxRecDepth 100000 in
theorem mcd_129 : mj_cdk mj_r129 := Or.inr rfl
set_option maxRecDepth 100000 in
theorem mcd_130 : mj_cdk mj_r130 := Or.inr rfl
set_option maxRecDepth 100000 in
theorem mcd_131 : mj_cdk mj_r131 := Or.inr rfl
set_option maxRecDepth 100000 in
theorem mcd_132 : mj_cdk mj_r132 := Or.inr rfl
set_option maxRecDepth 100000 in
theorem mcd_133 : mj_cdk mj_r133 := Or.inr rfl
set_option maxRecDepth 100000 in
theorem mcd_134 : mj_cdk mj_r134 := Or.inr rfl
set_option maxRecDepth 100000 in
theorem mcd_135 : mj_cdk mj_r135 := Or.inr rfl
set_option maxRecDepth 100000 in
theorem mcd_136 : mj_cdk mj_r136 := Or.inr rfl
set_option maxRecDepth 100000 in
theorem mcd_137 : mj_cdk mj_r137 := Or.inr rfl
set_option maxRecDepth 100000 in
theorem mcd_138 : mj_cdk mj_r138 := Or.inr rfl
set_option maxRecDepth 100000 in
theorem mcd_139 : mj_cdk mj_r139 := Or.inr rfl
set_option maxRecDepth 100000 in
theorem mcd_140 : mj_cdk mj_r140 := Or.inr rfl
set_option maxRecDepth 100000 in
theorem mcd_141 : mj_cdk mj_r141 := Or.inr rfl
set_option maxRecDepth 100000 in
theorem mcd_142 : mj_cdk mj_r142 := Or.inr rfl
set_option maxRecDepth 100000 in
theorem mcd_143 : mj_cdk mj_r143 := Or.inr rfl
set_option maxRecDepth 100000 in
theorem mcd_144 : mj_cdk mj_r144 := Or.inr rfl
set_option maxRecDepth 100000 in
theorem mcd_145 : mj_cdk mj_r145 := Or.inr rfl
set_option maxRecDepth 100000 in
theorem mcd_146 : mj_cdk mj_r146 := Or.inr rfl
set_option maxRecDepth 100000 in
theorem mcd_147 : mj_cdk mj_r147 := Or.inr rfl
set_option maxRecDepth 100000 in
theorem mcd_148 : mj_cdk mj_r148 := Or.inr rfl
set_option maxRecDepth 100000 in
theorem mcd_149 : mj_cdk mj_r149 := Or.inr rfl
set_option maxRecDepth 100000 in
theorem mcd_150 : mj_cdk mj_r150 := Or.inr rfl
set_option maxRecDepth 100000 in
theorem mcd_151 : mj_cdk mj_r151 := Or.inr rfl
set_option maxRecDepth 100000 in
theorem mcd_152 : mj_cdk mj_r152 := Or.inr rfl
set_option maxRecDepth 100000 in
theorem mcd_153 : mj_cdk mj_r153 := Or.inr rfl
set_option maxRecDepth 100000 in
theorem mcd_154 : mj_cdk mj_r154 := Or.inr rfl
set_option maxRecDepth 100000 in
theorem mcd_155 : mj_cdk mj_r155 := Or.inr rfl
set_option maxRecDepth 100000 in
theorem mcd_156 : mj_cdk mj_r156 := Or.inr rfl
set_option maxRecDepth 100000 in
theorem mcd_157 : mj_cdk mj_r157 := Or.inr rfl
set_option maxRecDepth 100000 in
theorem mcd_158 : mj_cdk mj_r158 := Or.inr rfl
set_option maxRecDepth 100000 in
theorem mcd_159 : mj_cdk mj_r159 := Or.inr rfl
set_option maxRecDepth 100000 in
theorem mcd_160 : mj_cdk mj_r160 := Or.inr rfl
set_option maxRecDepth 100000 in
theorem mcd_161 : mj_cdk mj_r161 := Or.inr rfl
set_option maxRecDepth 100000 in
theorem mcd_162 : mj_cdk mj_r162 := Or.inr rfl
set_option maxRecDepth 100000 in
theorem mcd_163 : mj_cdk mj_r163 := Or.inr rfl
set_option maxRecDepth 100000 in
theorem mcd_164 : mj_cdk mj_r164 := Or.inr rfl
set_option maxRecDepth 100000 in
theorem mcd_165 : mj_cdk mj_r165 := Or.inr rfl
set_option maxRecDepth 100000 in
theorem mcd_166 : mj_cdk mj_r166 := Or.inr rfl
set_option maxRecDepth 100000 in
theorem mcd_167 : mj_cdk mj_r167 := Or.inr rfl
set_option maxRecDepth 100000 in
theorem mcd_168 : mj_cdk mj_r168 := Or.inr rfl
set_option maxRecDepth 100000 in
theorem mcd_169 : mj_cdk mj_r169 := Or.inr rfl
set_option maxRecDepth 100000 in
theorem mcd_170 : mj_cdk mj_r170 := Or.inr rfl
set_option maxRecDepth 100000 in
theorem mcd_171 : mj_cdk mj_r171 := Or.inr rfl
set_option maxRecDepth 100000 in
theorem mcd_172 : mj_cdk mj_r172 := Or.inr rfl
set_option maxRecDepth 100000 in
theorem mcd_173 : mj_cdk mj_r173 := Or.inr rfl
set_option maxRecDepth 100000 in
theorem mcd_174 : mj_cdk mj_r174 := Or.inr rfl
set_option maxRecDepth 100000 in
theorem mcd_175 : mj_cdk mj_r175 := Or.inr rfl
set_option maxRecDepth 100000 in
theorem mcd_176 : mj_cdk mj_r176 := Or.inr rfl
set_option maxRecDepth 100000 in
theorem mcd_177 : mj_cdk mj_r177 := Or.inr rfl
set_option maxRecDepth 100000 in
theorem mcd_178 : mj_cdk mj_r178 := Or.inr rfl
set_option maxRecDepth 100000 in
theorem mcd_179 : mj_cdk mj_r179 := Or.inr rfl
set_option maxRecDepth 100000 in
theorem mcd_180 : mj_cdk mj_r180 := Or.inr rfl
set_option maxRecDepth 100000 in
theorem mcd_181 : mj_cdk mj_r181 := Or.inr rfl
set_option maxRecDepth 100000 in
theorem mcd_182 : mj_cdk mj_r182 := Or.inr rfl
set_option maxRecDepth 100000 in
theorem mcd_183 : mj_cdk mj_r183 := Or.inr rfl
set_option maxRecDepth 100000 in
theorem mcd_184 : mj_cdk mj_r184 := Or.inr rfl
set_option maxRecDepth 100000 in
theorem mcd_185 : mj_cdk mj_r185 := Or.inr rfl
set_option maxRecDepth 100000 in
theorem mcd_186 : mj_cdk mj_r186 := Or.inr rfl
set_option maxRecDepth 100000 in
theorem mcd_187 : mj_cdk mj_r187 := Or.inr rfl
set_option maxRecDepth 100000 in
theorem mcd_188 : mj_cdk mj_r188 := Or.inr rfl
set_option maxRecDepth 100000 in
theorem mcd_189 : mj_cdk mj_r189 := Or.inr rfl
set_option maxRecDepth 100000 in
theorem mcd_190 : mj_cdk mj_r190 := Or.inr rfl
set_option maxRecDepth 100000 in
theorem mcd_191 : mj_cdk mj_r191 := Or.inr rfl
set_option maxRecDepth 100000 in
theorem mcd_192 : mj_cdk mj_r192 := Or.inr rfl
set_option maxRecDepth 100000 in
theorem mcd_193 : mj_cdk mj_r193 := Or.inr rfl
set_option maxRecDepth 100000 in
theorem mcd_194 : mj_cdk mj_r194 := Or.inr rfl
set_option maxRecDepth 100000 in
theorem mcd_195 : mj_cdk mj_r195 := Or.inr rfl
set_option maxRecDepth 100000 in
theorem mcd_196 : mj_cdk mj_r196 := Or.inr rfl
set_option maxRecDepth 100000 in
theorem mcd_197 : mj_cdk mj_r197 := Or.inr rfl
set_option maxRecDepth 100000 in
theorem mcd_198 : mj_cdk mj_r198 := Or.inr rfl
set_option maxRecDepth 100000 in
theorem mcd_199 : mj_cdk mj_r199 := Or.inr rfl
set_option maxRecDepth 100000 in
theorem mcd_200 : mj_cdk mj_r200 := Or.inr rfl
set_option maxRecDepth 100000 in
theorem mcd_201 : mj_cdk mj_r201 := Or.inr rfl
set_option maxRecDepth 100000 in
theorem mcd_202 : mj_cdk mj_r202 := Or.inr rfl
set_option maxRecDepth 100000 in
theorem mcd_203 : mj_cdk mj_r203 := Or.inr rfl
set_option maxRecDepth 100000 in
theorem mcd_204 : mj_cdk mj_r204 := Or.inr rfl
set_option maxRecDepth 100000 in
theorem mcd_205 : mj_cdk mj_r205 := Or.inr rfl
set_option maxRecDepth 100000 in
theorem mcd_206 : mj_cdk mj_r206 := Or.inr rfl
set_option maxRecDepth 100000 in
theorem mcd_207 : mj_cdk mj_r207 := Or.inr rfl
set_option maxRecDepth 100000 in
theorem mcd_208 : mj_cdk mj_r208 := Or.inr rfl
set_option maxRecDepth 100000 in
theorem mcd_209 : mj_cdk mj_r209 := Or.inr rfl
set_option maxRecDepth 100000 in
theorem mcd_210 : mj_cdk mj_r210 := Or.inr rfl
set_option maxRecDepth 100000 in
theorem mcd_211 : mj_cdk mj_r211 := Or.inr rfl
set_option maxRecDepth 100000 in
theorem mcd_212 : mj_cdk mj_r212 := Or.inr rfl
set_option maxRecDepth 100000 in
theorem mcd_213 : mj_cdk mj_r213 := Or.inr rfl
set_option maxRecDepth 100000 in
theorem mcd_214 : mj_cdk mj_r214 := Or.inr rfl
set_option maxRecDepth 100000 in
theorem mcd_215 : mj_cdk mj_r215 := Or.inr rfl
set_option maxRecDepth 100000 in
theorem mcd_216 : mj_cdk mj_r216 := Or.inr rfl
set_option maxRecDepth 100000 in
theorem mcd_217 : mj_cdk mj_r217 := Or.inr rfl
set_option maxRecDepth 100000 in
theorem mcd_218 : mj_cdk mj_r218 := Or.inr rfl
set_option maxRecDepth 100000 in
theorem mcd_219 : mj_cdk mj_r219 := Or.inr rfl
set_option maxRecDepth 100000 in
theorem mcd_220 : mj_cdk mj_r220 := Or.inr rfl
set_option maxRecDepth 100000 in
theorem mcd_221 : mj_cdk mj_r221 := Or.inr rfl
set_option maxRecDepth 100000 in
theorem mcd_222 : mj_cdk mj_r222 := Or.inr rfl
set_option maxRecDepth 100000 in
theorem mcd_223 : mj_cdk mj_r223 := Or.inr rfl
set_option maxRecDepth 100000 in
theorem mcd_224 : mj_cdk mj_r224 := Or.inr rfl
set_option maxRecDepth 100000 in
theorem mcd_225 : mj_cdk mj_r225 := Or.inr rfl
set_option maxRecDepth 100000 in
theorem mcd_226 : mj_cdk mj_r226 := Or.inr rfl
set_option maxRecDepth 100000 in
theorem mcd_227 : mj_cdk mj_r227 := Or.inr rfl
set_option maxRecDepth 100000 in
theorem mcd_228 : mj_cdk mj_r228 := Or.inr rfl
set_option maxRecDepth 100000 in
theorem mcd_229 : mj_cdk mj_r229 := Or.inr rfl
set_option maxRecDepth 100000 in
theorem mcd_230 : mj_cdk mj_r230 := Or.inr rfl
set_option maxRecDepth 100000 in
theorem mcd_231 : mj_cdk mj_r231 := Or.inr rfl
set_option maxRecDepth 100000 in
theorem mcd_232 : mj_cdk mj_r232 := Or.inl rfl
set_option maxRecDepth 100000 in
theorem mcd_233 : mj_cdk mj_r233 := Or.inr rfl
set_option maxRecDepth 100000 in
theorem mcd_234 : mj_cdk mj_r234 := Or.inr rfl
set_option maxRecDepth 100000 in
theorem mcd_235 : mj_cdk mj_r235 := Or.inr rfl
set_option maxRecDepth 100000 in
theorem mcd_236 : mj_cdk mj_r236 := Or.inr rfl
set_option maxRecDepth 100000 in
theorem mcd_237 : mj_cdk mj_r237 := Or.inr rfl
set_option maxRecDepth 100000 in
theorem mcd_238 : mj_cdk mj_r238 := Or.inr rfl
set_option maxRecDepth 100000 in
theorem mcd_239 : mj_cdk mj_r239 := Or.inr rfl
set_option maxRecDepth 100000 in
theorem mcd_240 : mj_cdk mj_r240 := Or.inr rfl
theorem mk_0 : mj_mck mj_r0 = true := by decide +kernel
theorem mk_1 : mj_mck mj_r1 = true := by decide +kernel
theorem mk_2 : mj_mck mj_r2 = true := by decide +kernel
theorem mk_3 : mj_mck mj_r3 = true := by decide +kernel
theorem mk_4 : mj_mck mj_r4 = true := by decide +kernel
theorem mk_5 : mj_mck mj_r5 = true := by decide +kernel
theorem mk_6 : mj_mck mj_r6 = true := by decide +kernel
theorem mk_7 : mj_mck mj_r7 = true := by decide +kernel
theorem mk_8 : mj_mck mj_r8 = true := by decide +kernel
theorem mk_9 : mj_mck mj_r9 = true := by decide +kernel
theorem mk_10 : mj_mck mj_r10 = true := by decide +kernel
theorem mk_11 : mj_mck mj_r11 = true := by decide +kernel
theorem mk_12 : mj_mck mj_r12 = true := by decide +kernel
theorem mk_13 : mj_mck mj_r13 = true := by decide +kernel
theorem mk_14 : mj_mck mj_r14 = true := by decide +kernel
theorem mk_15 : mj_mck mj_r15 = true := by decide +kernel
theorem mk_16 : mj_mck mj_r16 = true := by decide +kernel
theorem mk_17 : mj_mck mj_r17 = true := by decide +kernel
theorem mk_18 : mj_mck mj_r18 = true := by decide +kernel
theorem mk_19 : mj_mck mj_r19 = true := by decide +kernel
theorem mk_20 : mj_mck mj_r20 = true := by decide +kernel
theorem mk_21 : mj_mck mj_r21 = true := by decide +kernel
theorem mk_22 : mj_mck mj_r22 = true := by decide +kernel
theorem mk_23 : mj_mck mj_r23 = true := by decide +kernel
theorem mk_24 : mj_mck mj_r24 = true := by decide +kernel
theorem mk_25 : mj_mck mj_r25 = true := by decide +kernel
theorem mk_26 : mj_mck mj_r26 = true := by decide +kernel
theorem mk_27 : mj_mck mj_r27 = true := by decide +kernel
theorem mk_28 : mj_mck mj_r28 = true := by decide +kernel
theorem mk_29 : mj_mck mj_r29 = true := by decide +kernel
theorem mk_30 : mj_mck mj_r30 = true := by decide +kernel
theorem mk_31 : mj_mck mj_r31 = true := by decide +kernel
theorem mk_32 : mj_mck mj_r32 = true := by decide +kernel
theorem mk_33 : mj_mck mj_r33 = true := by decide +kernel
theorem mk_34 : mj_mck mj_r34 = true := by decide +kernel
theorem mk_35 : mj_mck mj_r35 = true := by decide +kernel
theorem mk_36 : mj_mck mj_r36 = true := by decide +kernel
theorem mk_37 : mj_mck mj_r37 = true := by decide +kernel
theorem mk_38 : mj_mck mj_r38 = true := by decide +kernel
theorem mk_39 : mj_mck mj_r39 = true := by decide +kernel
theorem mk_40 : mj_mck mj_r40 = true := by decide +kernel
theorem mk_41 : mj_mck mj_r41 = true := by decide +kernel
theorem mk_42 : mj_mck mj_r42 = true := by decide +kernel
theorem mk_43 : mj_mck mj_r43 = true := by decide +kernel
theorem mk_44 : mj_mck mj_r44 = true := by decide +kernel
theorem mk_45 : mj_mck mj_r45 = true := by decide +kernel
theorem mk_46 : mj_mck mj_r46 = true := by decide +kernel
theorem mk_47 : mj_mck mj_r47 = true := by decide +kernel
theorem mk_48 : mj_mck mj_r48 = true := by decide +kernel
theorem mk_49 : mj_mck mj_r49 = true := by decide +kernel
theorem mk_50 : mj_mck mj_r50 = true := by decide +kernel
theorem mk_51 : mj_mck mj_r51 = true := by decide +kernel
theorem mk_52 : mj_mck mj_r52 = true := by decide +kernel
theorem mk_53 : mj_mck mj_r53 = true := by decide +kernel
theorem mk_54 : mj_mck mj_r54 = true := by decide +kernel
theorem mk_55 : mj_mck mj_r55 = true := by decide +kernel
theorem mk_56 : mj_mck mj_r56 = true := by decide +kernel
theorem mk_57 : mj_mck mj_r57 = true := by decide +kernel
theorem mk_58 : mj_mck mj_r58 = true := by decide +kernel
theorem mk_59 : mj_mck mj_r59 = true := by decide +kernel
theorem mk_60 : mj_mck mj_r60 = true := by decide +kernel
theorem mk_61 : mj_mck mj_r61 = true := by decide +kernel
theorem mk_62 : mj_mck mj_r62 = true := by decide +kernel
theorem mk_63 : mj_mck mj_r63 = true := by decide +kernel
theorem mk_64 : mj_mck mj_r64 = true := by decide +kernel
theorem mk_65 : mj_mck mj_r65 = true := by decide +kernel
theorem mk_66 : mj_mck mj_r66 = true := by decide +kernel
theorem mk_67 : mj_mck mj_r67 = true := by decide +kernel
theorem mk_68 : mj_mck mj_r68 = true := by decide +kernel
theorem mk_69 : mj_mck mj_r69 = true := by decide +kernel
theorem mk_70 : mj_mck mj_r70 = true := by decide +kernel
theorem mk_71 : mj_mck mj_r71 = true := by decide +kernel
theorem mk_72 : mj_mck mj_r72 = true := by decide +kernel
theorem mk_73 : mj_mck mj_r73 = true := by decide +kernel
theorem mk_74 : mj_mck mj_r74 = true := by decide +kernel
theorem mk_75 : mj_mck mj_r75 = true := by decide +kernel
theorem mk_76 : mj_mck mj_r76 = true := by decide +kernel
theorem mk_77 : mj_mck mj_r77 = true := by decide +kernel
theorem mk_78 : mj_mck mj_r78 = true := by decide +kernel
theorem mk_79 : mj_mck mj_r79 = true := by decide +kernel
theorem mk_80 : mj_mck mj_r80 = true := by decide +kernel
theorem mk_81 : mj_mck mj_r81 = true := by decide +kernel
theorem mk_82 : mj_mck mj_r82 = true := by decide +kernel
theorem mk_83 : mj_mck mj_r83 = true := by decide +kernel
theorem mk_84 : mj_mck mj_r84 = true := by decide +kernel
theorem mk_85 : mj_mck mj_r85 = true := by decide +kernel
theorem mk_86 : mj_mck mj_r86 = true := by decide +kernel
theorem mk_87 : mj_mck mj_r87 = true := by decide +kernel
theorem mk_88 : mj_mck mj_r88 = true := by decide +kernel
theorem mk_89 : mj_mck mj_r89 = true := by decide +kernel
theorem mk_90 : mj_mck mj_r90 = true := by decide +kernel
theorem mk_91 : mj_mck mj_r91 = true := by decide +kernel
theorem mk_92 : mj_mck mj_r92 = true := by decide +kernel
theorem mk_93 : mj_mck mj_r93 = true := by decide +kernel
theorem mk_94 : mj_mck mj_r94 = true := by decide +kernel
theorem mk_95 : mj_mck mj_r95 = true := by decide +kernel
theorem mk_96 : mj_mck mj_r96 = true := by decide +kernel
theorem mk_97 : mj_mck mj_r97 = true := by decide +kernel
theorem mk_98 : mj_mck mj_r98 = true := by decide +kernel
theorem mk_99 : mj_mck mj_r99 = true := by decide +kernel
theorem mk_100 : mj_mck mj_r100 = true := by decide +kernel
theorem mk_101 : mj_mck mj_r101 = true := by decide +kernel
theorem mk_102 : mj_mck mj_r102 = true := by decide +kernel
theorem mk_103 : mj_mck mj_r103 = true := by decide +kernel
theorem mk_104 : mj_mck mj_r104 = true := by decide +kernel
theorem mk_105 : mj_mck mj_r105 = true := by decide +kernel
theorem mk_106 : mj_mck mj_r106 = true := by decide +kernel
theorem mk_107 : mj_mck mj_r107 = true := by decide +kernel
theorem mk_108 : mj_mck mj_r108 = true := by decide +kernel
theorem mk_109 : mj_mck mj_r109 = true := by decide +kernel
theorem mk_110 : mj_mck mj_r110 = true := by decide +kernel
theorem mk_111 : mj_mck mj_r111 = true := by decide +kernel
theorem mk_112 : mj_mck mj_r112 = true := by decide +kernel
theorem mk_113 : mj_mck mj_r113 = true := by decide +kernel
theorem mk_114 : mj_mck mj_r114 = true := by decide +kernel
theorem mk_115 : mj_mck mj_r115 = true := by decide +kernel
theorem mk_116 : mj_mck mj_r116 = true := by decide +kernel
theorem mk_117 : mj_mck mj_r117 = true := by decide +kernel
theorem mk_118 : mj_mck mj_r118 = true := by decide +kernel
theorem mk_119 : mj_mck mj_r119 = true := by decide +kernel
theorem mk_120 : mj_mck mj_r120 = true := by decide +kernel
theorem mk_121 : mj_mck mj_r121 = true := by decide +kernel
theorem mk_122 : mj_mck mj_r122 = true := by decide +kernel
theorem mk_123 : mj_mck mj_r123 = true := by decide +kernel
theorem mk_124 : mj_mck mj_r124 = true := by decide +kernel
theorem mk_125 : mj_mck mj_r125 = true := by decide +kernel
theorem mk_126 : mj_mck mj_r126 = true := by decide +kernel
theorem mk_127 : mj_mck mj_r127 = true := by decide +kernel
theorem mk_128 : mj_mck mj_r128 = true := by decide +kernel
theorem mk_129 : mj_mck mj_r129 = true := by decide +kernel
theorem mk_130 : mj_mck mj_r130 = true := by decide +kernel
theorem mk_131 : mj_mck mj_r131 = true := by decide +kernel
theorem mk_132 : mj_mck mj_r132 = true := by decide +kernel
theorem mk_133 : mj_mck mj_r133 = true := by decide +kernel
theorem mk_134 : mj_mck mj_r134 = true := by decide +kernel
theorem mk_135 : mj_mck mj_r135 = true := by decide +kernel
theorem mk_136 : mj_mck mj_r136 = true := by decide +kernel
theorem mk_137 : mj_mck mj_r137 = true := by decide +kernel
theorem mk_138 : mj_mck mj_r138 = true := by decide +kernel
theorem mk_139 : mj_mck mj_r139 = true := by decide +kernel
theorem mk_140 : mj_mck mj_r140 = true := by decide +kernel
theorem mk_141 : mj_mck mj_r141 = true := by decide +kernel
theorem mk_142 : mj_mck mj_r142 = true := by decide +kernel
theorem mk_143 : mj_mck mj_r143 = true := by decide +kernel
theorem mk_144 : mj_mck mj_r144 = true := by decide +kernel
theorem mk_145 : mj_mck mj_r145 = true := by decide +kernel
theorem mk_146 : mj_mck mj_r146 = true := by decide +kernel
theorem mk_147 : mj_mck mj_r147 = true := by decide +kernel
theorem mk_148 : mj_mck mj_r148 = true := by decide +kernel
theorem mk_149 : mj_mck mj_r149 = true := by decide +kernel
theorem mk_150 : mj_mck mj_r150 = true := by decide +kernel
theorem mk_151 : mj_mck mj_r151 = true := by decide +kernel
theorem mk_152 : mj_mck mj_r152 = true := by decide +kernel
theorem mk_153 : mj_mck mj_r153 = true := by decide +kernel
theorem mk_154 : mj_mck mj_r154 = true := by decide +kernel
theorem mk_155 : mj_mck mj_r155 = true := by decide +kernel
theorem mk_156 : mj_mck mj_r156 = true := by decide +kernel
theorem mk_157 : mj_mck mj_r157 = true := by decide +kernel
theorem mk_158 : mj_mck mj_r158 = true := by decide +kernel
theorem mk_159 : mj_mck mj_r159 = true := by decide +kernel
theorem mk_160 : mj_mck mj_r160 = true := by decide +kernel
theorem mk_161 : mj_mck mj_r161 = true := by decide +kernel
theorem mk_162 : mj_mck mj_r162 = true := by decide +kernel
theorem mk_163 : mj_mck mj_r163 = true := by decide +kernel
theorem mk_164 : mj_mck mj_r164 = true := by decide +kernel
theorem mk_165 : mj_mck mj_r165 = true := by decide +kernel
theorem mk_166 : mj_mck mj_r166 = true := by decide +kernel
theorem mk_167 : mj_mck mj_r167 = true := by decide +kernel
theorem mk_168 : mj_mck mj_r168 = true := by decide +kernel
theorem mk_169 : mj_mck mj_r169 = true := by decide +kernel
theorem mk_170 : mj_mck mj_r170 = true := by decide +kernel
theorem mk_171 : mj_mck mj_r171 = true := by decide +kernel
theorem mk_172 : mj_mck mj_r172 = true := by decide +kernel
theorem mk_173 : mj_mck mj_r173 = true := by decide +kernel
theorem mk_174 : mj_mck mj_r174 = true := by decide +kernel
theorem mk_175 : mj_mck mj_r175 = true := by decide +kernel
theorem mk_176 : mj_mck mj_r176 = true := by decide +kernel
theorem mk_177 : mj_mck mj_r177 = true := by decide +kernel
theorem mk_178 : mj_mck mj_r178 = true := by decide +kernel
theorem mk_179 : mj_mck mj_r179 = true := by decide +kernel
theorem mk_180 : mj_mck mj_r180 = true := by decide +kernel
theorem mk_181 : mj_mck mj_r181 = true := by decide +kernel
theorem mk_182 : mj_mck mj_r182 = true := by decide +kernel
theorem mk_183 : mj_mck mj_r183 = true := by decide +kernel
theorem mk_184 : mj_mck mj_r184 = true := by decide +kernel
theorem mk_185 : mj_mck mj_r185 = true := by decide +kernel
theorem mk_186 : mj_mck mj_r186 = true := by decide +kernel
theorem mk_187 : mj_mck mj_r187 = true := by decide +kernel
theorem mk_188 : mj_mck mj_r188 = true := by decide +kernel
theorem mk_189 : mj_mck mj_r189 = true := by decide +kernel
theorem mk_190 : mj_mck mj_r190 = true := by decide +kernel
theorem mk_191 : mj_mck mj_r191 = true := by decide +kernel
theorem mk_192 : mj_mck mj_r192 = true := by decide +kernel
theorem mk_193 : mj_mck mj_r193 = true := by decide +kernel
theorem mk_194 : mj_mck mj_r194 = true := by decide +kernel
theorem mk_195 : mj_mck mj_r195 = true := by decide +kernel
theorem mk_196 : mj_mck mj_r196 = true := by decide +kernel
theorem mk_197 : mj_mck mj_r197 = true := by decide +kernel
theorem mk_198 : mj_mck mj_r198 = true := by decide +kernel
theorem mk_199 : mj_mck mj_r199 = true := by decide +kernel
theorem mk_200 : mj_mck mj_r200 = true := by decide +kernel
theorem mk_201 : mj_mck mj_r201 = true := by decide +kernel
theorem mk_202 : mj_mck mj_r202 = true := by decide +kernel
theorem mk_203 : mj_mck mj_r203 = true := by decide +kernel
theorem mk_204 : mj_mck mj_r204 = true := by decide +kernel
theorem mk_205 : mj_mck mj_r205 = true := by decide +kernel
theorem mk_206 : mj_mck mj_r206 = true := by decide +kernel
theorem mk_207 : mj_mck mj_r207 = true := by decide +kernel
theorem mk_208 : mj_mck mj_r208 = true := by decide +kernel
theorem mk_209 : mj_mck mj_r209 = true := by decide +kernel
theorem mk_210 : mj_mck mj_r210 = true := by decide +kernel
theorem mk_211 : mj_mck mj_r211 = true := by decide +kernel
theorem mk_212 : mj_mck mj_r212 = true := by decide +kernel
theorem mk_213 : mj_mck mj_r213 = true := by decide +kernel
theorem mk_214 : mj_mck mj_r214 = true := by decide +kernel
theorem mk_215 : mj_mck mj_r215 = true := by decide +kernel
theorem mk_216 : mj_mck mj_r216 = true := by decide +kernel
theorem mk_217 : mj_mck mj_r217 = true := by decide +kernel
theorem mk_218 : mj_mck mj_r218 = true := by decide +kernel
theorem mk_219 : mj_mck mj_r219 = true := by decide +kernel
theorem mk_220 : mj_mck mj_r220 = true := by decide +kernel
theorem mk_221 : mj_mck mj_r221 = true := by decide +kernel
theorem mk_222 : mj_mck mj_r222 = true := by decide +kernel
theorem mk_223 : mj_mck mj_r223 = true := by decide +kernel
theorem mk_224 : mj_mck mj_r224 = true := by decide +kernel
theorem mk_225 : mj_mck mj_r225 = true := by decide +kernel
theorem mk_226 : mj_mck mj_r226 = true := by decide +kernel
theorem mk_227 : mj_mck mj_r227 = true := by decide +kernel
theorem mk_228 : mj_mck mj_r228 = true := by decide +kernel
theorem mk_229 : mj_mck mj_r229 = true := by decide +kernel
theorem mk_230 : mj_mck mj_r230 = true := by decide +kernel
theorem mk_231 : mj_mck mj_r231 = true := by decide +kernel
theorem mk_232 : mj_mck mj_r232 = true := by decide +kernel
theorem mk_233 : mj_mck mj_r233 = true := by decide +kernel
theorem mk_234 : mj_mck mj_r234 = true := by decide +kernel
theorem mk_235 : mj_mck mj_r235 = true := by decide +kernel
theorem mk_236 : mj_mck mj_r236 = true := by decide +kernel
theorem mk_237 : mj_mck mj_r237 = true := by decide +kernel
theorem mk_238 : mj_mck mj_r238 = true := by decide +kernel
theorem mk_239 : mj_mck mj_r239 = true := by decide +kernel
theorem mk_240 : mj_mck mj_r240 = true := by decide +kernel
theorem mkc_0 : ∀ me ∈ ([mj_r0, mj_r1, mj_r2, mj_r3, mj_r4, mj_r5, mj_r6, mj_r7, mj_r8, mj_r9, mj_r10, mj_r11, mj_r12, mj_r13, mj_r14, mj_r15] : List mj_I), mj_mck me = true := List.forall_mem_cons.mpr ⟨mk_0, List.forall_mem_cons.mpr ⟨mk_1, List.forall_mem_cons.mpr ⟨mk_2, List.forall_mem_cons.mpr ⟨mk_3, List.forall_mem_cons.mpr ⟨mk_4, List.forall_mem_cons.mpr ⟨mk_5, List.forall_mem_cons.mpr ⟨mk_6, List.forall_mem_cons.mpr ⟨mk_7, List.forall_mem_cons.mpr ⟨mk_8, List.forall_mem_cons.mpr ⟨mk_9, List.forall_mem_cons.mpr ⟨mk_10, List.forall_mem_cons.mpr ⟨mk_11, List.forall_mem_cons.mpr ⟨mk_12, List.forall_mem_cons.mpr ⟨mk_13, List.forall_mem_cons.mpr ⟨mk_14, List.forall_mem_cons.mpr ⟨mk_15, fun _ h => absurd h List.not_mem_nil⟩⟩⟩⟩⟩⟩⟩⟩⟩⟩⟩⟩⟩⟩⟩⟩
theorem mkc_1 : ∀ me ∈ ([mj_r16, mj_r17, mj_r18, mj_r19, mj_r20, mj_r21, mj_r22, mj_r23, mj_r24, mj_r25, mj_r26, mj_r27, mj_r28, mj_r29, mj_r30, mj_r31] : List mj_I), mj_mck me = true := List.forall_mem_cons.mpr ⟨mk_16, List.forall_mem_cons.mpr ⟨mk_17, List.forall_mem_cons.mpr ⟨mk_18, List.forall_mem_cons.mpr ⟨mk_19, List.forall_mem_cons.mpr ⟨mk_20, List.forall_mem_cons.mpr ⟨mk_21, List.forall_mem_cons.mpr ⟨mk_22, List.forall_mem_cons.mpr ⟨mk_23, List.forall_mem_cons.mpr ⟨mk_24, List.forall_mem_cons.mpr ⟨mk_25, List.forall_mem_cons.mpr ⟨mk_26, List.forall_mem_cons.mpr ⟨mk_27, List.forall_mem_cons.mpr ⟨mk_28, List.forall_mem_cons.mpr ⟨mk_29, List.forall_mem_cons.mpr ⟨mk_30, List.forall_mem_cons.mpr ⟨mk_31, fun _ h => absurd h List.not_mem_nil⟩⟩⟩⟩⟩⟩⟩⟩⟩⟩⟩⟩⟩⟩⟩⟩
theorem mkc_2 : ∀ me ∈ ([mj_r32, mj_r33, mj_r34, mj_r35, mj_r36, mj_r37, mj_r38, mj_r39, mj_r40, mj_r41, mj_r42, mj_r43, mj_r44, mj_r45, mj_r46, mj_r47] : List mj_I), mj_mck me = true := List.forall_mem_cons.mpr ⟨mk_32, List.forall_mem_cons.mpr ⟨mk_33, List.forall_mem_cons.mpr ⟨mk_34, List.forall_mem_cons.mpr ⟨mk_35, List.forall_mem_cons.mpr ⟨mk_36, List.forall_mem_cons.mpr ⟨mk_37, List.forall_mem_cons.mpr ⟨mk_38, List.forall_mem_cons.mpr ⟨mk_39, List.forall_mem_cons.mpr ⟨mk_40, List.forall_mem_cons.mpr ⟨mk_41, List.forall_mem_cons.mpr ⟨mk_42, List.forall_mem_cons.mpr ⟨mk_43, List.forall_mem_cons.mpr ⟨mk_44, List.forall_mem_cons.mpr ⟨mk_45, List.forall_mem_cons.mpr ⟨mk_46, List.forall_mem_cons.mpr ⟨mk_47, fun _ h => absurd h List.not_mem_nil⟩⟩⟩⟩⟩⟩⟩⟩⟩⟩⟩⟩⟩⟩⟩⟩
theorem mkc_3 : ∀ me ∈ ([mj_r48, mj_r49, mj_r50, mj_r51, mj_r52, mj_r53, mj_r54, mj_r55, mj_r56, mj_r57, mj_r58, mj_r59, mj_r60, mj_r61, mj_r62, mj_r63] : List mj_I), mj_mck me = true := List.forall_mem_cons.mpr ⟨mk_48, List.forall_mem_cons.mpr ⟨mk_49, List.forall_mem_cons.mpr ⟨mk_50, List.forall_mem_cons.mpr ⟨mk_51, List.forall_mem_cons.mpr ⟨mk_52, List.forall_mem_cons.mpr ⟨mk_53, List.forall_mem_cons.mpr ⟨mk_54, List.forall_mem_cons.mpr ⟨mk_55, List.forall_mem_cons.mpr ⟨mk_56, List.forall_mem_cons.mpr ⟨mk_57, List.forall_mem_cons.mpr ⟨mk_58, List.forall_mem_cons.mpr ⟨mk_59, List.forall_mem_cons.mpr ⟨mk_60, List.forall_mem_cons.mpr ⟨mk_61, List.forall_mem_cons.mpr ⟨mk_62, List.forall_mem_cons.mpr ⟨mk_63, fun _ h => absurd h List.not_mem_nil⟩⟩⟩⟩⟩⟩⟩⟩⟩⟩⟩⟩⟩⟩⟩⟩
theorem mkc_4 : ∀ me ∈ ([mj_r64, mj_r65, mj_r66, mj_r67, mj_r68, mj_r69, mj_r70, mj_r71, mj_r72, mj_r73, mj_r74, mj_r75, mj_r76, mj_r77, mj_r78, mj_r79] : List mj_I), mj_mck me = true := List.forall_mem_cons.mpr ⟨mk_64, List.forall_mem_cons.mpr ⟨mk_65, List.forall_mem_cons.mpr ⟨mk_66, List.forall_mem_cons.mpr ⟨mk_67, List.forall_mem_cons.mpr ⟨mk_68, List.forall_mem_cons.mpr ⟨mk_69, List.forall_mem_cons.mpr ⟨mk_70, List.forall_mem_cons.mpr ⟨mk_71, List.forall_mem_cons.mpr ⟨mk_72, List.forall_mem_cons.mpr ⟨mk_73, List.forall_mem_cons.mpr ⟨mk_74, List.forall_mem_cons.mpr ⟨mk_75, List.forall_mem_cons.mpr ⟨mk_76, List.forall_mem_cons.mpr ⟨mk_77, List.forall_mem_cons.mpr ⟨mk_78, List.forall_mem_cons.mpr ⟨mk_79, fun _ h => absurd h List.not_mem_nil⟩⟩⟩⟩⟩⟩⟩⟩⟩⟩⟩⟩⟩⟩⟩⟩
theorem mkc_5 : ∀ me ∈ ([mj_r80, mj_r81, mj_r82, mj_r83, mj_r84, mj_r85, mj_r86, mj_r87, mj_r88, mj_r89, mj_r90, mj_r91, mj_r92, mj_r93, mj_r94, mj_r95] : List mj_I), mj_mck me = true := List.forall_mem_cons.mpr ⟨mk_80, List.forall_mem_cons.mpr ⟨mk_81, List.forall_mem_cons.mpr ⟨mk_82, List.forall_mem_cons.mpr ⟨mk_83, List.forall_mem_cons.mpr ⟨mk_84, List.forall_mem_cons.mpr ⟨mk_85, List.forall_mem_cons.mpr ⟨mk_86, List.forall_mem_cons.mpr ⟨mk_87, List.forall_mem_cons.mpr ⟨mk_88, List.forall_mem_cons.mpr ⟨mk_89, List.forall_mem_cons.mpr ⟨mk_90, List.forall_mem_cons.mpr ⟨mk_91, List.forall_mem_cons.mpr ⟨mk_92, List.forall_mem_cons.mpr ⟨mk_93, List.forall_mem_cons.mpr ⟨mk_94, List.forall_mem_cons.mpr ⟨mk_95, fun _ h => absurd h List.not_mem_nil⟩⟩⟩⟩⟩⟩⟩⟩⟩⟩⟩⟩⟩⟩⟩⟩
theorem mkc_6 : ∀ me ∈ ([mj_r96, mj_r97, mj_r98, mj_r99, mj_r100, mj_r101, mj_r102, mj_r103, mj_r104, mj_r105, mj_r106, mj_r107, mj_r108, mj_r109, mj_r110, mj_r111] : List mj_I), mj_mck me = true := List.forall_mem_cons.mpr ⟨mk_96, List.forall_mem_cons.mpr ⟨mk_97, List.forall_mem_cons.mpr ⟨mk_98, List.forall_mem_cons.mpr ⟨mk_99, List.forall_mem_cons.mpr ⟨mk_100, List.forall_mem_cons.mpr ⟨mk_101, List.forall_mem_cons.mpr ⟨mk_102, List.forall_mem_cons.mpr ⟨mk_103, List.forall_mem_cons.mpr ⟨mk_104, List.forall_mem_cons.mpr ⟨mk_105, List.forall_mem_cons.mpr ⟨mk_106, List.forall_mem_cons.mpr ⟨mk_107, List.forall_mem_cons.mpr ⟨mk_108, List.forall_mem_cons.mpr ⟨mk_109, List.forall_mem_cons.mpr ⟨mk_110, List.forall_mem_cons.mpr ⟨mk_111, fun _ h => absurd h List.not_mem_nil⟩⟩⟩⟩⟩⟩⟩⟩⟩⟩⟩⟩⟩⟩⟩⟩
theorem mkc_7 : ∀ me ∈ ([mj_r112, mj_r113, mj_r114, mj_r115, mj_r116, mj_r117, mj_r118, mj_r119, mj_r120, mj_r121, mj_r122, mj_r123, mj_r124, mj_r125, mj_r126, mj_r127] : List mj_I), mj_mck me = true := List.forall_mem_cons.mpr ⟨mk_112, List.forall_mem_cons.mpr ⟨mk_113, List.forall_mem_cons.mpr ⟨mk_114, List.forall_mem_cons.mpr ⟨mk_115, List.forall_mem_cons.mpr ⟨mk_116, List.forall_mem_cons.mpr ⟨mk_117, List.forall_mem_cons.mpr ⟨mk_118, List.forall_mem_cons.mpr ⟨mk_119, List.forall_mem_cons.mpr ⟨mk_120, List.forall_mem_cons.mpr ⟨mk_121, List.forall_mem_cons.mpr ⟨mk_122, List.forall_mem_cons.mpr ⟨mk_123, List.forall_mem_cons.mpr ⟨mk_124, List.forall_mem_cons.mpr ⟨mk_125, List.forall_mem_cons.mpr ⟨mk_126, List.forall_mem_cons.mpr ⟨mk_127, fun _ h => absurd h List.not_mem_nil⟩⟩⟩⟩⟩⟩⟩⟩⟩⟩⟩⟩⟩⟩⟩⟩
theorem mkc_8 : ∀ me ∈ ([mj_r128, mj_r129, mj_r130, mj_r131, mj_r132, mj_r133, mj_r134, mj_r135, mj_r136, mj_r137, mj_r138, mj_r139, mj_r140, mj_r141, mj_r142, mj_r143] : List mj_I), mj_mck me = true := List.forall_mem_cons.mpr ⟨mk_128, List.forall_mem_cons.mpr ⟨mk_129, List.forall_mem_cons.mpr ⟨mk_130, List.forall_mem_cons.mpr ⟨mk_131, List.forall_mem_cons.mpr ⟨mk_132, List.forall_mem_cons.mpr ⟨mk_133, List.forall_mem_cons.mpr ⟨mk_134, List.forall_mem_cons.mpr ⟨mk_135, List.forall_mem_cons.mpr ⟨mk_136, List.forall_mem_cons.mpr ⟨mk_137, List.forall_mem_cons.mpr ⟨mk_138, List.forall_mem_cons.mpr ⟨mk_139, List.forall_mem_cons.mpr ⟨mk_140, List.forall_mem_cons.mpr ⟨mk_141, List.forall_mem_cons.mpr ⟨mk_142, List.forall_mem_cons.mpr ⟨mk_143, fun _ h => absurd h List.not_mem_nil⟩⟩⟩⟩⟩⟩⟩⟩⟩⟩⟩⟩⟩⟩⟩⟩
theorem mkc_9 : ∀ me ∈ ([mj_r144, mj_r145, mj_r146, mj_r147, mj_r148, mj_r149, mj_r150, mj_r151, mj_r152, mj_r153, mj_r154, mj_r155, mj_r156, mj_r157, mj_r158, mj_r159] : List mj_I), mj_mck me = true := List.forall_mem_cons.mpr ⟨mk_144, List.forall_mem_cons.mpr ⟨mk_145, List.forall_mem_cons.mpr ⟨mk_146, List.forall_mem_cons.mpr ⟨mk_147, List.forall_mem_cons.mpr ⟨mk_148, List.forall_mem_cons.mpr ⟨mk_149, List.forall_mem_cons.mpr ⟨mk_150, List.forall_mem_cons.mpr ⟨mk_151, List.forall_mem_cons.mpr ⟨mk_152, List.forall_mem_cons.mpr ⟨mk_153, List.forall_mem_cons.mpr ⟨mk_154, List.forall_mem_cons.mpr ⟨mk_155, List.forall_mem_cons.mpr ⟨mk_156, List.forall_mem_cons.mpr ⟨mk_157, List.forall_mem_cons.mpr ⟨mk_158, List.forall_mem_cons.mpr ⟨mk_159, fun _ h => absurd h List.not_mem_nil⟩⟩⟩⟩⟩⟩⟩⟩⟩⟩⟩⟩⟩⟩⟩⟩
theorem mkc_10 : ∀ me ∈ ([mj_r160, mj_r161, mj_r162, mj_r163, mj_r164, mj_r165, mj_r166, mj_r167, mj_r168, mj_r169, mj_r170, mj_r171, mj_r172, mj_r173, mj_r174, mj_r175] : List mj_I), mj_mck me = true := List.forall_mem_cons.mpr ⟨mk_160, List.forall_mem_cons.mpr ⟨mk_161, List.forall_mem_cons.mpr ⟨mk_162, List.forall_mem_cons.mpr ⟨mk_163, List.forall_mem_cons.mpr ⟨mk_164, List.forall_mem_cons.mpr ⟨mk_165, List.forall_mem_cons.mpr ⟨mk_166, List.forall_mem_cons.mpr ⟨mk_167, List.forall_mem_cons.mpr ⟨mk_168, List.forall_mem_cons.mpr ⟨mk_169, List.forall_mem_cons.mpr ⟨mk_170, List.forall_mem_cons.mpr ⟨mk_171, List.forall_mem_cons.mpr ⟨mk_172, List.forall_mem_cons.mpr ⟨mk_173, List.forall_mem_cons.mpr ⟨mk_174, List.forall_mem_cons.mpr ⟨mk_175, fun _ h => absurd h List.not_mem_nil⟩⟩⟩⟩⟩⟩⟩⟩⟩⟩⟩⟩⟩⟩⟩⟩
theorem mkc_11 : ∀ me ∈ ([mj_r176, mj_r177, mj_r178, mj_r179, mj_r180, mj_r181, mj_r182, mj_r183, mj_r184, mj_r185, mj_r186, mj_r187, mj_r188, mj_r189, mj_r190, mj_r191] : List mj_I), mj_mck me = true := List.forall_mem_cons.mpr ⟨mk_176, List.forall_mem_cons.mpr ⟨mk_177, List.forall_mem_cons.mpr ⟨mk_178, List.forall_mem_cons.mpr ⟨mk_179, List.forall_mem_cons.mpr ⟨mk_180, List.forall_mem_cons.mpr ⟨mk_181, List.forall_mem_cons.mpr ⟨mk_182, List.forall_mem_cons.mpr ⟨mk_183, List.forall_mem_cons.mpr ⟨mk_184, List.forall_mem_cons.mpr ⟨mk_185, List.forall_mem_cons.mpr ⟨mk_186, List.forall_mem_cons.mpr ⟨mk_187, List.forall_mem_cons.mpr ⟨mk_188, List.forall_mem_cons.mpr ⟨mk_189, List.forall_mem_cons.mpr ⟨mk_190, List.forall_mem_cons.mpr ⟨mk_191, fun _ h => absurd h List.not_mem_nil⟩⟩⟩⟩⟩⟩⟩⟩⟩⟩⟩⟩⟩⟩⟩⟩
theorem mkc_12 : ∀ me ∈ ([mj_r192, mj_r193, mj_r194, mj_r195, mj_r196, mj_r197, mj_r198, mj_r199, mj_r200, mj_r201, mj_r202, mj_r203, mj_r204, mj_r205, mj_r206, mj_r207] : List mj_I), mj_mck me = true := List.forall_mem_cons.mpr ⟨mk_192, List.forall_mem_cons.mpr ⟨mk_193, List.forall_mem_cons.mpr ⟨mk_194, List.forall_mem_cons.mpr ⟨mk_195, List.forall_mem_cons.mpr ⟨mk_196, List.forall_mem_cons.mpr ⟨mk_197, List.forall_mem_cons.mpr ⟨mk_198, List.forall_mem_cons.mpr ⟨mk_199, List.forall_mem_cons.mpr ⟨mk_200, List.forall_mem_cons.mpr ⟨mk_201, List.forall_mem_cons.mpr ⟨mk_202, List.forall_mem_cons.mpr ⟨mk_203, List.forall_mem_cons.mpr ⟨mk_204, List.forall_mem_cons.mpr ⟨mk_205, List.forall_mem_cons.mpr ⟨mk_206, List.forall_mem_cons.mpr ⟨mk_207, fun _ h => absurd h List.not_mem_nil⟩⟩⟩⟩⟩⟩⟩⟩⟩⟩⟩⟩⟩⟩⟩⟩
theorem mkc_13 : ∀ me ∈ ([mj_r208, mj_r209, mj_r210, mj_r211, mj_r212, mj_r213, mj_r214, mj_r215, mj_r216, mj_r217, mj_r218, mj_r219, mj_r220, mj_r221, mj_r222, mj_r223] : List mj_I), mj_mck me = true := List.forall_mem_cons.mpr ⟨mk_208, List.forall_mem_cons.mpr ⟨mk_209, List.forall_mem_cons.mpr ⟨mk_210, List.forall_mem_cons.mpr ⟨mk_211, List.forall_mem_cons.mpr ⟨mk_212, List.forall_mem_cons.mpr ⟨mk_213, List.forall_mem_cons.mpr ⟨mk_214, List.forall_mem_cons.mpr ⟨mk_215, List.forall_mem_cons.mpr ⟨mk_216, List.forall_mem_cons.mpr ⟨mk_217, List.forall_mem_cons.mpr ⟨mk_218, List.forall_mem_cons.mpr ⟨mk_219, List.forall_mem_cons.mpr ⟨mk_220, List.forall_mem_cons.mpr ⟨mk_221, List.forall_mem_cons.mpr ⟨mk_222, List.forall_mem_cons.mpr ⟨mk_223, fun _ h => absurd h List.not_mem_nil⟩⟩⟩⟩⟩⟩⟩⟩⟩⟩⟩⟩⟩⟩⟩⟩
theorem mkc_14 : ∀ me ∈ ([mj_r224, mj_r225, mj_r226, mj_r227, mj_r228, mj_r229, mj_r230, mj_r231, mj_r232, mj_r233, mj_r234, mj_r235, mj_r236, mj_r237, mj_r238, mj_r239] : List mj_I), mj_mck me = true := List.forall_mem_cons.mpr ⟨mk_224, List.forall_mem_cons.mpr ⟨mk_225, List.forall_mem_cons.mpr ⟨mk_226, List.forall_mem_cons.mpr ⟨mk_227, List.forall_mem_cons.mpr ⟨mk_228, List.forall_mem_cons.mpr ⟨mk_229, List.forall_mem_cons.mpr ⟨mk_230, List.forall_mem_cons.mpr ⟨mk_231, List.forall_mem_cons.mpr ⟨mk_232, List.forall_mem_cons.mpr ⟨mk_233, List.forall_mem_cons.mpr ⟨mk_234, List.forall_mem_cons.mpr ⟨mk_235, List.forall_mem_cons.mpr ⟨mk_236, List.forall_mem_cons.mpr ⟨mk_237, List.forall_mem_cons.mpr ⟨mk_238, List.forall_mem_cons.mpr ⟨mk_239, fun _ h => absurd h List.not_mem_nil⟩⟩⟩⟩⟩⟩⟩⟩⟩⟩⟩⟩⟩⟩⟩⟩
theorem mkc_15 : ∀ me ∈ ([mj_r240] : List mj_I), mj_mck me = true := List.forall_mem_cons.mpr ⟨mk_240, fun _ h => absurd h List.not_mem_nil⟩
set_option maxRecDepth 100000 in
theorem mj_tab_ch : mj_tab = ([mj_r0, mj_r1, mj_r2, mj_r3, mj_r4, mj_r5, mj_r6, mj_r7, mj_r8, mj_r9, mj_r10, mj_r11, mj_r12, mj_r13, mj_r14, mj_r15] : List mj_I) ++ (([mj_r16, mj_r17, mj_r18, mj_r19, mj_r20, mj_r21, mj_r22, mj_r23, mj_r24, mj_r25, mj_r26, mj_r27, mj_r28, mj_r29, mj_r30, mj_r31] : List mj_I) ++ (([mj_r32, mj_r33, mj_r34, mj_r35, mj_r36, mj_r37, mj_r38, mj_r39, mj_r40, mj_r41, mj_r42, mj_r43, mj_r44, mj_r45, mj_r46, mj_r47] : List mj_I) ++ (([mj_r48, mj_r49, mj_r50, mj_r51, mj_r52, mj_r53, mj_r54, mj_r55, mj_r56, mj_r57, mj_r58, mj_r59, mj_r60, mj_r61, mj_r62, mj_r63] : List mj_I) ++ (([mj_r64, mj_r65, mj_r66, mj_r67, mj_r68, mj_r69, mj_r70, mj_r71, mj_r72, mj_r73, mj_r74, mj_r75, mj_r76, mj_r77, mj_r78, mj_r79] : List mj_I) ++ (([mj_r80, mj_r81, mj_r82, mj_r83, mj_r84, mj_r85, mj_r86, mj_r87, mj_r88, mj_r89, mj_r90, mj_r91, mj_r92, mj_r93, mj_r94, mj_r95] : List mj_I) ++ (([mj_r96, mj_r97, mj_r98, mj_r99, mj_r100, mj_r101, mj_r102, mj_r103, mj_r104, mj_r105, mj_r106, mj_r107, mj_r108, mj_r109, mj_r110, mj_r111] : List mj_I) ++ (([mj_r112, mj_r113, mj_r114, mj_r115, mj_r116, mj_r117, mj_r118, mj_r119, mj_r120, mj_r121, mj_r122, mj_r123, mj_r124, mj_r125, mj_r126, mj_r127] : List mj_I) ++ (([mj_r128, mj_r129, mj_r130, mj_r131, mj_r132, mj_r133, mj_r134, mj_r135, mj_r136, mj_r137, mj_r138, mj_r139, mj_r140, mj_r141, mj_r142, mj_r143] : List mj_I) ++ (([mj_r144, mj_r145, mj_r146, mj_r147, mj_r148, mj_r149, mj_r150, mj_r151, mj_r152, mj_r153, mj_r154, mj_r155, mj_r156, mj_r157, mj_r158, mj_r159] : List mj_I) ++ (([mj_r160, mj_r161, mj_r162, mj_r163, mj_r164, mj_r165, mj_r166, mj_r167, mj_r168, mj_r169, mj_r170, mj_r171, mj_r172, mj_r173, mj_r174, mj_r175] : List mj_I) ++ (([mj_r176, mj_r177, mj_r178, mj_r179, mj_r180, mj_r181, mj_r182, mj_r183, mj_r184, mj_r185, mj_r186, mj_r187, mj_r188, mj_r189, mj_r190, mj_r191] : List mj_I) ++ (([mj_r192, mj_r193, mj_r194, mj_r195, mj_r196, mj_r197, mj_r198, mj_r199, mj_r200, mj_r201, mj_r202, mj_r203, mj_r204, mj_r205, mj_r206, mj_r207] : List mj_I) ++ (([mj_r208, mj_r209, mj_r210, mj_r211, mj_r212, mj_r213, mj_r214, mj_r215, mj_r216, mj_r217, mj_r218, mj_r219, mj_r220, mj_r221, mj_r222, mj_r223] : List mj_I) ++ (([mj_r224, mj_r225, mj_r226, mj_r227, mj_r228, mj_r229, mj_r230, mj_r231, mj_r232, mj_r233, mj_r234, mj_r235, mj_r236, mj_r237, mj_r238, mj_r239] : List mj_I) ++ (([mj_r240] : List mj_I)))))))))))))))) := rfl
theorem mj_m_ok : ∀ me ∈ mj_tab, mj_mck me = true := by
  rw [mj_tab_ch]
  exact List.forall_mem_append.mpr ⟨mkc_0, List.forall_mem_append.mpr ⟨mkc_1, List.forall_mem_append.mpr ⟨mkc_2, List.forall_mem_append.mpr ⟨mkc_3, List.forall_mem_append.mpr ⟨mkc_4, List.forall_mem_append.mpr ⟨mkc_5, List.forall_mem_append.mpr ⟨mkc_6, List.forall_mem_append.mpr ⟨mkc_7, List.forall_mem_append.mpr ⟨mkc_8, List.forall_mem_append.mpr ⟨mkc_9, List.forall_mem_append.mpr ⟨mkc_10, List.forall_mem_append.mpr ⟨mkc_11, List.forall_mem_append.mpr ⟨mkc_12, List.forall_mem_append.mpr ⟨mkc_13, List.forall_mem_append.mpr ⟨mkc_14, mkc_15⟩⟩⟩⟩⟩⟩⟩⟩⟩⟩⟩⟩⟩⟩⟩
theorem mcc_0 : ∀ me ∈ ([mj_r0, mj_r1, mj_r2, mj_r3, mj_r4, mj_r5, mj_r6, mj_r7, mj_r8, mj_r9, mj_r10, mj_r11, mj_r12, mj_r13, mj_r14, mj_r15] : List mj_I), mj_cdk me := List.forall_mem_cons.mpr ⟨mcd_0, List.forall_mem_cons.mpr ⟨mcd_1, List.forall_mem_cons.mpr ⟨mcd_2, List.forall_mem_cons.mpr ⟨mcd_3, List.forall_mem_cons.mpr ⟨mcd_4, List.forall_mem_cons.mpr ⟨mcd_5, List.forall_mem_cons.mpr ⟨mcd_6, List.forall_mem_cons.mpr ⟨mcd_7, List.forall_mem_cons.mpr ⟨mcd_8, List.forall_mem_cons.mpr ⟨mcd_9, List.forall_mem_cons.mpr ⟨mcd_10, List.forall_mem_cons.mpr ⟨mcd_11, List.forall_mem_cons.mpr ⟨mcd_12, List.forall_mem_cons.mpr ⟨mcd_13, List.forall_mem_cons.mpr ⟨mcd_14, List.forall_mem_cons.mpr ⟨mcd_15, fun _ h => absurd h List.not_mem_nil⟩⟩⟩⟩⟩⟩⟩⟩⟩⟩⟩⟩⟩⟩⟩⟩
theorem mcc_1 : ∀ me ∈ ([mj_r16, mj_r17, mj_r18, mj_r19, mj_r20, mj_r21, mj_r22, mj_r23, mj_r24, mj_r25, mj_r26, mj_r27, mj_r28, mj_r29, mj_r30, mj_r31] : List mj_I), mj_cdk me := List.forall_mem_cons.mpr ⟨mcd_16, List.forall_mem_cons.mpr ⟨mcd_17, List.forall_mem_cons.mpr ⟨mcd_18, List.forall_mem_cons.mpr ⟨mcd_19, List.forall_mem_cons.mpr ⟨mcd_20, List.forall_mem_cons.mpr ⟨mcd_21, List.forall_mem_cons.mpr ⟨mcd_22, List.forall_mem_cons.mpr ⟨mcd_23, List.forall_mem_cons.mpr ⟨mcd_24, List.forall_mem_cons.mpr ⟨mcd_25, List.forall_mem_cons.mpr ⟨mcd_26, List.forall_mem_cons.mpr ⟨mcd_27, List.forall_mem_cons.mpr ⟨mcd_28, List.forall_mem_cons.mpr ⟨mcd_29, List.forall_mem_cons.mpr ⟨mcd_30, List.forall_mem_cons.mpr ⟨mcd_31, fun _ h => absurd h List.not_mem_nil⟩⟩⟩⟩⟩⟩⟩⟩⟩⟩⟩⟩⟩⟩⟩⟩
theorem mcc_2 : ∀ me ∈ ([mj_r32, mj_r33, mj_r34, mj_r35, mj_r36, mj_r37, mj_r38, mj_r39, mj_r40, mj_r41, mj_r42, mj_r43, mj_r44, mj_r45, mj_r46, mj_r47] : List mj_I), mj_cdk me := List.forall_mem_cons.mpr ⟨mcd_32, List.forall_mem_cons.mpr ⟨mcd_33, List.forall_mem_cons.mpr ⟨mcd_34, List.forall_mem_cons.mpr ⟨mcd_35, List.forall_mem_cons.mpr ⟨mcd_36, List.forall_mem_cons.mpr ⟨mcd_37, List.forall_mem_cons.mpr ⟨mcd_38, List.forall_mem_cons.mpr ⟨mcd_39, List.forall_mem_cons.mpr ⟨mcd_40, List.forall_mem_cons.mpr ⟨mcd_41, List.forall_mem_cons.mpr ⟨mcd_42, List.forall_mem_cons.mpr ⟨mcd_43, List.forall_mem_cons.mpr ⟨mcd_44, List.forall_mem_cons.mpr ⟨mcd_45, List.forall_mem_cons.mpr ⟨mcd_46, List.forall_mem_cons.mpr ⟨mcd_47, fun _ h => absurd h List.not_mem_nil⟩⟩⟩⟩⟩⟩⟩⟩⟩⟩⟩⟩⟩⟩⟩⟩
theorem mcc_3 : ∀ me ∈ ([mj_r48, mj_r49, mj_r50, mj_r51, mj_r52, mj_r53, mj_r54, mj_r55, mj_r56, mj_r57, mj_r58, mj_r59, mj_r60, mj_r61, mj_r62, mj_r63] : List mj_I), mj_cdk me := List.forall_mem_cons.mpr ⟨mcd_48, List.forall_mem_cons.mpr ⟨mcd_49, List.forall_mem_cons.mpr ⟨mcd_50, List.forall_mem_cons.mpr ⟨mcd_51, List.forall_mem_cons.mpr ⟨mcd_52, List.forall_mem_cons.mpr ⟨mcd_53, List.forall_mem_cons.mpr ⟨mcd_54, List.forall_mem_cons.mpr ⟨mcd_55, List.forall_mem_cons.mpr ⟨mcd_56, List.forall_mem_cons.mpr ⟨mcd_57, List.forall_mem_cons.mpr ⟨mcd_58, List.forall_mem_cons.mpr ⟨mcd_59, List.forall_mem_cons.mpr ⟨mcd_60, List.forall_mem_cons.mpr ⟨mcd_61, List.forall_mem_cons.mpr ⟨mcd_62, List.forall_mem_cons.mpr ⟨mcd_63, fun _ h => absurd h List.not_mem_nil⟩⟩⟩⟩⟩⟩⟩⟩⟩⟩⟩⟩⟩⟩⟩⟩
theorem mcc_4 : ∀ me ∈ ([mj_r64, mj_r65, mj_r66, mj_r67, mj_r68, mj_r69, mj_r70, mj_r71, mj_r72, mj_r73, mj_r74, mj_r75, mj_r76, mj_r77, mj_r78, mj_r79] : List mj_I), mj_cdk me := List.forall_mem_cons.mpr ⟨mcd_64, List.forall_mem_cons.mpr ⟨mcd_65, List.forall_mem_cons.mpr ⟨mcd_66, List.forall_mem_cons.mpr ⟨mcd_67, List.forall_mem_cons.mpr ⟨mcd_68, List.forall_mem_cons.mpr ⟨mcd_69, List.forall_mem_cons.mpr ⟨mcd_70, List.forall_mem_cons.mpr ⟨mcd_71, List.forall_mem_cons.mpr ⟨mcd_72, List.forall_mem_cons.mpr ⟨mcd_73, List.forall_mem_cons.mpr ⟨mcd_74, List.forall_mem_cons.mpr ⟨mcd_75, List.forall_mem_cons.mpr ⟨mcd_76, List.forall_mem_cons.mpr ⟨mcd_77, List.forall_mem_cons.mpr ⟨mcd_78, List.forall_mem_cons.mpr ⟨mcd_79, fun _ h => absurd h List.not_mem_nil⟩⟩⟩⟩⟩⟩⟩⟩⟩⟩⟩⟩⟩⟩⟩⟩
theorem mcc_5 : ∀ me ∈ ([mj_r80, mj_r81, mj_r82, mj_r83, mj_r84, mj_r85, mj_r86, mj_r87, mj_r88, mj_r89, mj_r90, mj_r91, mj_r92, mj_r93, mj_r94, mj_r95] : List mj_I), mj_cdk me := List.forall_mem_cons.mpr ⟨mcd_80, List.forall_mem_cons.mpr ⟨mcd_81, List.forall_mem_cons.mpr ⟨mcd_82, List.forall_mem_cons.mpr ⟨mcd_83, List.forall_mem_cons.mpr ⟨mcd_84, List.forall_mem_cons.mpr ⟨mcd_85, List.forall_mem_cons.mpr ⟨mcd_86, List.forall_mem_cons.mpr ⟨mcd_87, List.forall_mem_cons.mpr ⟨mcd_88, List.forall_mem_cons.mpr ⟨mcd_89, List.forall_mem_cons.mpr ⟨mcd_90, List.forall_mem_cons.mpr ⟨mcd_91, List.forall_mem_cons.mpr ⟨mcd_92, List.forall_mem_cons.mpr ⟨mcd_93, List.forall_mem_cons.mpr ⟨mcd_94, List.forall_mem_cons.mpr ⟨mcd_95, fun _ h => absurd h List.not_mem_nil⟩⟩⟩⟩⟩⟩⟩⟩⟩⟩⟩⟩⟩⟩⟩⟩
theorem mcc_6 : ∀ me ∈ ([mj_r96, mj_r97, mj_r98, mj_r99, mj_r100, mj_r101, mj_r102, mj_r103, mj_r104, mj_r105, mj_r106, mj_r107, mj_r108, mj_r109, mj_r110, mj_r111] : List mj_I), mj_cdk me := List.forall_mem_cons.mpr ⟨mcd_96, List.forall_mem_cons.mpr ⟨mcd_97, List.forall_mem_cons.mpr ⟨mcd_98, List.forall_mem_cons.mpr ⟨mcd_99, List.forall_mem_cons.mpr ⟨mcd_100, List.forall_mem_cons.mpr ⟨mcd_101, List.forall_mem_cons.mpr ⟨mcd_102, List.forall_mem_cons.mpr ⟨mcd_103, List.forall_mem_cons.mpr ⟨mcd_104, List.forall_mem_cons.mpr ⟨mcd_105, List.forall_mem_cons.mpr ⟨mcd_106, List.forall_mem_cons.mpr ⟨mcd_107, List.forall_mem_cons.mpr ⟨mcd_108, List.forall_mem_cons.mpr ⟨mcd_109, List.forall_mem_cons.mpr ⟨mcd_110, List.forall_mem_cons.mpr ⟨mcd_111, fun _ h => absurd h List.not_mem_nil⟩⟩⟩⟩⟩⟩⟩⟩⟩⟩⟩⟩⟩⟩⟩⟩
theorem mcc_7 : ∀ me ∈ ([mj_r112, mj_r113, mj_r114, mj_r115, mj_r116, mj_r117, mj_r118, mj_r119, mj_r120, mj_r121, mj_r122, mj_r123, mj_r124, mj_r125, mj_r126, mj_r127] : List mj_I), mj_cdk me := List.forall_mem_cons.mpr ⟨mcd_112, List.forall_mem_cons.mpr ⟨mcd_113, List.forall_mem_cons.mpr ⟨mcd_114, List.forall_mem_cons.mpr ⟨mcd_115, List.forall_mem_cons.mpr ⟨mcd_116, List.forall_mem_cons.mpr ⟨mcd_117, List.forall_mem_cons.mpr ⟨mcd_118, List.forall_mem_cons.mpr ⟨mcd_119, List.forall_mem_cons.mpr ⟨mcd_120, List.forall_mem_cons.mpr ⟨mcd_121, List.forall_mem_cons.mpr ⟨mcd_122, List.forall_mem_cons.mpr ⟨mcd_123, List.forall_mem_cons.mpr ⟨mcd_124, List.forall_mem_cons.mpr ⟨mcd_125, List.forall_mem_cons.mpr ⟨mcd_126, List.forall_mem_cons.mpr ⟨mcd_127, fun _ h => absurd h List.not_mem_nil⟩⟩⟩⟩⟩⟩⟩⟩⟩⟩⟩⟩⟩⟩⟩⟩
theorem mcc_8 : ∀ me ∈ ([mj_r128, mj_r129, mj_r130, mj_r131, mj_r132, mj_r133, mj_r134, mj_r135, mj_r136, mj_r137, mj_r138, mj_r139, mj_r140, mj_r141, mj_r142, mj_r143] : List mj_I), mj_cdk me := List.forall_mem_cons.mpr ⟨mcd_128, List.forall_mem_cons.mpr ⟨mcd_129, List.forall_mem_cons.mpr ⟨mcd_130, List.forall_mem_cons.mpr ⟨mcd_131, List.forall_mem_cons.mpr ⟨mcd_132, List.forall_mem_cons.mpr ⟨mcd_133, List.forall_mem_cons.mpr ⟨mcd_134, List.forall_mem_cons.mpr ⟨mcd_135, List.forall_mem_cons.mpr ⟨mcd_136, List.forall_mem_cons.mpr ⟨mcd_137, List.forall_mem_cons.mpr ⟨mcd_138, List.forall_mem_cons.mpr ⟨mcd_139, List.forall_mem_cons.mpr ⟨mcd_140, List.forall_mem_cons.mpr ⟨mcd_141, List.forall_mem_cons.mpr ⟨mcd_142, List.forall_mem_cons.mpr ⟨mcd_143, fun _ h => absurd h List.not_mem_nil⟩⟩⟩⟩⟩⟩⟩⟩⟩⟩⟩⟩⟩⟩⟩⟩
theorem mcc_9 : ∀ me ∈ ([mj_r144, mj_r145, mj_r146, mj_r147, mj_r148, mj_r149, mj_r150, mj_r151, mj_r152, mj_r153, mj_r154, mj_r155, mj_r156, mj_r157, mj_r158, mj_r159] : List mj_I), mj_cdk me := List.forall_mem_cons.mpr ⟨mcd_144, List.forall_mem_cons.mpr ⟨mcd_145, List.forall_mem_cons.mpr ⟨mcd_146, List.forall_mem_cons.mpr ⟨mcd_147, List.forall_mem_cons.mpr ⟨mcd_148, List.forall_mem_cons.mpr ⟨mcd_149, List.forall_mem_cons.mpr ⟨mcd_150, List.forall_mem_cons.mpr ⟨mcd_151, List.forall_mem_cons.mpr ⟨mcd_152, List.forall_mem_cons.mpr ⟨mcd_153, List.forall_mem_cons.mpr ⟨mcd_154, List.forall_mem_cons.mpr ⟨mcd_155, List.forall_mem_cons.mpr ⟨mcd_156, List.forall_mem_cons.mpr ⟨mcd_157, List.forall_mem_cons.mpr ⟨mcd_158, List.forall_mem_cons.mpr ⟨mcd_159, fun _ h => absurd h List.not_mem_nil⟩⟩⟩⟩⟩⟩⟩⟩⟩⟩⟩⟩⟩⟩⟩⟩
theorem mcc_10 : ∀ me ∈ ([mj_r160, mj_r161, mj_r162, mj_r163, mj_r164, mj_r165, mj_r166, mj_r167, mj_r168, mj_r169, mj_r170, mj_r171, mj_r172, mj_r173, mj_r174, mj_r175] : List mj_I), mj_cdk me := List.forall_mem_cons.mpr ⟨mcd_160, List.forall_mem_cons.mpr ⟨mcd_161, List.forall_mem_cons.mpr ⟨mcd_162, List.forall_mem_cons.mpr ⟨mcd_163, List.forall_mem_cons.mpr ⟨mcd_164, List.forall_mem_cons.mpr ⟨mcd_165, List.forall_mem_cons.mpr ⟨mcd_166, List.forall_mem_cons.mpr ⟨mcd_167, List.forall_mem_cons.mpr ⟨mcd_168, List.forall_mem_cons.mpr ⟨mcd_169, List.forall_mem_cons.mpr ⟨mcd_170, List.forall_mem_cons.mpr ⟨mcd_171, List.forall_mem_cons.mpr ⟨mcd_172, List.forall_mem_cons.mpr ⟨mcd_173, List.forall_mem_cons.mpr ⟨mcd_174, List.forall_mem_cons.mpr ⟨mcd_175, fun _ h => absurd h List.not_mem_nil⟩⟩⟩⟩⟩⟩⟩⟩⟩⟩⟩⟩⟩⟩⟩⟩
theorem mcc_11 : ∀ me ∈ ([mj_r176, mj_r177, mj_r178, mj_r179, mj_r180, mj_r181, mj_r182, mj_r183, mj_r184, mj_r185, mj_r186, mj_r187, mj_r188, mj_r189, mj_r190, mj_r191] : List mj_I), mj_cdk me := List.forall_mem_cons.mpr ⟨mcd_176, List.forall_mem_cons.mpr ⟨mcd_177, List.forall_mem_cons.mpr ⟨mcd_178, List.forall_mem_cons.mpr ⟨mcd_179, List.forall_mem_cons.mpr ⟨mcd_180, List.forall_mem_cons.mpr ⟨mcd_181, List.forall_mem_cons.mpr ⟨mcd_182, List.forall_mem_cons.mpr ⟨mcd_183, List.forall_mem_cons.mpr ⟨mcd_184, List.forall_mem_cons.mpr ⟨mcd_185, List.forall_mem_cons.mpr ⟨mcd_186, List.forall_mem_cons.mpr ⟨mcd_187, List.forall_mem_cons.mpr ⟨mcd_188, List.forall_mem_cons.mpr ⟨mcd_189, List.forall_mem_cons.mpr ⟨mcd_190, List.forall_mem_cons.mpr ⟨mcd_191, fun _ h => absurd h List.not_mem_nil⟩⟩⟩⟩⟩⟩⟩⟩⟩⟩⟩⟩⟩⟩⟩⟩
theorem mcc_12 : ∀ me ∈ ([mj_r192, mj_r193, mj_r194, mj_r195, mj_r196, mj_r197, mj_r198, mj_r199, mj_r200, mj_r201, mj_r202, mj_r203, mj_r204, mj_r205, mj_r206, mj_r207] : List mj_I), mj_cdk me := List.forall_mem_cons.mpr ⟨mcd_192, List.forall_mem_cons.mpr ⟨mcd_193, List.forall_mem_cons.mpr ⟨mcd_194, List.forall_mem_cons.mpr ⟨mcd_195, List.forall_mem_cons.mpr ⟨mcd_196, List.forall_mem_cons.mpr ⟨mcd_197, List.forall_mem_cons.mpr ⟨mcd_198, List.forall_mem_cons.mpr ⟨mcd_199, List.forall_mem_cons.mpr ⟨mcd_200, List.forall_mem_cons.mpr ⟨mcd_201, List.forall_mem_cons.mpr ⟨mcd_202, List.forall_mem_cons.mpr ⟨mcd_203, List.forall_mem_cons.mpr ⟨mcd_204, List.forall_mem_cons.mpr ⟨mcd_205, List.forall_mem_cons.mpr ⟨mcd_206, List.forall_mem_cons.mpr ⟨mcd_207, fun _ h => absurd h List.not_mem_nil⟩⟩⟩⟩⟩⟩⟩⟩⟩⟩⟩⟩⟩⟩⟩⟩
theorem mcc_13 : ∀ me ∈ ([mj_r208, mj_r209, mj_r210, mj_r211, mj_r212, mj_r213, mj_r214, mj_r215, mj_r216, mj_r217, mj_r218, mj_r219, mj_r220, mj_r221, mj_r222, mj_r223] : List mj_I), mj_cdk me := List.forall_mem_cons.mpr ⟨mcd_208, List.forall_mem_cons.mpr ⟨mcd_209, List.forall_mem_cons.mpr ⟨mcd_210, List.forall_mem_cons.mpr ⟨mcd_211, List.forall_mem_cons.mpr ⟨mcd_212, List.forall_mem_cons.mpr ⟨mcd_213, List.forall_mem_cons.mpr ⟨mcd_214, List.forall_mem_cons.mpr ⟨mcd_215, List.forall_mem_cons.mpr ⟨mcd_216, List.forall_mem_cons.mpr ⟨mcd_217, List.forall_mem_cons.mpr ⟨mcd_218, List.forall_mem_cons.mpr ⟨mcd_219, List.forall_mem_cons.mpr ⟨mcd_220, List.forall_mem_cons.mpr ⟨mcd_221, List.forall_mem_cons.mpr ⟨mcd_222, List.forall_mem_cons.mpr ⟨mcd_223, fun _ h => absurd h List.not_mem_nil⟩⟩⟩⟩⟩⟩⟩⟩⟩⟩⟩⟩⟩⟩⟩⟩
theorem mcc_14 : ∀ me ∈ ([mj_r224, mj_r225, mj_r226, mj_r227, mj_r228, mj_r229, mj_r230, mj_r231, mj_r232, mj_r233, mj_r234, mj_r235, mj_r236, mj_r237, mj_r238, mj_r239] : List mj_I), mj_cdk me := List.forall_mem_cons.mpr ⟨mcd_224, List.forall_mem_cons.mpr ⟨mcd_225, List.forall_mem_cons.mpr ⟨mcd_226, List.forall_mem_cons.mpr ⟨mcd_227, List.forall_mem_cons.mpr ⟨mcd_228, List.forall_mem_cons.mpr ⟨mcd_229, List.forall_mem_cons.mpr ⟨mcd_230, List.forall_mem_cons.mpr ⟨mcd_231, List.forall_mem_cons.mpr ⟨mcd_232, List.forall_mem_cons.mpr ⟨mcd_233, List.forall_mem_cons.mpr ⟨mcd_234, List.forall_mem_cons.mpr ⟨mcd_235, List.forall_mem_cons.mpr ⟨mcd_236, List.forall_mem_cons.mpr ⟨mcd_237, List.forall_mem_cons.mpr ⟨mcd_238, List.forall_mem_cons.mpr ⟨mcd_239, fun _ h => absurd h List.not_mem_nil⟩⟩⟩⟩⟩⟩⟩⟩⟩⟩⟩⟩⟩⟩⟩⟩
theorem mcc_15 : ∀ me ∈ ([mj_r240] : List mj_I), mj_cdk me := List.forall_mem_cons.mpr ⟨mcd_240, fun _ h => absurd h List.not_mem_nil⟩
theorem mj_cd_ok : ∀ me ∈ mj_tab, mj_cdk me := by
  rw [mj_tab_ch]
  exact List.forall_mem_append.mpr ⟨mcc_0, List.forall_mem_append.mpr ⟨mcc_1, List.forall_mem_append.mpr ⟨mcc_2, List.forall_mem_append.mpr ⟨mcc_3, List.forall_mem_append.mpr ⟨mcc_4, List.forall_mem_append.mpr ⟨mcc_5, List.forall_mem_append.mpr ⟨mcc_6, List.forall_mem_append.mpr ⟨mcc_7, List.forall_mem_append.mpr ⟨mcc_8, List.forall_mem_append.mpr ⟨mcc_9, List.forall_mem_append.mpr ⟨mcc_10, List.forall_mem_append.mpr ⟨mcc_11, List.forall_mem_append.mpr ⟨mcc_12, List.forall_mem_append.mpr ⟨mcc_13, List.forall_mem_append.mpr ⟨mcc_14, mcc_15⟩⟩⟩⟩⟩⟩⟩⟩⟩⟩⟩⟩⟩⟩⟩
theorem mj_w_smax : .static Lib.Math.max.name ∈ mj_w0 := mj_w0_in 454 (by decide +kernel) rfl
theorem mj_w_cmax : .code Lib.Math.max.name Lib.Math.max.code 2 (some .int) ∈ mj_w0 := mj_w0_in 455 (by decide +kernel) rfl
theorem mj_w_smin : .static Lib.Math.min.name ∈ mj_w0 := mj_w0_in 457 (by decide +kernel) rfl
theorem mj_w_cmin : .code Lib.Math.min.name Lib.Math.min.code 2 (some .int) ∈ mj_w0 := mj_w0_in 458 (by decide +kernel) rfl
theorem mj_w_math : .initialized "java/lang/Math" ∈ mj_w0 := mj_w0_in 99 (by decide +kernel) rfl
theorem mj_w_nat : .native arraycopyName ∈ mj_w0 := mj_w0_in 595 (by decide +kernel) rfl
theorem mj_w_sta : .static arraycopyName ∈ mj_w0 := mj_w0_in 594 (by decide +kernel) rfl
theorem mj_w_sys : .initialized "java/lang/System" ∈ mj_w0 := mj_w0_in 103 (by decide +kernel) rfl
end
section
def mj_A (ad : Nat → Nat) : Nat → Prop := fun q => ∃ i, i < 72 ∧ q = ad i
def mj_tr (ad : Nat → Nat) (v : Value) : Value := match v with
  | .ref a => .ref (ad a)
  | v => v
def mj_bt (j : Nat) : Int32 := ([99, 97, 108, 103, 115, 107, 102, 100, 109] : List Int32).getD j 0
def mj_cel (ad : Nat → Nat) (cI cB : ClassId) (M : mj_M) (i : Nat) : va_E := if mj_ial i ≠ 0 then .inl (cI, mj_ial i, .inl (M i)) else if mj_bal i ≠ 0 then .inl (cB, mj_bal i, .inl (M i)) else .inr (mj_ocl i, (List.range (mj_nf (mj_ocl i))).map (fun j => mj_tr ad (mj_fv M i j (mj_fk (mj_ocl i) j))))
def mj_ws (ad : Nat → Nat) (cI cB : ClassId) (M : mj_M) : va_W := (List.range 72).map (fun i => (ad i, mj_cel ad cI cB M i))
theorem mj_ws_get {ad : Nat → Nat} {cI cB : ClassId} {M : mj_M} {i : Nat} (h : i < 72) : (mj_ws ad cI cB M)[i]? = some (ad i, mj_cel ad cI cB M i) := by
  unfold mj_ws
  rw [List.getElem?_map, List.getElem?_range h]
  rfl
theorem mj_ws_none {ad : Nat → Nat} {cI cB : ClassId} {M : mj_M} {i : Nat} (h : ¬ i < 72) : (mj_ws ad cI cB M)[i]? = none := by
  apply List.getElem?_eq_none
  unfold mj_ws
  rw [List.length_map, List.length_range]
  omega
theorem mj_cel_cong {ad : Nat → Nat} {cI cB : ClassId} {M M' : mj_M} {i : Nat} (h : M' i = M i) : mj_cel ad cI cB M' i = mj_cel ad cI cB M i := by
  unfold mj_cel mj_fv
  rw [h]
theorem mj_ws_set {ad : Nat → Nat} {cI cB : ClassId} {M M' : mj_M} {i : Nat} {e : va_E} (hi : i < 72) (he : mj_cel ad cI cB M' i = e) (ho : ∀ j, j ≠ i → M' j = M j) : (mj_ws ad cI cB M).set i (ad i, e) = mj_ws ad cI cB M' := by
  apply List.ext_getElem?
  intro k
  rw [List.getElem?_set]
  by_cases hk : i = k
  · subst hk
    have hl : i < (mj_ws ad cI cB M).length := by
      unfold mj_ws
      rw [List.length_map, List.length_range]
      exact hi
    rw [if_pos rfl, if_pos hl, mj_ws_get hi, he]
  · rw [if_neg hk]
    by_cases hk2 : k < 72
    · rw [mj_ws_get hk2, mj_ws_get hk2, mj_cel_cong (ho k (fun e => hk e.symm))]
    · rw [mj_ws_none hk2, mj_ws_none hk2]
theorem mj_ws_D {ad : Nat → Nat} {cI cB : ClassId} {M : mj_M} (hinj : ∀ i j, i < 72 → j < 72 → ad i = ad j → i = j) : va_D (mj_A ad) (mj_ws ad cI cB M) := by
  constructor
  · intro i j p q hp hq e
    by_cases hi : i < 72
    · by_cases hj : j < 72
      · rw [mj_ws_get hi] at hp
        rw [mj_ws_get hj] at hq
        cases hp
        cases hq
        exact hinj i j hi hj e
      · rw [mj_ws_none hj] at hq; cases hq
    · rw [mj_ws_none hi] at hp; cases hp
  · intro k q hq
    by_cases hk : k < 72
    · rw [mj_ws_get hk] at hq
      cases hq
      exact ⟨k, hk, rfl⟩
    · rw [mj_ws_none hk] at hq; cases hq
theorem mj_o8 : ∀ a, a < 75 → mj_ocl a < 8 → a < 72 ∧ mj_ial a = 0 ∧ mj_bal a = 0 := by decide +kernel
theorem mj_o14 : ∀ a, a < 75 → mj_ocl a = 14 → a = 73 := by decide +kernel
theorem mj_obj {a ci : Nat} (h : mj_ocl a = ci) (hc : ci < 8) : a < 72 ∧ mj_ial a = 0 ∧ mj_bal a = 0 := mj_o8 a (mj_ocl_lt (by omega)) (by omega)
theorem mj_str {a : Nat} (h : mj_ocl a = 14) : a = 73 := mj_o14 a (mj_ocl_lt (by omega)) h
theorem mj_ial_lt {a : Nat} (h : mj_ial a ≠ 0) : a < 72 := by
  rcases Nat.lt_or_ge a 72 with q | q
  · exact q
  · exact absurd (show mj_ial a = 0 from by
      unfold mj_ial
      rw [List.getD_eq_getElem?_getD, List.getElem?_eq_none (by exact q)]
      rfl) h
theorem mj_bal_50 {a : Nat} (h : mj_bal a ≠ 0) : a = 50 := by
  unfold mj_bal at h
  split at h
  · assumption
  · exact absurd rfl h
theorem mj_cel_o {ad : Nat → Nat} {cI cB : ClassId} {M : mj_M} {a ci : Nat} (h : mj_ocl a = ci) (hc : ci < 8) : mj_cel ad cI cB M a = .inr (ci, (List.range (mj_nf ci)).map (fun j => mj_tr ad (mj_fv M a j (mj_fk ci j)))) := by
  obtain ⟨-, h1, h2⟩ := mj_obj h hc
  subst h
  unfold mj_cel
  rw [if_neg (by omega), if_neg (by omega)]
theorem mj_cel_i {ad : Nat → Nat} {cI cB : ClassId} {M : mj_M} {a : Nat} (h : mj_ial a ≠ 0) : mj_cel ad cI cB M a = .inl (cI, mj_ial a, .inl (M a)) := by
  unfold mj_cel
  rw [if_pos h]
theorem mj_cel_b {ad : Nat → Nat} {cI cB : ClassId} {M : mj_M} : mj_cel ad cI cB M 50 = .inl (cB, 260, .inl (M 50)) := rfl
theorem mj_row_ne {M : mj_M} {i j : Nat} {f : Nat → Int32} (h : j ≠ i) : mj_row M i f j = M j := by
  unfold mj_row
  rw [if_neg h]
theorem mj_row_eq {M : mj_M} {i : Nat} {f : Nat → Int32} : mj_row M i f i = f := by
  unfold mj_row
  rw [if_pos rfl]
theorem mj_bit {x : Int32} (h : x &&& 1 = x) : x = 0 ∨ x = 1 := by
  have e := pk_and x (m := 1) 1 (by decide)
  rw [h] at e
  have h2 : x.toBitVec.toNat % 2 ^ 1 = 0 ∨ x.toBitVec.toNat % 2 ^ 1 = 1 := by omega
  rcases h2 with h2 | h2
  · rw [h2] at e; exact Or.inl (e.trans (by decide))
  · rw [h2] at e; exact Or.inr (e.trans (by decide))
def mj_Out (ad : Nat → Nat) (sl : Nat) (xs : Nat → Int32) (A : Nat → Prop) (U : State) (H : Heap) : Prop :=
  va_T .int (ad 72) sl (fun j => .int (xs j)) A U H ∧ va_O "java/lang/String" (ad 73) A U H ∧ va_OF "java/lang/String" "coder" "B" (.int 0) (ad 73) A U H ∧ va_OF "java/lang/String" "value" "[B" (.ref (ad 74)) (ad 73) A U H ∧ va_T .byte (ad 74) 9 (fun j => .int (mj_bt j)) A U H ∧ va_Z "java/lang/String" "COMPACT_STRINGS" "Z" (.int 1) A U H
theorem mj_Out.moved {ad : Nat → Nat} {sl : Nat} {xs : Nat → Int32} {A : Nat → Prop} {u U : State} {H : Heap} (hvm : u.vm.Alike U.vm) (h : mj_Out ad sl xs A u H) : mj_Out ad sl xs A U H :=
  ⟨va_T.moved hvm h.1, va_O.moved hvm h.2.1, va_OF.moved hvm h.2.2.1, va_OF.moved hvm h.2.2.2.1, va_T.moved hvm h.2.2.2.2.1, va_Z.moved hvm h.2.2.2.2.2⟩
theorem mj_Out.kept {ad : Nat → Nat} {sl : Nat} {xs : Nat → Int32} {A : Nat → Prop} {U : State} {H H1 : Heap} (h : mj_Out ad sl xs A U H) (hq : ∀ a : Nat, a < H.size → ¬ A a → H1[a]? = H[a]?) : mj_Out ad sl xs A U H1 :=
  ⟨h.1.kept hq, h.2.1.kept hq, h.2.2.1.kept hq, h.2.2.2.1.kept hq, h.2.2.2.2.1.kept hq, h.2.2.2.2.2.kept hq⟩
def mj_Vm (ad : Nat → Nat) (U : State) : Prop := va_Nw (.methodLinkNest "CourtHand$LawReader" 55 ⟨"CourtHand", "fault", "(II)I"⟩ "CourtHand") U ∧ va_Nw (.methodLinkNest "CourtHand$Order" 52 ⟨"CourtHand", "fault", "(II)I"⟩ "CourtHand") U ∧ va_Nw (.methodLinkNest "CourtHand$Blots" 25 ⟨"CourtHand", "fault", "(II)I"⟩ "CourtHand") U ∧ vk_R "CourtHand$LawReader" 104 "calgskfdm" (ad 73) U
theorem mj_Vm.warm {ad : Nat → Nat} {s U : State} (hW : s.WarmedH U.vm) (h : mj_Vm ad s) : mj_Vm ad U := ⟨va_Nw.warmM hW h.1, va_Nw.warmM hW h.2.1, va_Nw.warmM hW h.2.2.1, vk_R.warm hW h.2.2.2⟩
theorem mj_Vm.same {ad : Nat → Nat} {s U : State} (hv : s.vm = U.vm) (h : mj_Vm ad s) : mj_Vm ad U := ⟨va_Nw.same rfl hv h.1, va_Nw.same rfl hv h.2.1, va_Nw.same rfl hv h.2.2.1, vk_R.same hv.symm h.2.2.2⟩
def mj_ok (v : Value) : Prop := (∃ x, v = .int x) ∨ ∃ a, v = .ref a
def mj_SK (st : List Value) : Prop := ∀ v ∈ st, mj_ok v
def mj_LR (ad : Nat → Nat) (ls : Array Slot) (nL : Nat) (L : List Value) : Prop := ls.size = nL ∧ lv_wf ls ∧ L.length = nL ∧ (∀ v ∈ L, mj_ok v ∨ v = .null) ∧ ∀ (i : Nat) (v : Value), L[i]? = some v → v ≠ .null → ls[i]? = some (.val (mj_tr ad v))
theorem mj_SK.i {x : Int32} {st : List Value} (h : mj_SK st) : mj_SK (.int x :: st) := fun v hv => by
  rcases List.mem_cons.mp hv with e | hv
  · exact Or.inl ⟨x, e⟩
  · exact h v hv
theorem mj_SK.r {x : Nat} {st : List Value} (h : mj_SK st) : mj_SK (.ref x :: st) := fun v hv => by
  rcases List.mem_cons.mp hv with e | hv
  · exact Or.inr ⟨x, e⟩
  · exact h v hv
theorem mj_SK.t {x : Value} {st : List Value} (h : mj_SK (x :: st)) : mj_SK st := fun v hv => h v (List.mem_cons_of_mem _ hv)
theorem mj_ok.cat {ad : Nat → Nat} {v : Value} (h : mj_ok v ∨ v = .null) : (mj_tr ad v).category = 1 := by
  rcases h with (⟨x, rfl⟩ | ⟨a, rfl⟩) | rfl <;> rfl
def mj_lv (ad : Nat → Nat) (L : List Value) : List (Nat × Value) := (List.range L.length).filterMap (fun (i : Nat) => match (L[i]? : Option Value) with
  | some Value.null => none
  | some v => some (i, mj_tr ad v)
  | none => none)
theorem mj_lv_mem {ad : Nat → Nat} {L : List Value} {i : Nat} {v : Value} (h : L[i]? = some v) (hn : v ≠ .null) : (i, mj_tr ad v) ∈ mj_lv ad L := by
  unfold mj_lv
  refine List.mem_filterMap.mpr ⟨i, List.mem_range.mpr (List.getElem?_eq_some_iff.mp h).1, ?_⟩
  rw [h]
  cases v <;> first | rfl | exact absurd rfl hn
theorem mj_lv_of {ad : Nat → Nat} {L : List Value} {q : Nat × Value} (h : q ∈ mj_lv ad L) : ∃ v, L[q.1]? = some v ∧ v ≠ .null ∧ q.2 = mj_tr ad v := by
  unfold mj_lv at h
  obtain ⟨i, -, h⟩ := List.mem_filterMap.mp h
  split at h
  · cases h
  · next v hn hv =>
    cases h
    exact ⟨_, hv, hn, rfl⟩
  · cases h
theorem mj_LR.has {ad : Nat → Nat} {ls : Array Slot} {nL : Nat} {L : List Value} (h : mj_LR ad ls nL L) : lv_has ls nL (mj_lv ad L) := by
  refine ⟨h.1, h.2.1, fun q hq => ?_⟩
  obtain ⟨v, h1, h2, h3⟩ := mj_lv_of hq
  rw [h3]
  exact h.2.2.2.2 _ _ h1 h2
theorem mj_LR.set {ad : Nat → Nat} {ls ls' : Array Slot} {nL i : Nat} {L : List Value} {x : Value} (h : mj_LR ad ls nL L) (hx : mj_ok x) (h' : lv_has ls' nL ((i, mj_tr ad x) :: (mj_lv ad L).filter (fun q => !(q.1 == i) && !(q.1 + 1 == i && q.2.category == 2)))) : mj_LR ad ls' nL (L.set i x) := by
  refine ⟨h'.1, h'.2.1, by rw [List.length_set]; exact h.2.2.1, fun v hv => ?_, fun k v hk hn => ?_⟩
  · rcases List.mem_or_eq_of_mem_set hv with hv | hv
    · exact h.2.2.2.1 v hv
    · subst hv; exact Or.inl hx
  · rw [List.getElem?_set] at hk
    by_cases hik : i = k
    · subst hik
      rw [if_pos rfl] at hk
      split at hk
      · cases hk
        exact h'.2.2 _ List.mem_cons_self
      · cases hk
    · rw [if_neg hik] at hk
      refine h'.2.2 (k, mj_tr ad v) (List.mem_cons_of_mem _ (List.mem_filter.mpr ⟨mj_lv_mem hk hn, ?_⟩))
      have hc := mj_ok.cat (ad := ad) (h.2.2.2.1 v (List.mem_of_getElem? hk))
      have e1 : (k == i) = false := by simp; exact fun e => hik e.symm
      simp [e1, hc]
end
section
def mj_Cx (G : va_G) (ad : Nat → Nat) (cI cB : ClassId) (sl : Nat) (xs : Nat → Int32) (id : Nat) (p : Program) (s : State) (m : MethodId) (args : Array Value) (c : Code) : Prop :=
  p.tables.exec = Jvm.exec ∧ (∀ w ∈ mj_w0, w.before args s = true) ∧ va_K G mj_cl [(cI, .int), (cB, .byte)] s ∧ mj_Out ad sl xs (mj_A ad) s s.heap ∧ mj_Vm ad s ∧ (∀ i j, i < 72 → j < 72 → ad i = ad j → i = j) ∧ ∃ me, mj_tab[id]? = some me ∧ c.code = me.2.1 ∧ c.maxLocals = me.2.2.1 ∧ s.vm.findClass (mj_cn me.1) = some m.cls
def mj_Wh (G : va_G) (ad : Nat → Nat) (cI cB : ClassId) (xs : Nat → Int32) (s : State) (M : mj_M) (H : Heap) (locs : List Loc) : Prop := va_P G mj_cl (mj_ws ad cI cB M) H ∧ va_S (mj_A ad) s.heap H locs ∧ M 72 = xs ∧ M 74 = mj_bt
def mj_Go (p : Program) (l : Launch) (e : Env) (R : Room) (s : State) (m : MethodId) (args : Array Value) (below : List Frame) (meth : Method) (c : Code) (cells slots : Nat) (Q : State → Prop) (G : va_G) (ad : Nat → Nat) (cI cB : ClassId) (xs : Nat → Int32) (pc : Nat) (L st : List Value) (M : mj_M) : Prop :=
  ∀ (ls : Array Slot) (H : Heap) (locs : List Loc), mj_LR ad ls c.maxLocals L → mj_SK st → mj_Wh G ad cI cB xs s M H locs → W p l e R s m args below meth c H locs cells slots Q (F0 m pc ls (st.map (mj_tr ad)))
theorem mj_at_spec {id pc : Nat} {i : Instr} {me : mj_I} (h : mj_at id pc = some i) (hm : mj_tab[id]? = some me) : ∃ n, decode me.2.1 pc = .ok (i, n) ∧ (mj_sl i = 0 ∨ mj_sl i = n) := by
  unfold mj_at at h
  rw [hm] at h
  dsimp only at h
  split at h
  · next i' n hd =>
    split at h
    · next hc => cases h; exact ⟨n, hd, hc⟩
    · cases h
  · cases h
theorem mj_nk {i : Instr} {n k : Nat} (hn : mj_sl i = 0 ∨ mj_sl i = n) (h : mj_sl i = k) (hk : k ≠ 0) : n = k := by omega
theorem mj_inB_iff {i : Int32} {n : Nat} (h : mj_inB i n = true) : vp_in i n := by
  unfold mj_inB at h
  intro z
  rcases z with z | z
  · simp [z] at h
  · simp [z] at h
theorem mj_own_eq {id : Nat} {me : mj_I} (hm : mj_tab[id]? = some me) : mj_own id = me.1 := by
  unfold mj_own
  rw [hm]
theorem mj_fT_spec {k j ci sl kd : Nat} (h : mj_fT k j = some (ci, sl, kd)) : ∃ pl, mj_fck (k, j, ci, sl, kd, pl) = true := by
  unfold mj_fT at h
  cases hf : mj_fTab.find? (fun e => e.1 == k && e.2.1 == j) with
  | none => rw [hf] at h; cases h
  | some e =>
    rw [hf] at h
    have h1 := List.find?_some hf
    have h2 := List.mem_of_find?_eq_some hf
    have h3 := List.all_eq_true.mp mj_f_ok e h2
    obtain ⟨a, b, c, d, f, g⟩ := e
    simp only [Bool.and_eq_true, beq_iff_eq] at h1
    obtain ⟨rfl, rfl⟩ := h1
    cases h
    exact ⟨g, h3⟩
theorem mj_fT_obj {k j ci sl kd : Nat} (h : mj_fT k j = some (ci, sl, kd)) (hc : ci ≠ 14) : ∃ q, mj_cl[ci]? = some q ∧ sl < q.2.2 ∧ .fieldLink (mj_cn k) j q.1 (q.2.1 sl).2.1 (q.2.1 sl).2.2.1 ∈ mj_w0 ∧ (q.2.1 sl).1 = q.1 ∧ kd = mj_fk ci sl ∧ (kd = 1 ∨ (q.2.1 sl).2.2.2 = false) ∧ (kd = 0 → mj_tyC ci sl = .int) ∧ (kd = 3 → mj_tyC ci sl = .boolean) ∧ (kd = 2 → mj_tyC ci sl = .object "CourtHand$Law") ∧ kd ≤ 3 ∧ ci < 8 := by
  obtain ⟨pl, h1⟩ := mj_fT_spec h
  unfold mj_fck at h1
  dsimp only at h1
  split at h1
  · next q hq =>
    simp only [Bool.and_eq_true, Bool.or_eq_true, decide_eq_true_eq, Bool.not_eq_true'] at h1
    obtain ⟨⟨⟨⟨⟨⟨⟨⟨⟨a1, a2⟩, a3⟩, a4⟩, a5⟩, a6⟩, a7⟩, a8⟩, a9⟩, a10⟩ := h1
    exact ⟨q, hq, a1, mj_w0_in pl a2 rfl, a3, a4, a5, fun z => a6.resolve_left (fun y => y z), fun z => a7.resolve_left (fun y => y z), fun z => a8.resolve_left (fun y => y z), a9, a10⟩
  · simp only [Bool.and_eq_true, decide_eq_true_eq] at h1
    exact absurd h1.1 hc
theorem mj_fT_str {k j sl kd : Nat} (h : mj_fT k j = some (14, sl, kd)) : (kd = 4 ∧ .fieldLink (mj_cn k) j "java/lang/String" "value" "[B" ∈ mj_w0) ∨ (kd = 5 ∧ .fieldLink (mj_cn k) j "java/lang/String" "coder" "B" ∈ mj_w0) := by
  obtain ⟨pl, h1⟩ := mj_fT_spec h
  unfold mj_fck at h1
  dsimp only at h1
  split at h1
  · next q hq => exact absurd hq (by simp [mj_cl])
  · simp only [Bool.and_eq_true, Bool.or_eq_true, decide_eq_true_eq] at h1
    rcases h1.2 with h2 | h2
    · exact Or.inl ⟨h2.1, mj_w0_in pl h2.2 rfl⟩
    · exact Or.inr ⟨h2.1, mj_w0_in pl h2.2 rfl⟩
theorem mj_kT_spec {k j : Nat} {v : Int32} (h : mj_kT k j = some v) : .constant (mj_cn k) j v ∈ mj_w0 := by
  unfold mj_kT at h
  cases hf : mj_kTab.find? (fun e => e.1 == k && e.2.1 == j) with
  | none => rw [hf] at h; cases h
  | some e =>
    rw [hf] at h
    have h1 := List.find?_some hf
    have h2 := List.mem_of_find?_eq_some hf
    have h3 := List.all_eq_true.mp mj_k_ok e h2
    obtain ⟨a, b, c, g⟩ := e
    simp only [Bool.and_eq_true, beq_iff_eq] at h1
    obtain ⟨rfl, rfl⟩ := h1
    cases h
    unfold mj_kck at h3
    exact mj_w0_in g (of_decide_eq_true h3) rfl
theorem mj_sT_spec {k j : Nat} (h : mj_sT k j = true) : .fieldLink (mj_cn k) j "java/lang/String" "COMPACT_STRINGS" "Z" ∈ mj_w0 := by
  unfold mj_sT at h
  cases hf : mj_sTab.find? (fun e => e.1 == k && e.2.1 == j) with
  | none => rw [hf] at h; cases h
  | some e =>
    have h1 := List.find?_some hf
    have h2 := List.mem_of_find?_eq_some hf
    have h3 := List.all_eq_true.mp mj_s_ok e h2
    obtain ⟨a, b, g⟩ := e
    simp only [Bool.and_eq_true, beq_iff_eq] at h1
    obtain ⟨rfl, rfl⟩ := h1
    unfold mj_sck at h3
    exact mj_w0_in g (of_decide_eq_true h3) rfl
theorem mj_cT_spec {k j kd y : Nat} (h : mj_cT k j = some (kd, y)) : ∃ pl, mj_cck (k, j, kd, y, pl) = true := by
  unfold mj_cT at h
  cases hf : mj_cTab.find? (fun e => e.1 == k && e.2.1 == j) with
  | none => rw [hf] at h; cases h
  | some e =>
    rw [hf] at h
    have h1 := List.find?_some hf
    have h2 := List.mem_of_find?_eq_some hf
    have h3 := List.all_eq_true.mp mj_c_ok e h2
    obtain ⟨a, b, c, d, g⟩ := e
    simp only [Bool.and_eq_true, beq_iff_eq] at h1
    obtain ⟨rfl, rfl⟩ := h1
    cases h
    exact ⟨g, h3⟩
theorem mj_fields_get {ad : Nat → Nat} {M : mj_M} {a ci k : Nat} (hk : k < mj_nf ci) : ((List.range (mj_nf ci)).map (fun j => mj_tr ad (mj_fv M a j (mj_fk ci j))))[k]? = some (mj_tr ad (mj_fv M a k (mj_fk ci k))) := by
  rw [List.getElem?_map, List.getElem?_range hk]
  rfl
theorem mj_fields_set {ad : Nat → Nat} {M : mj_M} {a ci k : Nat} {x : Int32} {v : Value} (hv : mj_tr ad (mj_fv (mj_st M a k x) a k (mj_fk ci k)) = v) : ((List.range (mj_nf ci)).map (fun j => mj_tr ad (mj_fv M a j (mj_fk ci j)))).set k v = (List.range (mj_nf ci)).map (fun j => mj_tr ad (mj_fv (mj_st M a k x) a j (mj_fk ci j))) := by
  apply List.ext_getElem?
  intro j
  rw [List.getElem?_set]
  by_cases hj : k = j
  · subst hj
    rw [if_pos rfl]
    by_cases hl : k < mj_nf ci
    · rw [if_pos (by rw [List.length_map, List.length_range]; exact hl), mj_fields_get hl, hv]
    · rw [if_neg (by rw [List.length_map, List.length_range]; exact hl)]
      symm
      apply List.getElem?_eq_none
      rw [List.length_map, List.length_range]
      omega
  · rw [if_neg hj]
    by_cases hl : j < mj_nf ci
    · rw [mj_fields_get hl, mj_fields_get hl]
      unfold mj_fv mj_st
      rw [mj_row_eq]
      have e : upd (M a) k x j = M a j := by
        unfold upd
        rw [if_neg (fun z => hj (Eq.symm z))]
      rw [e]
    · rw [List.getElem?_eq_none (by rw [List.length_map, List.length_range]; omega), List.getElem?_eq_none (by rw [List.length_map, List.length_range]; omega)]
theorem mj_sum {ad : Nat → Nat} {st : List Value} (h : mj_SK st) : ((st.map (mj_tr ad)).map (fun v => v.category)).sum = st.length := by
  have e : (st.map (mj_tr ad)).map (fun v => v.category) = st.map (fun _ => 1) := by
    rw [List.map_map]
    exact List.map_congr_left (fun v hv => mj_ok.cat (Or.inl (h v hv)))
  rw [e]
  induction st with
  | nil => rfl
  | cons a t ih =>
    rw [List.map_cons, List.sum_cons, List.length_cons, ih h.t (by
      rw [List.map_map]
      exact List.map_congr_left (fun v hv => mj_ok.cat (Or.inl (h.t v hv))))]
    omega
section MJS
variable {p : Program} {l : Launch} {e : Env} {R : Room} {s : State} {m : MethodId} {args : Array Value} {below : List Frame} {meth : Method} {c : Code} {cells slots : Nat} {Q : State → Prop}
variable {G : va_G} {ad : Nat → Nat} {cI cB : ClassId} {sl : Nat} {xs : Nat → Int32} {id d : Nat}

set_option maxHeartbeats 4000000 in
theorem mj_next {i : Instr} {pc pc' : Nat} {L L' st st' : List Value} {M M' : mj_M} (C : mj_Cx G ad cI cB sl xs id p s m args c) (hR : d ≤ R.frames ∧ 40 * d ≤ R.locals ∧ cells ≤ R.cells ∧ slots ≤ R.slots) (h : mj_at id pc = some i) (hs : mj_stp sl d id i pc L st M = some (.inl (pc', L', st', M'))) (hk : mj_Go p l e R s m args below meth c cells slots Q G ad cI cB xs pc' L' st' M') : mj_Go p l e R s m args below meth c cells slots Q G ad cI cB xs pc L st M := by
  obtain ⟨hx, hts, hK, hO, hV, hinj, me, hm, hb, hml, hown⟩ := C
  obtain ⟨n, hdg, hn⟩ := mj_at_spec h hm
  intro ls H locs hL hst hW
  have hW2 := hW
  obtain ⟨hP, hS, hro1, hro2⟩ := hW2
  cases i
  case iconst v =>
    obtain rfl := mj_nk hn (k := 1) rfl (by decide)
    have hs : some (Sum.inl (_, _, _, _)) = _ := hs
    cases hs
    exact lv_iconst hx hb hdg rfl (hk ls H locs hL hst.i hW)
  case bipush v =>
    obtain rfl := mj_nk hn (k := 2) rfl (by decide)
    have hs : some (Sum.inl (_, _, _, _)) = _ := hs
    cases hs
    exact lv_bipush hx hb hdg rfl (hk ls H locs hL hst.i hW)
  case sipush v =>
    obtain rfl := mj_nk hn (k := 3) rfl (by decide)
    have hs : some (Sum.inl (_, _, _, _)) = _ := hs
    cases hs
    exact lv_sipush hx hb hdg rfl (hk ls H locs hL hst.i hW)
  case ldc j =>
    obtain rfl := mj_nk hn (k := 2) rfl (by decide)
    have hs : mj_ldc 2 (mj_own id) j pc L st M = _ := hs
    unfold mj_ldc at hs
    rw [mj_own_eq hm] at hs
    split at hs
    · next v hv =>
      cases hs
      exact lv_ldc hx hb hown (hts _ (mj_kT_spec hv)) hdg (hk ls H locs hL hst.i hW)
    · split at hs
      · next hc =>
        cases hs
        obtain ⟨h1, h2, -⟩ := hc
        subst h2
        rw [h1] at hown
        exact va_ldcS hx hb hown hV.2.2.2 hdg (hk ls H locs hL hst.r hW)
      · cases hs
  case ldc_w j =>
    obtain rfl := mj_nk hn (k := 3) rfl (by decide)
    have hs : mj_ldc 3 (mj_own id) j pc L st M = _ := hs
    unfold mj_ldc at hs
    rw [mj_own_eq hm] at hs
    split at hs
    · next v hv =>
      cases hs
      exact lv_ldcw hx hb hown (hts _ (mj_kT_spec hv)) hdg (hk ls H locs hL hst.i hW)
    · split at hs
      · next hc =>
        cases hs
        exact absurd hc.2.2 (by decide)
      · cases hs
  case iload_n j =>
    obtain rfl := mj_nk hn (k := 1) rfl (by decide)
    have hs : mj_ldi j 1 pc L st M = _ := hs
    unfold mj_ldi at hs
    split at hs
    · next x hl =>
      cases hs
      exact lv_iload_n hx hb hdg rfl (hL.2.2.2.2 _ _ hl (by intro z; cases z)) (hk ls H locs hL hst.i hW)
    · cases hs
  case iload j =>
    obtain rfl := mj_nk hn (k := 2) rfl (by decide)
    have hs : mj_ldi j 2 pc L st M = _ := hs
    unfold mj_ldi at hs
    split at hs
    · next x hl =>
      cases hs
      exact lv_iload hx hb hdg (hL.2.2.2.2 _ _ hl (by intro z; cases z)) (hk ls H locs hL hst.i hW)
    · cases hs
  case aload_n j =>
    obtain rfl := mj_nk hn (k := 1) rfl (by decide)
    have hs : mj_lda j 1 pc L st M = _ := hs
    unfold mj_lda at hs
    split at hs
    · next x hl =>
      cases hs
      exact lv_aload_n hx hb hdg rfl (hL.2.2.2.2 _ _ hl (by intro z; cases z)) (hk ls H locs hL hst.r hW)
    · cases hs
  case aload j =>
    obtain rfl := mj_nk hn (k := 2) rfl (by decide)
    have hs : mj_lda j 2 pc L st M = _ := hs
    unfold mj_lda at hs
    split at hs
    · next x hl =>
      cases hs
      exact lv_aload hx hb hdg (hL.2.2.2.2 _ _ hl (by intro z; cases z)) (hk ls H locs hL hst.r hW)
    · cases hs
  case istore_n j =>
    obtain rfl := mj_nk hn (k := 1) rfl (by decide)
    have hs : mj_sti j 1 pc L st M = _ := hs
    unfold mj_sti at hs
    split at hs
    · next x st0 z0 =>
      split at hs
      · next hj =>
        cases hs
        exact lv_istore_n hx hb hdg rfl hL.has (by rw [← hL.2.2.1]; exact hj) rfl (fun ls' h' => hk ls' H locs (hL.set (x := .int x) (Or.inl ⟨x, rfl⟩) h') hst.t hW)
      · cases hs
    · cases hs
  case istore j =>
    obtain rfl := mj_nk hn (k := 2) rfl (by decide)
    have hs : mj_sti j 2 pc L st M = _ := hs
    unfold mj_sti at hs
    split at hs
    · next x st0 z0 =>
      split at hs
      · next hj =>
        cases hs
        exact lv_istore hx hb hdg hL.has (by rw [← hL.2.2.1]; exact hj) rfl (fun ls' h' => hk ls' H locs (hL.set (x := .int x) (Or.inl ⟨x, rfl⟩) h') hst.t hW)
      · cases hs
    · cases hs
  case astore_n j =>
    obtain rfl := mj_nk hn (k := 1) rfl (by decide)
    have hs : mj_sta j 1 pc L st M = _ := hs
    unfold mj_sta at hs
    split at hs
    · next x st0 z0 =>
      split at hs
      · next hj =>
        cases hs
        exact lv_astore_n hx hb hdg rfl hL.has (by rw [← hL.2.2.1]; exact hj) rfl (fun ls' h' => hk ls' H locs (hL.set (x := .ref x) (Or.inr ⟨x, rfl⟩) h') hst.t hW)
      · cases hs
    · cases hs
  case iinc j v =>
    obtain rfl := mj_nk hn (k := 3) rfl (by decide)
    have hs : (match L[j]? with
      | some (.int x) => mj_nx (pc + 3) (L.set j (.int (x + Int32.ofInt v))) st M
      | _ => none) = _ := hs
    split at hs
    · next x hl =>
      cases hs
      have hj : j < c.maxLocals := by rw [← hL.2.2.1]; exact (List.getElem?_eq_some_iff.mp hl).1
      obtain ⟨k, hkk⟩ := List.getElem?_of_mem (mj_lv_mem (ad := ad) hl (by intro z; cases z))
      exact lv_iinc (k := k) hx hb hdg hL.has hkk rfl hj rfl (fun ls' h' => hk ls' H locs (hL.set (x := .int (x + Int32.ofInt v)) (Or.inl ⟨_, rfl⟩) h') hst hW)
    · cases hs
  case dup  =>
    obtain rfl := mj_nk hn (k := 1) rfl (by decide)
    have hs : mj_dup pc L st M = _ := hs
    unfold mj_dup at hs
    split at hs
    · cases hs
      exact lv_dup hx hb hdg rfl (hk ls H locs hL hst.i hW)
    · cases hs
      exact lv_dup hx hb hdg rfl (hk ls H locs hL hst.r hW)
    · cases hs
  case dup2  =>
    obtain rfl := mj_nk hn (k := 1) rfl (by decide)
    have hs : mj_dup2 pc L st M = _ := hs
    unfold mj_dup2 at hs
    split at hs
    · cases hs
      exact lv_dup2_11 hx hb hdg rfl rfl (hk ls H locs hL hst.i.i hW)
    · cases hs
      exact lv_dup2_11 hx hb hdg rfl rfl (hk ls H locs hL hst.r.i hW)
    · cases hs
  case iadd  =>
    obtain rfl := mj_nk hn (k := 1) rfl (by decide)
    have hs : mj_bin _ pc L st M = _ := hs
    unfold mj_bin at hs
    split at hs
    · cases hs
      exact lv_iadd hx hb hdg (hk ls H locs hL hst.t.t.i hW)
    · cases hs
  case isub  =>
    obtain rfl := mj_nk hn (k := 1) rfl (by decide)
    have hs : mj_bin _ pc L st M = _ := hs
    unfold mj_bin at hs
    split at hs
    · cases hs
      exact lv_isub hx hb hdg (hk ls H locs hL hst.t.t.i hW)
    · cases hs
  case imul  =>
    obtain rfl := mj_nk hn (k := 1) rfl (by decide)
    have hs : mj_bin _ pc L st M = _ := hs
    unfold mj_bin at hs
    split at hs
    · cases hs
      exact lv_imul hx hb hdg (hk ls H locs hL hst.t.t.i hW)
    · cases hs
  case iand  =>
    obtain rfl := mj_nk hn (k := 1) rfl (by decide)
    have hs : mj_bin _ pc L st M = _ := hs
    unfold mj_bin at hs
    split at hs
    · cases hs
      exact lv_iand hx hb hdg (hk ls H locs hL hst.t.t.i hW)
    · cases hs
  case ior  =>
    obtain rfl := mj_nk hn (k := 1) rfl (by decide)
    have hs : mj_bin _ pc L st M = _ := hs
    unfold mj_bin at hs
    split at hs
    · cases hs
      exact lv_ior hx hb hdg (hk ls H locs hL hst.t.t.i hW)
    · cases hs
  case ixor  =>
    obtain rfl := mj_nk hn (k := 1) rfl (by decide)
    have hs : mj_bin _ pc L st M = _ := hs
    unfold mj_bin at hs
    split at hs
    · cases hs
      exact lv_ixor hx hb hdg (hk ls H locs hL hst.t.t.i hW)
    · cases hs
  case ishl  =>
    obtain rfl := mj_nk hn (k := 1) rfl (by decide)
    have hs : mj_bin _ pc L st M = _ := hs
    unfold mj_bin at hs
    split at hs
    · cases hs
      exact lv_ishl hx hb hdg (hk ls H locs hL hst.t.t.i hW)
    · cases hs
  case ishr  =>
    obtain rfl := mj_nk hn (k := 1) rfl (by decide)
    have hs : mj_bin _ pc L st M = _ := hs
    unfold mj_bin at hs
    split at hs
    · cases hs
      exact lv_ishr hx hb hdg (hk ls H locs hL hst.t.t.i hW)
    · cases hs
  case iushr  =>
    obtain rfl := mj_nk hn (k := 1) rfl (by decide)
    have hs : mj_bin _ pc L st M = _ := hs
    unfold mj_bin at hs
    split at hs
    · cases hs
      exact lv_iushr hx hb hdg rfl (hk ls H locs hL hst.t.t.i hW)
    · cases hs
  case idiv  =>
    obtain rfl := mj_nk hn (k := 1) rfl (by decide)
    have hs : mj_dv _ pc L st M = _ := hs
    unfold mj_dv at hs
    split at hs
    · split at hs
      · cases hs
      · next hy =>
        cases hs
        exact lv_idiv hx hb hdg hy (hk ls H locs hL hst.t.t.i hW)
    · cases hs
  case irem  =>
    obtain rfl := mj_nk hn (k := 1) rfl (by decide)
    have hs : mj_dv _ pc L st M = _ := hs
    unfold mj_dv at hs
    split at hs
    · split at hs
      · cases hs
      · next hy =>
        cases hs
        exact lv_irem hx hb hdg hy (hk ls H locs hL hst.t.t.i hW)
    · cases hs
  case ineg  =>
    obtain rfl := mj_nk hn (k := 1) rfl (by decide)
    have hs : mj_un _ pc L st M = _ := hs
    unfold mj_un at hs
    split at hs
    · cases hs
      exact lv_ineg hx hb hdg (hk ls H locs hL hst.t.i hW)
    · cases hs
  case i2b  =>
    obtain rfl := mj_nk hn (k := 1) rfl (by decide)
    have hs : mj_un _ pc L st M = _ := hs
    unfold mj_un at hs
    split at hs
    · cases hs
      exact lv_i2b hx hb hdg rfl (hk ls H locs hL hst.t.i hW)
    · cases hs
  case i2c  =>
    obtain rfl := mj_nk hn (k := 1) rfl (by decide)
    have hs : mj_un _ pc L st M = _ := hs
    unfold mj_un at hs
    split at hs
    · cases hs
      exact lv_i2c hx hb hdg rfl (hk ls H locs hL hst.t.i hW)
    · cases hs
  case goto off =>
    obtain rfl := mj_nk hn (k := 3) rfl (by decide)
    have hs : mj_go pc off L st M = _ := hs
    unfold mj_go at hs
    split at hs
    · next hp =>
      cases hs
      exact lv_goto hx hb hdg (Int.toNat_of_nonneg hp).symm (hk ls H locs hL hst hW)
    · cases hs
  case if_icmp cc off =>
    obtain rfl := mj_nk hn (k := 3) rfl (by decide)
    have hs : mj_icmp cc off pc L st M = _ := hs
    unfold mj_icmp at hs
    split at hs
    · cases cc
      case eq =>
        unfold mj_cmp at hs
        dsimp only at hs
        unfold mj_br mj_go mj_nx at hs
        split at hs
        · next hc =>
          split at hs
          · next hp =>
            cases hs
            exact lv_icmp_eq hx hb hdg (Int.toNat_of_nonneg hp).symm (fun _ => hk ls H locs hL hst.t.t hW) (fun z => absurd (of_decide_eq_true hc) z)
          · cases hs
        · next hc =>
          split at hs
          · next hp =>
            cases hs
            exact lv_icmp_eq hx hb hdg (Int.toNat_of_nonneg hp).symm (fun z => absurd z (of_decide_eq_false hc)) (fun _ => hk ls H locs hL hst.t.t hW)
          · cases hs
      case ne =>
        unfold mj_cmp at hs
        dsimp only at hs
        unfold mj_br mj_go mj_nx at hs
        split at hs
        · next hc =>
          split at hs
          · next hp =>
            cases hs
            exact lv_icmp_ne hx hb hdg (Int.toNat_of_nonneg hp).symm (fun _ => hk ls H locs hL hst.t.t hW) (fun z => absurd (of_decide_eq_true hc) (fun y => y z))
          · cases hs
        · next hc =>
          split at hs
          · next hp =>
            cases hs
            exact lv_icmp_ne hx hb hdg (Int.toNat_of_nonneg hp).symm (fun z => absurd z (of_decide_eq_false hc)) (fun _ => hk ls H locs hL hst.t.t hW)
          · cases hs
      case lt =>
        unfold mj_cmp at hs
        dsimp only at hs
        unfold mj_br mj_go mj_nx at hs
        split at hs
        · next hc =>
          split at hs
          · next hp =>
            cases hs
            exact lv_icmp_lt hx hb hdg (Int.toNat_of_nonneg hp).symm (fun _ => hk ls H locs hL hst.t.t hW) (fun z => absurd (of_decide_eq_true hc) z)
          · cases hs
        · next hc =>
          split at hs
          · next hp =>
            cases hs
            exact lv_icmp_lt hx hb hdg (Int.toNat_of_nonneg hp).symm (fun z => absurd z (of_decide_eq_false hc)) (fun _ => hk ls H locs hL hst.t.t hW)
          · cases hs
      case ge =>
        unfold mj_cmp at hs
        dsimp only at hs
        unfold mj_br mj_go mj_nx at hs
        split at hs
        · next hc =>
          split at hs
          · next hp =>
            cases hs
            exact lv_icmp_ge hx hb hdg (Int.toNat_of_nonneg hp).symm (fun _ => hk ls H locs hL hst.t.t hW) (fun z => absurd (of_decide_eq_true hc) z)
          · cases hs
        · next hc =>
          split at hs
          · next hp =>
            cases hs
            exact lv_icmp_ge hx hb hdg (Int.toNat_of_nonneg hp).symm (fun z => absurd z (of_decide_eq_false hc)) (fun _ => hk ls H locs hL hst.t.t hW)
          · cases hs
      case gt =>
        unfold mj_cmp at hs
        dsimp only at hs
        unfold mj_br mj_go mj_nx at hs
        split at hs
        · next hc =>
          split at hs
          · next hp =>
            cases hs
            exact lv_icmp_gt hx hb hdg (Int.toNat_of_nonneg hp).symm (fun _ => hk ls H locs hL hst.t.t hW) (fun z => absurd (of_decide_eq_true hc) z)
          · cases hs
        · next hc =>
          split at hs
          · next hp =>
            cases hs
            exact lv_icmp_gt hx hb hdg (Int.toNat_of_nonneg hp).symm (fun z => absurd z (of_decide_eq_false hc)) (fun _ => hk ls H locs hL hst.t.t hW)
          · cases hs
      case le =>
        unfold mj_cmp at hs
        dsimp only at hs
        unfold mj_br mj_go mj_nx at hs
        split at hs
        · next hc =>
          split at hs
          · next hp =>
            cases hs
            exact lv_icmp_le hx hb hdg (Int.toNat_of_nonneg hp).symm (fun _ => hk ls H locs hL hst.t.t hW) (fun z => absurd (of_decide_eq_true hc) z)
          · cases hs
        · next hc =>
          split at hs
          · next hp =>
            cases hs
            exact lv_icmp_le hx hb hdg (Int.toNat_of_nonneg hp).symm (fun z => absurd z (of_decide_eq_false hc)) (fun _ => hk ls H locs hL hst.t.t hW)
          · cases hs
    · cases hs
  case ifCond cc off =>
    obtain rfl := mj_nk hn (k := 3) rfl (by decide)
    have hs : mj_ifc cc off pc L st M = _ := hs
    unfold mj_ifc at hs
    split at hs
    · cases cc
      case eq =>
        unfold mj_cmp at hs
        dsimp only at hs
        unfold mj_br mj_go mj_nx at hs
        split at hs
        · next hc =>
          split at hs
          · next hp =>
            cases hs
            exact lv_if_eq hx hb hdg (Int.toNat_of_nonneg hp).symm (fun _ => hk ls H locs hL hst.t hW) (fun z => absurd (of_decide_eq_true hc) z)
          · cases hs
        · next hc =>
          split at hs
          · next hp =>
            cases hs
            exact lv_if_eq hx hb hdg (Int.toNat_of_nonneg hp).symm (fun z => absurd z (of_decide_eq_false hc)) (fun _ => hk ls H locs hL hst.t hW)
          · cases hs
      case ne =>
        unfold mj_cmp at hs
        dsimp only at hs
        unfold mj_br mj_go mj_nx at hs
        split at hs
        · next hc =>
          split at hs
          · next hp =>
            cases hs
            exact lv_if_ne hx hb hdg (Int.toNat_of_nonneg hp).symm (fun _ => hk ls H locs hL hst.t hW) (fun z => absurd (of_decide_eq_true hc) (fun y => y z))
          · cases hs
        · next hc =>
          split at hs
          · next hp =>
            cases hs
            exact lv_if_ne hx hb hdg (Int.toNat_of_nonneg hp).symm (fun z => absurd z (of_decide_eq_false hc)) (fun _ => hk ls H locs hL hst.t hW)
          · cases hs
      case lt =>
        unfold mj_cmp at hs
        dsimp only at hs
        unfold mj_br mj_go mj_nx at hs
        split at hs
        · next hc =>
          split at hs
          · next hp =>
            cases hs
            exact lv_if_lt hx hb hdg (Int.toNat_of_nonneg hp).symm (fun _ => hk ls H locs hL hst.t hW) (fun z => absurd (of_decide_eq_true hc) z)
          · cases hs
        · next hc =>
          split at hs
          · next hp =>
            cases hs
            exact lv_if_lt hx hb hdg (Int.toNat_of_nonneg hp).symm (fun z => absurd z (of_decide_eq_false hc)) (fun _ => hk ls H locs hL hst.t hW)
          · cases hs
      case ge =>
        unfold mj_cmp at hs
        dsimp only at hs
        unfold mj_br mj_go mj_nx at hs
        split at hs
        · next hc =>
          split at hs
          · next hp =>
            cases hs
            exact lv_if_ge hx hb hdg (Int.toNat_of_nonneg hp).symm (fun _ => hk ls H locs hL hst.t hW) (fun z => absurd (of_decide_eq_true hc) z)
          · cases hs
        · next hc =>
          split at hs
          · next hp =>
            cases hs
            exact lv_if_ge hx hb hdg (Int.toNat_of_nonneg hp).symm (fun z => absurd z (of_decide_eq_false hc)) (fun _ => hk ls H locs hL hst.t hW)
          · cases hs
      case gt =>
        unfold mj_cmp at hs
        dsimp only at hs
        unfold mj_br mj_go mj_nx at hs
        split at hs
        · next hc =>
          split at hs
          · next hp =>
            cases hs
            exact lv_if_gt hx hb hdg (Int.toNat_of_nonneg hp).symm (fun _ => hk ls H locs hL hst.t hW) (fun z => absurd (of_decide_eq_true hc) z)
          · cases hs
        · next hc =>
          split at hs
          · next hp =>
            cases hs
            exact lv_if_gt hx hb hdg (Int.toNat_of_nonneg hp).symm (fun z => absurd z (of_decide_eq_false hc)) (fun _ => hk ls H locs hL hst.t hW)
          · cases hs
      case le =>
        unfold mj_cmp at hs
        dsimp only at hs
        unfold mj_br mj_go mj_nx at hs
        split at hs
        · next hc =>
          split at hs
          · next hp =>
            cases hs
            exact lv_if_le hx hb hdg (Int.toNat_of_nonneg hp).symm (fun _ => hk ls H locs hL hst.t hW) (fun z => absurd (of_decide_eq_true hc) z)
          · cases hs
        · next hc =>
          split at hs
          · next hp =>
            cases hs
            exact lv_if_le hx hb hdg (Int.toNat_of_nonneg hp).symm (fun z => absurd z (of_decide_eq_false hc)) (fun _ => hk ls H locs hL hst.t hW)
          · cases hs
    · cases hs
  case tableswitch dflt lo hi offs =>
    have hs : mj_tsw dflt lo hi offs pc L st M = _ := hs
    unfold mj_tsw at hs
    split at hs
    · split at hs
      · next hc =>
        unfold mj_go at hs
        split at hs
        · next hp =>
          cases hs
          exact lv_tableOut hx hb hdg hc (Int.toNat_of_nonneg hp).symm (hk ls H locs hL hst.t hW)
        · cases hs
      · next hc =>
        split at hs
        · next off ho =>
          unfold mj_go at hs
          split at hs
          · next hp =>
            cases hs
            exact lv_tableIn hx hb hdg (fun z => hc (Or.inl z)) (fun z => hc (Or.inr z)) ho (Int.toNat_of_nonneg hp).symm (hk ls H locs hL hst.t hW)
          · cases hs
        · cases hs
    · cases hs
  case lookupswitch dflt ps =>
    have hs : mj_lsw dflt ps pc L st M = _ := hs
    unfold mj_lsw at hs
    split at hs
    · split at hs
      · next hc =>
        unfold mj_go at hs
        split at hs
        · next hp =>
          cases hs
          exact lv_lookup hx hb hdg hc rfl (Int.toNat_of_nonneg hp).symm (hk ls H locs hL hst.t hW)
        · cases hs
      · cases hs
    · cases hs
  case getfield j =>
    obtain rfl := mj_nk hn (k := 3) rfl (by decide)
    have hs : mj_gf (mj_own id) j pc L st M = _ := hs
    unfold mj_gf at hs
    rw [mj_own_eq hm] at hs
    split at hs
    · next ci slt kd hf =>
      split at hs
      · next a st0 z0 =>
        split at hs
        · next ho =>
          cases hs
          by_cases hc : ci = 14
          · subst hc
            obtain rfl := mj_str ho
            rcases mj_fT_str hf with ⟨rfl, hw⟩ | ⟨rfl, hw⟩
            · exact vk_getf hx hb hO.2.2.2.1 hS hown (hts _ hw) (fun _ z => z) hdg (hk ls H locs hL hst.t.r hW)
            · exact vk_getf hx hb hO.2.2.1 hS hown (hts _ hw) (fun _ z => z) hdg (hk ls H locs hL hst.t.i hW)
          · obtain ⟨⟨C, T, N⟩, hq, h1, hw, h3, h4, h5, h6, h7, h8, h9, h10⟩ := mj_fT_obj hf hc
            obtain ⟨g1, g2, g3, g4⟩ := mj_cls hq
            have hok : mj_ok (mj_fv M a slt kd) := by
              unfold mj_fv
              split
              · exact Or.inr ⟨_, rfl⟩
              · split
                · exact Or.inr ⟨_, rfl⟩
                · split
                  · exact Or.inr ⟨_, rfl⟩
                  · split <;> exact Or.inl ⟨_, rfl⟩
            have hsk : mj_SK (mj_fv M a slt kd :: st0) := fun v hv => by
              rcases List.mem_cons.mp hv with z | z
              · rw [z]; exact hok
              · exact hst.t v z
            refine va_get (ci := ci) (v := mj_tr ad (mj_fv M a slt kd)) hx hb hts g1 hown hK hP a (by rw [mj_ws_get (mj_obj ho h10).1, mj_cel_o ho h10]) hq slt h1 (hts _ hw) (by rw [h3]; exact fun _ z => z) (by rw [mj_fields_get (by rw [← g4]; exact h1), ← h4]) hdg (hk ls H locs hL hsk hW)
        · cases hs
      · cases hs
    · cases hs
  case getstatic j =>
    obtain rfl := mj_nk hn (k := 3) rfl (by decide)
    have hs : mj_gs (mj_own id) j pc L st M = _ := hs
    unfold mj_gs at hs
    rw [mj_own_eq hm] at hs
    split at hs
    · next hc =>
      cases hs
      exact va_gets hx hb hO.2.2.2.2.2 hS hown (hts _ (mj_sT_spec hc)) (fun _ z => z) hdg (hk ls H locs hL hst.i hW)
    · cases hs
  case putfield j =>
    obtain rfl := mj_nk hn (k := 3) rfl (by decide)
    have hs : mj_pf (mj_own id) j pc L st M = _ := hs
    unfold mj_pf at hs
    rw [mj_own_eq hm] at hs
    split at hs
    · next ci slt kd hf =>
      split at hs
      · next x a st0 z0 =>
        split at hs
        · next hcc =>
          cases hs
          obtain ⟨ho, hkd⟩ := hcc
          have hc : ci ≠ 14 := fun z => by
            subst z
            rcases mj_fT_str hf with ⟨y, -⟩ | ⟨y, -⟩ <;> omega
          obtain ⟨⟨C, T, N⟩, hq, h1, hw, h3, h4, h5, h6, h7, h8, h9, h10⟩ := mj_fT_obj hf hc
          obtain ⟨g1, g2, g3, g4⟩ := mj_cls hq
          obtain ⟨a72, -, -⟩ := mj_obj ho h10
          have e1 : mj_tr ad (mj_fv (mj_st M a slt x) a slt (mj_fk ci slt)) = .int x := by
            rw [← h4]
            unfold mj_fv
            rw [if_neg (by omega), if_neg (by omega), if_neg (by omega), if_neg (by omega)]
            unfold mj_st
            rw [mj_row_eq]
            simp [mj_tr, upd]
          have hty : ∃ ty, mj_tyC ci slt = ty ∧ narrow ty (.int x) = .int x ∧ fits ty (.int x) = true := by
            rcases hkd with z | ⟨z, hbit⟩
            · exact ⟨_, h6 z, rfl, rfl⟩
            · refine ⟨_, h7 z, ?_, ?_⟩
              · show Value.int (x &&& 1) = _
                rw [hbit]
              · rcases mj_bit hbit with y | y <;> rw [y] <;> rfl
          obtain ⟨ty, t1, t2, t3⟩ := hty
          refine va_put (ci := ci) (ty := ty) (v := .int x) hx hb hts g1 (mj_tyC ci) g2 g3 hown hK hP (mj_ws_D hinj) hS a (by rw [mj_ws_get a72, mj_cel_o ho h10]) hq slt h1 (hts _ hw) (by rw [h3]; exact fun _ z => z) (h5.resolve_left (by omega)) (by rw [g2 slt h1, t1]) t2 t3 (by rw [List.length_map, List.length_range, ← g4]; exact h1) hdg (fun H1 locs1 hP1 hD1 hS1 => ?_)
          rw [mj_fields_set e1, mj_ws_set (M' := mj_st M a slt x) a72 (mj_cel_o ho h10) (fun q hq => mj_row_ne hq)] at hP1
          exact hk ls H1 locs1 hL hst.t.t ⟨hP1, hS1, by rw [← hro1]; exact mj_row_ne (by omega), by rw [← hro2]; exact mj_row_ne (by omega)⟩
        · cases hs
      · next bb a st0 z0 =>
        split at hs
        · next hcc =>
          cases hs
          obtain ⟨ho, hkd, hbb⟩ := hcc
          have hc : ci ≠ 14 := fun z => by
            subst z
            rcases mj_fT_str hf with ⟨y, -⟩ | ⟨y, -⟩ <;> omega
          obtain ⟨⟨C, T, N⟩, hq, h1, hw, h3, h4, h5, h6, h7, h8, h9, h10⟩ := mj_fT_obj hf hc
          obtain ⟨g1, g2, g3, g4⟩ := mj_cls hq
          obtain ⟨a72, -, -⟩ := mj_obj ho h10
          have e1 : mj_tr ad (mj_fv (mj_st M a slt (if bb = 29 then 0 else 1)) a slt (mj_fk ci slt)) = .ref (ad bb) := by
            rw [← h4, hkd]
            unfold mj_fv
            rw [if_neg (by omega), if_pos rfl]
            unfold mj_st
            have e0 : ∀ v, upd (M a) slt v slt = v := fun v => by
              unfold upd
              rw [if_pos rfl]
            rw [mj_row_eq, e0]
            rcases hbb with z | z <;> subst z <;> rfl
          refine va_put (ci := ci) (ty := .object "CourtHand$Law") (v := .ref (ad bb)) hx hb hts g1 (mj_tyC ci) g2 g3 hown hK hP (mj_ws_D hinj) hS a (by rw [mj_ws_get a72, mj_cel_o ho h10]) hq slt h1 (hts _ hw) (by rw [h3]; exact fun _ z => z) (h5.resolve_left (by omega)) (by rw [g2 slt h1, h8 hkd]) rfl rfl (by rw [List.length_map, List.length_range, ← g4]; exact h1) hdg (fun H1 locs1 hP1 hD1 hS1 => ?_)
          rw [mj_fields_set e1, mj_ws_set (M' := mj_st M a slt (if bb = 29 then 0 else 1)) a72 (mj_cel_o ho h10) (fun q hq => mj_row_ne hq)] at hP1
          exact hk ls H1 locs1 hL hst.t.t ⟨hP1, hS1, by rw [← hro1]; exact mj_row_ne (by omega), by rw [← hro2]; exact mj_row_ne (by omega)⟩
        · cases hs
      · cases hs
    · cases hs
  case iaload  =>
    obtain rfl := mj_nk hn (k := 1) rfl (by decide)
    have hs : mj_ild sl pc L st M = _ := hs
    unfold mj_ild at hs
    split at hs
    · next i a st0 z0 =>
      by_cases ha : a = 72
      · subst ha
        rw [if_pos rfl] at hs
        split at hs
        · next hc =>
          cases hs
          exact va_ti hx hb hO.1 hS (mj_inB_iff hc) (by rw [hro1]; rfl) hdg (hk ls H locs hL hst.t.t.i hW)
        · cases hs
      · rw [if_neg ha] at hs
        split at hs
        · next hc =>
          cases hs
          have h0 : mj_ial a ≠ 0 := fun z => by
            rw [z] at hc
            exact mj_inB_iff hc (Or.inr (Nat.zero_le _))
          exact va_iald hx hb hK hP a 0 (by rw [mj_ws_get (mj_ial_lt h0), mj_cel_i h0]) rfl (mj_inB_iff hc) hdg (hk ls H locs hL hst.t.t.i hW)
        · cases hs
    · cases hs
  case iastore  =>
    obtain rfl := mj_nk hn (k := 1) rfl (by decide)
    have hs : mj_ist pc L st M = _ := hs
    unfold mj_ist at hs
    split at hs
    · next x i a st0 z0 =>
      split at hs
      · next hc =>
        cases hs
        have h0 : mj_ial a ≠ 0 := fun z => by
          rw [z] at hc
          exact mj_inB_iff hc (Or.inr (Nat.zero_le _))
        have a72 := mj_ial_lt h0
        refine va_iast hx hb hK hP (mj_ws_D hinj) hS a 0 (by rw [mj_ws_get a72, mj_cel_i h0]) rfl (mj_inB_iff hc) hdg (fun H1 locs1 hP1 hD1 hS1 => ?_)
        rw [mj_ws_set (M' := mj_st M a i.toNatClampNeg x) a72 (by rw [mj_cel_i h0]; unfold mj_st; rw [mj_row_eq]) (fun q hq => mj_row_ne hq)] at hP1
        exact hk ls H1 locs1 hL hst.t.t.t ⟨hP1, hS1, by rw [← hro1]; exact mj_row_ne (by omega), by rw [← hro2]; exact mj_row_ne (by omega)⟩
      · cases hs
    · cases hs
  case baload  =>
    obtain rfl := mj_nk hn (k := 1) rfl (by decide)
    have hs : mj_bld pc L st M = _ := hs
    unfold mj_bld at hs
    split at hs
    · next i a st0 z0 =>
      split at hs
      · next hc =>
        cases hs
        by_cases ha : a = 74
        · subst ha
          exact va_tb hx hb hO.2.2.2.2.1 hS (mj_inB_iff (show mj_inB i 9 = true from hc)) (by rw [hro2]; rfl) hdg (hk ls H locs hL hst.t.t.i hW)
        · have h0 : mj_bal a ≠ 0 := fun z => by
            unfold mj_bln at hc
            rw [if_neg ha, z] at hc
            exact mj_inB_iff hc (Or.inr (Nat.zero_le _))
          obtain rfl := mj_bal_50 h0
          exact va_bald hx hb hK hP 50 1 (by rw [mj_ws_get (by decide), mj_cel_b]) rfl (mj_inB_iff (show mj_inB i 260 = true from hc)) hdg (hk ls H locs hL hst.t.t.i hW)
      · cases hs
    · cases hs
  case bastore  =>
    obtain rfl := mj_nk hn (k := 1) rfl (by decide)
    have hs : mj_bst pc L st M = _ := hs
    unfold mj_bst at hs
    split at hs
    · next x i a st0 z0 =>
      split at hs
      · next hc =>
        cases hs
        have h0 : mj_bal a ≠ 0 := fun z => by
          rw [z] at hc
          exact mj_inB_iff hc (Or.inr (Nat.zero_le _))
        obtain rfl := mj_bal_50 h0
        refine va_bast hx hb hK hP (mj_ws_D hinj) hS 50 1 (by rw [mj_ws_get (by decide), mj_cel_b]) rfl (mj_inB_iff (show mj_inB i 260 = true from hc)) hdg (fun H1 locs1 hP1 hD1 hS1 => ?_)
        rw [mj_ws_set (M' := mj_st M 50 i.toNatClampNeg x.toInt8.toInt32) (by decide) (by rw [mj_cel_b]; unfold mj_st; rw [mj_row_eq]; rfl) (fun q hq => mj_row_ne hq)] at hP1
        exact hk ls H1 locs1 hL hst.t.t.t ⟨hP1, hS1, by rw [← hro1]; exact mj_row_ne (by omega), by rw [← hro2]; exact mj_row_ne (by omega)⟩
      · cases hs
    · cases hs
  case arraylength  =>
    obtain rfl := mj_nk hn (k := 1) rfl (by decide)
    have hs : mj_aln sl pc L st M = _ := hs
    unfold mj_aln at hs
    split at hs
    · next a st0 z0 =>
      split at hs
      · next ha =>
        subst ha
        cases hs
        exact va_tlen hx hb hO.1 hS rfl hdg (hk ls H locs hL hst.t.i hW)
      · split at hs
        · next ha =>
          subst ha
          cases hs
          exact va_tlen hx hb hO.2.2.2.2.1 hS rfl hdg (hk ls H locs hL hst.t.i hW)
        · split at hs
          · cases hs
          · next h0 =>
            cases hs
            exact va_alen (cA := cI) (x := (mj_ial a, Sum.inl (M a))) hx hb hK hP a 0 (by rw [mj_ws_get (mj_ial_lt h0), mj_cel_i h0]) rfl rfl hdg (hk ls H locs hL hst.t.i hW)
    · cases hs
  case invokestatic j =>
    obtain rfl := mj_nk hn (k := 3) rfl (by decide)
    have hs : mj_ivs d (mj_own id) j pc L st M = _ := hs
    unfold mj_ivs at hs
    rw [mj_own_eq hm] at hs
    split at hs
    · next kd y hc =>
      split at hs
      · unfold mj_scl at hs
        split at hs
        · split at hs
          · cases hs
          · cases hs
        · cases hs
      · split at hs
        · next hkd =>
          subst hkd
          unfold mj_acp at hs
          split at hs
          · next nn dp b sp a st0 z0 =>
            split at hs
            · next hq =>
              cases hs
              obtain ⟨z1, z2, z3, z4, z5, z6, z7, z8, z9⟩ := hq
              obtain ⟨pl, hck⟩ := mj_cT_spec hc
              unfold mj_cck at hck
              dsimp only at hck
              rw [if_neg (show ¬ (3 : Nat) = 5 by decide), if_neg (show ¬ (3 : Nat) = 6 by decide), if_pos rfl] at hck
              have hw := mj_w0_in pl (of_decide_eq_true hck) rfl
              refine va_copyi hx hb (by rw [hL.1]) hown (hts _ hw) (hts _ mj_w_nat) (hts _ mj_w_sta) (hts _ mj_w_sys) hK hP (mj_ws_D hinj) hS a b 0 0 (by rw [mj_ws_get (mj_ial_lt z6), mj_cel_i z6]) (by rw [mj_ws_get (mj_ial_lt z7), mj_cel_i z7]) rfl rfl rfl z3 z4 z5 z8 z9 (fun _ _ => rfl) (by omega) (by rw [mj_sum hst.t.t.t.t.t]; show _ + (5 + 2 + 11) ≤ R.locals; omega) hdg (fun H1 locs1 hP1 hD1 hS1 => ?_)
              rw [mj_ws_set (M' := mj_row M b (va_cpy (M a) (M b) sp.toNatClampNeg dp.toNatClampNeg nn.toNatClampNeg)) (mj_ial_lt z7) (by rw [mj_cel_i z7, mj_row_eq]) (fun q hq => mj_row_ne hq)] at hP1
              have b72 := mj_ial_lt z7
              exact hk ls H1 locs1 hL hst.t.t.t.t.t ⟨hP1, hS1, by rw [← hro1]; exact mj_row_ne (by omega), by rw [← hro2]; exact mj_row_ne (by omega)⟩
            · cases hs
          · cases hs
        · split at hs
          · next hkd =>
            subst hkd
            unfold mj_mth at hs
            split at hs
            · next yy xx st0 z0 =>
              split at hs
              · next hq =>
                cases hs
                obtain ⟨pl, hck⟩ := mj_cT_spec hc
                unfold mj_cck at hck
                dsimp only at hck
                rw [if_pos rfl] at hck
                have hw := mj_w0_in pl (of_decide_eq_true hck) rfl
                exact va_mmax hx hb (by rw [hL.1]) hown (hts _ hw) (hts _ mj_w_smax) (hts _ mj_w_math) (hts _ mj_w_cmax) (by omega) (by rw [mj_sum hst.t.t]; omega) hR.2.2.1 hR.2.2.2 hdg (hk ls H locs hL hst.t.t.i hW)
              · cases hs
            · cases hs
          · split at hs
            · next hkd =>
              subst hkd
              unfold mj_mth at hs
              split at hs
              · next yy xx st0 z0 =>
                split at hs
                · next hq =>
                  cases hs
                  obtain ⟨pl, hck⟩ := mj_cT_spec hc
                  unfold mj_cck at hck
                  dsimp only at hck
                  rw [if_neg (show ¬ (6 : Nat) = 5 by decide), if_pos rfl] at hck
                  have hw := mj_w0_in pl (of_decide_eq_true hck) rfl
                  exact va_mmin hx hb (by rw [hL.1]) hown (hts _ hw) (hts _ mj_w_smin) (hts _ mj_w_math) (hts _ mj_w_cmin) (by omega) (by rw [mj_sum hst.t.t]; omega) hR.2.2.1 hR.2.2.2 hdg (hk ls H locs hL hst.t.t.i hW)
                · cases hs
              · cases hs
            · cases hs
    · cases hs
  case invokevirtual j =>
    obtain rfl := mj_nk hn (k := 3) rfl (by decide)
    have hs : mj_ivv (mj_own id) j st = _ := hs
    unfold mj_ivv at hs
    split at hs
    · split at hs
      · unfold mj_vcl at hs
        split at hs
        · split at hs
          · split at hs
            · cases hs
            · cases hs
          · cases hs
        · cases hs
      · cases hs
    · cases hs
  case ireturn  =>
    obtain rfl := mj_nk hn (k := 1) rfl (by decide)
    have hs : mj_rti id st = _ := hs
    unfold mj_rti at hs
    (repeat' split at hs) <;> cases hs
  case areturn  =>
    obtain rfl := mj_nk hn (k := 1) rfl (by decide)
    have hs : mj_rta id st = _ := hs
    unfold mj_rta at hs
    (repeat' split at hs) <;> cases hs
  case return_  =>
    obtain rfl := mj_nk hn (k := 1) rfl (by decide)
    have hs : mj_rtv id st = _ := hs
    unfold mj_rtv at hs
    (repeat' split at hs) <;> cases hs
  all_goals (exfalso; have hs : none = some _ := hs; cases hs)
end MJS
end
section
def mj_rmD (d : Nat) : Room := { frames := d, cells := 0, slots := 0, locals := 40 * d }
def mj_wY (me : mj_I) : List Cond := Cond.code me.2.2.2.2.1 me.2.1 me.2.2.1 me.2.2.2.1 :: mj_w0
def mj_B (G : va_G) (ad : Nat → Nat) (cI cB : ClassId) (sl : Nat) (xs : Nat → Int32) (M : mj_M) (U : State) : Prop := va_P G mj_cl (mj_ws ad cI cB M) U.heap ∧ va_K G mj_cl [(cI, .int), (cB, .byte)] U ∧ mj_Out ad sl xs (mj_A ad) U U.heap ∧ mj_Vm ad U
def mj_Pc (G : va_G) (ad : Nat → Nat) (cI cB : ClassId) (sl : Nat) (xs : Nat → Int32) (as : List Value) (M : mj_M) : Array Value → State → Prop := va_Pc (as.map (mj_tr ad)) (mj_B G ad cI cB sl xs M)
def mj_Qc (G : va_G) (ad : Nat → Nat) (cI cB : ClassId) (r : Option Value) (M : mj_M) : Array Value → State → Outcome → State → Prop := fun _ st oc t => oc = .returned (r.map (mj_tr ad)) ∧ va_P G mj_cl (mj_ws ad cI cB M) t.heap ∧ va_F (mj_A ad) st t
def mj_nar (me : mj_I) : Nat := if me.2.2.2.2.2.2.1 = 100 then me.2.2.2.2.2.1 else me.2.2.2.2.2.1 + 1
theorem mj_mck_spec {y : Nat} {me : mj_I} (hm : mj_tab[y]? = some me) (h10 : me.1 ≠ 10) : me.2.2.2.2.1.cls = mj_cn me.1 ∧ me.2.2.1 ≤ 21 ∧ (parseMethodDescriptor me.2.2.2.2.1.desc).map (fun d => d.parameters.length) = some me.2.2.2.2.2.1 ∧ plainName me.2.2.2.2.1.cls = true ∧ me.2.2.2.2.1.cls ≠ "java/lang/invoke/MethodHandle" ∧ me.2.2.2.2.1.cls ≠ "java/lang/invoke/VarHandle" ∧ mj_nar me ≤ me.2.2.1 ∧ Cond.code me.2.2.2.2.1 me.2.1 me.2.2.1 me.2.2.2.1 ∈ mj_w0 ∧ (me.2.2.2.2.2.2.1 = 100 → .static me.2.2.2.2.1 ∈ mj_w0) ∧ (me.2.2.2.2.2.2.1 ≠ 100 → .instanceMethod me.2.2.2.2.1 ∈ mj_w0 ∧ .selects me.2.2.2.2.1.cls me.2.2.2.2.1 me.2.2.2.2.1 ∈ mj_w0 ∧ me.2.2.2.2.2.2.1 = me.1) ∧ .initialized me.2.2.2.2.1.cls ∈ mj_w0 := by
  have hmem := List.mem_of_getElem? hm
  have h1 := mj_m_ok me hmem
  have h2 := mj_cd_ok me hmem
  unfold mj_mck at h1
  rw [if_neg h10] at h1
  have hcode : Cond.code me.2.2.2.2.1 me.2.1 me.2.2.1 me.2.2.2.1 ∈ mj_w0 := by
    rcases h2 with h2 | h2
    · exact absurd h2 h10
    · exact mj_w0_in _ h2 rfl
  simp only [Bool.and_eq_true, decide_eq_true_eq] at h1
  obtain ⟨⟨⟨⟨⟨⟨⟨a1, a2⟩, a3⟩, a4⟩, a5⟩, a6⟩, a7⟩, a8⟩ := h1
  split at a8
  · next a b c d hl =>
    simp only [Bool.and_eq_true, decide_eq_true_eq] at a8
    obtain ⟨b1, b2⟩ := a8
    refine ⟨a1, a2, a3, a4, a5, a6, a7, hcode, fun hs => ?_, fun hs => ?_, mj_w0_in _ b2 rfl⟩
    · rw [if_pos hs] at b1
      exact mj_w0_in _ (of_decide_eq_true b1) rfl
    · rw [if_neg hs] at b1
      simp only [Bool.and_eq_true, decide_eq_true_eq] at b1
      exact ⟨mj_w0_in _ b1.1.1 rfl, mj_w0_in _ b1.1.2 rfl, b1.2⟩
  · cases a8
theorem mj_blind {G : va_G} {ad : Nat → Nat} {cI cB : ClassId} {sl : Nat} {xs : Nat → Int32} {as : List Value} {M : mj_M} : FrameBlind (mj_Pc G ad cI cB sl xs as M) := by
  intro a U g mk q
  obtain ⟨q0, q1, q2, q3, q4⟩ := q
  exact ⟨q0, q1, va_K.moved (u := U) (U := U.calling g mk a) (Vm.Alike.refl U.vm) q2, mj_Out.moved (u := U) (U := U.calling g mk a) (Vm.Alike.refl U.vm) q3, mj_Vm.same (s := U) (U := U.calling g mk a) rfl q4⟩
theorem mj_w_warm {s : State} {args : Array Value} (hts : ∀ w ∈ mj_w0, w.before args s = true) {w : Cond} (hw : w ∈ mj_w0) : ∀ (a' : Array Value) (U : State), s.WarmedH U.vm → w.before a' U = true :=
  fun _ _ hW => word_at hW (good_of_word (List.mem_filter.mp hw).2) (hts w hw)
theorem mj_rok_ok {k : Nat} {r : Option Value} (h : mj_rok k r) : mj_SK r.toList := by
  unfold mj_rok at h
  split at h
  · intro v hv; cases hv
  · intro v hv
    rw [Option.toList, List.mem_singleton] at hv
    exact Or.inl ⟨_, hv⟩
  · intro v hv
    rw [Option.toList, List.mem_singleton] at hv
    exact Or.inr ⟨_, hv⟩
  · exact h.elim
theorem mj_SK.app {a b : List Value} (ha : mj_SK a) (hb : mj_SK b) : mj_SK (a ++ b) := fun v hv => by
  rcases List.mem_append.mp hv with h | h
  · exact ha v h
  · exact hb v h
theorem mj_cl_name {k : Nat} (h : k < 8) : ∃ q, mj_cl[k]? = some q ∧ q.1 = mj_cn k := by
  match k, h with
  | 0, _ => exact ⟨_, rfl, rfl⟩
  | 1, _ => exact ⟨_, rfl, rfl⟩
  | 2, _ => exact ⟨_, rfl, rfl⟩
  | 3, _ => exact ⟨_, rfl, rfl⟩
  | 4, _ => exact ⟨_, rfl, rfl⟩
  | 5, _ => exact ⟨_, rfl, rfl⟩
  | 6, _ => exact ⟨_, rfl, rfl⟩
  | 7, _ => exact ⟨_, rfl, rfl⟩
theorem mj_ocl_vals : ∀ a, a < 75 → mj_ocl a < 8 ∨ mj_ocl a = 14 ∨ mj_ocl a = 100 := by decide +kernel
section MJC
variable {p : Program} {l : Launch} {e : Env} {R : Room} {s : State} {m : MethodId} {args : Array Value} {below : List Frame} {meth : Method} {c : Code} {cells slots : Nat} {Q : State → Prop}
variable {G : va_G} {ad : Nat → Nat} {cI cB : ClassId} {sl : Nat} {xs : Nat → Int32} {id d : Nat}
theorem mj_cont {H : Heap} {locs : List Loc} {pc : Nat} {ls : Array Slot} {st0 rest L : List Value} {r : Option Value} {M' : mj_M} {a : Array Value} (hr : va_Run p l e R s m args below meth c H locs cells slots 0 0 (F0 m pc ls st0) (rest.map (mj_tr ad)) (mj_Qc G ad cI cB r M' a) (mj_A ad)) (hS : va_S (mj_A ad) s.heap H locs) (hL : mj_LR ad ls c.maxLocals L) (hsk : mj_SK (r.toList ++ rest)) (h72 : M' 72 = xs) (h74 : M' 74 = mj_bt) (hk : mj_Go p l e R s m args below meth c cells slots Q G ad cI cB xs (pc + 3) L (r.toList ++ rest) M') : W p l e R s m args below meth c H locs cells slots Q (F0 m pc ls st0) := by
  intro T hT X
  obtain ⟨v, st₀, t, T', Lc, h0, X', hLc, e1, e2, ⟨hv, hp, hz, hkF⟩, st⟩ := hr T hT X
  cases hv
  rw [h0] at hz hkF
  have hS' : va_S (mj_A ad) s.heap T'.heap (locs ++ Lc) := ⟨Nat.le_trans hS.1 (by rw [e1]; exact hz), fun q h1 h2 => by rw [e1, hkF q (Nat.lt_of_lt_of_le h1 hS.1) h2]; exact hS.2.1 q h1 h2, fun q hq => by
    rcases List.mem_append.mp hq with h | h
    · exact hS.2.2 q h
    · exact hLc q h⟩
  obtain ⟨t2, a1, b1⟩ := hk ls T'.heap (locs ++ Lc) hL hsk ⟨by rw [e1]; exact hp, hS', h72, h74⟩ T' rfl X'
  refine ⟨t2, st t2 ?_, b1⟩
  have e3 : (r.toList ++ rest).map (mj_tr ad) = (r.map (mj_tr ad)).toList ++ rest.map (mj_tr ad) := by
    rw [List.map_append]
    cases r <;> rfl
  rw [e3] at a1
  exact a1
theorem mj_callB {k j y dd : Nat} {me : mj_I} (hts : ∀ w ∈ mj_w0, w.before args s = true) (hm : mj_tab[y]? = some me) (h10 : me.1 ≠ 10) (hR : dd + 1 ≤ R.frames ∧ 40 * (dd + 1) ≤ R.locals) (hw : .methodLink (mj_cn k) j me.2.2.2.2.1 ∈ mj_w0) : CallB R s args (mj_cn k) j me.2.2.2.2.1 me.2.1 me.2.2.1 me.2.2.2.1 (mj_wY me) (mj_rmD dd) 0 0 me.2.2.2.2.2.1 := by
  obtain ⟨a1, a2, a3, a4, a5, a6, a7, a8, a9, a10, a11⟩ := mj_mck_spec hm h10
  refine ⟨rfl, rfl, hR.1, ?_, ?_, List.mem_cons_self, hts _ a8, hts _ a11, ⟨a5, a6⟩, ?_, hts _ hw⟩
  · show 8 + (me.2.2.1 + 11) + 40 * dd ≤ R.locals
    omega
  · intro w hw2
    rcases List.mem_cons.mp hw2 with z | z
    · rw [z]; exact mj_w_warm hts a8
    · exact mj_w_warm hts z
  · intro sig hsig
    rw [hsig] at a3
    exact (Option.some.inj a3).symm
end MJC
end
section
theorem mj_cT_all {P : Nat × Nat × Nat × Nat × Nat → Bool} (hall : mj_cTab.all P = true) {k j kd y : Nat} (h : mj_cT k j = some (kd, y)) : ∃ pl, P (k, j, kd, y, pl) = true := by
  unfold mj_cT at h
  cases hf : mj_cTab.find? (fun e => e.1 == k && e.2.1 == j) with
  | none => rw [hf] at h; cases h
  | some e =>
    rw [hf] at h
    have h1 := List.find?_some hf
    have h2 := List.mem_of_find?_eq_some hf
    have h3 := List.all_eq_true.mp hall e h2
    obtain ⟨a, b, c, d, g⟩ := e
    simp only [Bool.and_eq_true, beq_iff_eq] at h1
    obtain ⟨rfl, rfl⟩ := h1
    cases h
    exact ⟨g, h3⟩
def mj_ck2 (e : Nat × Nat × Nat × Nat × Nat) : Bool := match mj_tab[e.2.2.2.1]? with
  | some me => decide (2 < e.2.2.1) || (decide (me.1 ≠ 10) && (if e.2.2.1 = 0 then decide (me.2.2.2.2.2.2.1 ≠ 100) else decide (me.2.2.2.2.2.2.1 = 100)))
  | none => false
theorem mj_ck2_ok : mj_cTab.all mj_ck2 = true := by decide +kernel
def mj_HC (l : Launch) (G : va_G) (ad : Nat → Nat) (cI cB : ClassId) (sl : Nat) (xs : Nat → Int32) (d' : Nat) : Prop :=
  ∀ (n y : Nat) (me : mj_I) (as : List Value) (M M' : mj_M) (r : Option Value), mj_tab[y]? = some me → me.1 ≠ 10 → mj_SK as → as.length = mj_nar me → mj_ex sl n d' y 0 (mj_ent y as) [] M = some (r, M') → M 72 = xs → M 74 = mj_bt → Met l me.2.2.2.2.1 (mj_wY me) (mj_rmD d') (mj_Pc G ad cI cB sl xs as M) (mj_Qc G ad cI cB r M') 0 0 (mj_A ad) ∧ M' 72 = xs ∧ M' 74 = mj_bt
section MJD
variable {p : Program} {l : Launch} {e : Env} {R : Room} {s : State} {m : MethodId} {args : Array Value} {below : List Frame} {meth : Method} {c : Code} {cells slots : Nat} {Q : State → Prop}
variable {G : va_G} {ad : Nat → Nat} {cI cB : ClassId} {sl : Nat} {xs : Nat → Int32} {id d : Nat}
theorem mj_stp_call {i : Instr} {sl d id pc y : Nat} {L st as rest : List Value} {M : mj_M} (hs : mj_stp sl d id i pc L st M = some (.inr (.inr (y, as, rest)))) (h1 : ∀ j, i ≠ .invokevirtual j) (h2 : ∀ j, i ≠ .invokestatic j) : False := by
  cases i
  case invokevirtual j => exact h1 j rfl
  case invokestatic j => exact h2 j rfl
  case getfield j =>
    simp only [mj_stp, mj_gf, mj_nx] at hs
    (repeat' split at hs) <;> first | (cases hs; done) | (simp at hs; done)
  case putfield j =>
    simp only [mj_stp, mj_pf, mj_nx] at hs
    (repeat' split at hs) <;> first | (cases hs; done) | (simp at hs; done)
  case tableswitch =>
    simp only [mj_stp, mj_tsw, mj_go, mj_nx] at hs
    (repeat' split at hs) <;> first | (cases hs; done) | (simp at hs; done)
  case lookupswitch =>
    simp only [mj_stp, mj_lsw, mj_go, mj_nx] at hs
    (repeat' split at hs) <;> first | (cases hs; done) | (simp at hs; done)
  case ireturn =>
    simp only [mj_stp, mj_rti] at hs
    (repeat' split at hs) <;> first | (cases hs; done) | (simp at hs; done)
  case areturn =>
    simp only [mj_stp, mj_rta] at hs
    (repeat' split at hs) <;> first | (cases hs; done) | (simp at hs; done)
  case return_ =>
    simp only [mj_stp, mj_rtv] at hs
    (repeat' split at hs) <;> first | (cases hs; done) | (simp at hs; done)
  all_goals (simp only [mj_stp, mj_ldc, mj_ldi, mj_lda, mj_sti, mj_sta, mj_dup, mj_dup2, mj_bin, mj_dv, mj_un, mj_go, mj_icmp, mj_ifc, mj_br, mj_ild, mj_ist, mj_bld, mj_bst, mj_aln, mj_gs, mj_nx] at hs)
  all_goals first | (cases hs; done) | (simp at hs; done) | ((repeat' split at hs) <;> first | (cases hs; done) | (simp at hs; done))
theorem mj_preS {H : Heap} {locs : List Loc} {as : List Value} {M : mj_M} (C : mj_Cx G ad cI cB sl xs id p s m args c) (hW : mj_Wh G ad cI cB xs s M H locs) : ∀ U : State, U.heap = H → s.WarmedH U.vm → mj_Pc G ad cI cB sl xs as M (as.map (mj_tr ad)).toArray U := by
  obtain ⟨hx, hts, hK, hO, hV, hinj, me, hm, hb, hml, hown⟩ := C
  intro U hU hWm
  refine ⟨rfl, by rw [hU]; exact hW.1, va_K.moved hWm.alike hK, ?_, mj_Vm.warm hWm hV⟩
  rw [hU]
  exact mj_Out.moved hWm.alike (hO.kept hW.2.1.2.1)
theorem mj_drop {st rest : List Value} {n b : Nat} (h : st.drop n = .ref b :: rest) : (st.take n).length = n ∧ st = st.take n ++ .ref b :: rest := by
  have h1 : n < st.length := by
    rcases Nat.lt_or_ge n st.length with q | q
    · exact q
    · rw [List.drop_eq_nil_of_le q] at h; cases h
  refine ⟨by rw [List.length_take]; omega, ?_⟩
  rw [← h, List.take_append_drop]
set_option maxHeartbeats 4000000 in
theorem mj_call {i : Instr} {d' pc y n : Nat} {L st as rest : List Value} {M M1 : mj_M} {r : Option Value} (C : mj_Cx G ad cI cB sl xs id p s m args c) (hR : d' + 1 ≤ R.frames ∧ 40 * (d' + 1) ≤ R.locals ∧ cells ≤ R.cells ∧ slots ≤ R.slots) (HC : mj_HC l G ad cI cB sl xs d') (h : mj_at id pc = some i) (hs : mj_stp sl (d' + 1) id i pc L st M = some (.inr (.inr (y, as, rest)))) (hc : mj_ex sl n d' y 0 (mj_ent y as) [] M = some (r, M1)) (hk : mj_Go p l e R s m args below meth c cells slots Q G ad cI cB xs (pc + 3) L (r.toList ++ rest) M1) : mj_Go p l e R s m args below meth c cells slots Q G ad cI cB xs pc L st M := by
  intro ls H locs hL hst hW
  have C2 := C
  obtain ⟨hx, hts, hK, hO, hV, hinj, me0, hm0, hb, hml, hown⟩ := C2
  have hW2 := hW
  obtain ⟨hP, hS, hro1, hro2⟩ := hW2
  obtain ⟨nd, hdg, hn⟩ := mj_at_spec h hm0
  have hrok : mj_SK r.toList := mj_rok_ok (mj_ex_ret _ _ _ _ _ _ _ _ hc)
  cases i
  case invokevirtual j =>
    obtain rfl := mj_nk hn (k := 3) rfl (by decide)
    have hs : mj_ivv (mj_own id) j st = _ := hs
    unfold mj_ivv at hs
    rw [mj_own_eq hm0] at hs
    split at hs
    · next kd y' hct =>
      split at hs
      · next hkd =>
        subst hkd
        unfold mj_vcl at hs
        split at hs
        · next me hm =>
          split at hs
          · next b rest' hdr =>
            split at hs
            · next hq =>
              cases hs
              obtain ⟨hoc, hrl⟩ := hq
              obtain ⟨d1, d2⟩ := mj_drop hdr
              obtain ⟨pl, hck⟩ := mj_cT_spec hct
              unfold mj_cck at hck
              dsimp only at hck
              rw [if_neg (show ¬ (0 : Nat) = 5 by decide), if_neg (show ¬ (0 : Nat) = 6 by decide), if_neg (show ¬ (0 : Nat) = 3 by decide), hm] at hck
              dsimp only at hck
              rw [if_neg (show ¬ (0 : Nat) = 2 by decide)] at hck
              have hw := mj_w0_in pl (of_decide_eq_true hck) rfl
              have hrv : me.2.2.2.2.2.2.1 < 8 ∨ me.2.2.2.2.2.2.1 = 14 ∨ me.2.2.2.2.2.2.1 = 100 := by
                rw [← hoc]
                rcases Nat.lt_or_ge b 75 with q | q
                · exact mj_ocl_vals b q
                · refine Or.inr (Or.inr ?_)
                  unfold mj_ocl
                  rw [List.getD_eq_getElem?_getD, List.getElem?_eq_none (by exact q)]
                  rfl
              obtain ⟨pl2, hck2⟩ := mj_cT_all mj_ck2_ok hct
              unfold mj_ck2 at hck2
              dsimp only at hck2
              rw [hm] at hck2
              simp only [Bool.and_eq_true, Bool.or_eq_true, decide_eq_true_eq, if_pos] at hck2
              obtain ⟨h10, h100⟩ := hck2.resolve_left (by omega)
              obtain ⟨a1, a2, a3, a4, a5, a6, a7, a8, a9, a10, a11⟩ := mj_mck_spec hm h10
              obtain ⟨i1, i2, i3⟩ := a10 h100
              have hsk : mj_SK (.ref b :: (st.take me.2.2.2.2.2.1).reverse) := by
                refine mj_SK.r (fun v hv => hst v ?_)
                exact List.mem_of_mem_take (List.mem_reverse.mp hv)
              have hlen : (Value.ref b :: (st.take me.2.2.2.2.2.1).reverse).length = mj_nar me := by
                unfold mj_nar
                rw [if_neg h100, List.length_cons, List.length_reverse, d1]
              obtain ⟨hM, k72, k74⟩ := HC n y me _ M M1 r hm h10 hsk hlen hc hro1 hro2
              have hcw : CallW R s args (mj_cn me0.1) me.2.2.2.2.1.cls j me.2.2.2.2.1 me.2.1 me.2.2.1 me.2.2.2.1 (mj_wY me) (mj_rmD d') 0 0 me.2.2.2.2.2.1 := ⟨mj_callB hts hm h10 ⟨hR.1, hR.2.1⟩ hw, hts _ i1, hts _ i2⟩
              have hrecv : ∃ cellB : Cell, H[ad b]? = some cellB ∧ cellB.vm.isStatics = false ∧ s.vm.findClass me.2.2.2.2.1.cls = some cellB.cls := by
                rcases hrv with z | z | z
                · obtain ⟨q, hq1, hq2⟩ := mj_cl_name z
                  obtain ⟨b72, -, -⟩ := mj_obj hoc z
                  have := va_recv hK hP hq1 (by rw [mj_ws_get b72, mj_cel_o hoc z])
                  rw [hq2, i3, ← a1] at this
                  exact this
                · rw [z] at hoc
                  obtain rfl := mj_str hoc
                  obtain ⟨cell, q1, q2, q3, -⟩ := hO.2.1.kept hS.2.1
                  refine ⟨cell, q1, q2, ?_⟩
                  rw [a1, ← i3, z]
                  exact q3
                · exact absurd z h100
              refine mj_cont (st0 := st.map (mj_tr ad)) (va_runV (b := ad b) (As := ((st.take me.2.2.2.2.2.1).reverse).map (mj_tr ad)) ⟨hx, hb, rfl, hown, hts⟩ hM hcw ⟨mj_blind, hrecv, mj_preS (as := .ref b :: (st.take me.2.2.2.2.2.1).reverse) C hW⟩ rfl (by rw [List.length_map, List.length_reverse, d1]) hL.1 ?_ (lv_room (by rw [mj_sum (fun v hv => hst v (by rw [d2]; exact List.mem_append_right _ (List.mem_cons_of_mem _ hv)))]; exact hrl)) hdg ⟨hR.2.2.1, hR.2.2.2⟩) hS hL (hrok.app (fun v hv => hst v (by rw [d2]; exact List.mem_append_right _ (List.mem_cons_of_mem _ hv)))) k72 k74 hk
              show st.map (mj_tr ad) = _
              rw [← List.map_reverse, List.reverse_reverse]
              conv => lhs; rw [d2]
              rw [List.map_append, List.map_cons]
              rfl
            · cases hs
          · cases hs
        · cases hs
      · cases hs
    · cases hs
  case invokestatic j =>
    obtain rfl := mj_nk hn (k := 3) rfl (by decide)
    have hs : mj_ivs (d' + 1) (mj_own id) j pc L st M = _ := hs
    unfold mj_ivs at hs
    rw [mj_own_eq hm0] at hs
    split at hs
    · next kd y' hct =>
      split at hs
      · next hkd =>
        unfold mj_scl at hs
        split at hs
        · next me hm =>
          split at hs
          · next hq =>
            cases hs
            obtain ⟨hle, hrl, hrc⟩ := hq
            obtain ⟨pl2, hck2⟩ := mj_cT_all mj_ck2_ok hct
            unfold mj_ck2 at hck2
            dsimp only at hck2
            rw [hm] at hck2
            simp only [Bool.and_eq_true, Bool.or_eq_true, decide_eq_true_eq] at hck2
            obtain ⟨h10, -⟩ := hck2.resolve_left (by omega)
            obtain ⟨a1, a2, a3, a4, a5, a6, a7, a8, a9, a10, a11⟩ := mj_mck_spec hm h10
            have d1 : (st.take me.2.2.2.2.2.1).length = me.2.2.2.2.2.1 := by rw [List.length_take]; omega
            have hsk : mj_SK (st.take me.2.2.2.2.2.1).reverse := fun v hv => hst v (List.mem_of_mem_take (List.mem_reverse.mp hv))
            have hsk2 : mj_SK (st.drop me.2.2.2.2.2.1) := fun v hv => hst v (List.mem_of_mem_drop hv)
            have hlen : (st.take me.2.2.2.2.2.1).reverse.length = mj_nar me := by
              unfold mj_nar
              rw [if_pos hrc, List.length_reverse, d1]
            obtain ⟨hM, k72, k74⟩ := HC n y me _ M M1 r hm h10 hsk hlen hc hro1 hro2
            have hstk : st.map (mj_tr ad) = (((st.take me.2.2.2.2.2.1).reverse).map (mj_tr ad)).reverse ++ (st.drop me.2.2.2.2.2.1).map (mj_tr ad) := by
              rw [← List.map_reverse, List.reverse_reverse, ← List.map_append, List.take_append_drop]
            obtain ⟨pl, hck⟩ := mj_cT_spec hct
            unfold mj_cck at hck
            dsimp only at hck
            rw [if_neg (by omega), if_neg (by omega), if_neg (by omega), hm] at hck
            dsimp only at hck
            rcases hkd with hkd | hkd
            · rw [if_neg (by omega)] at hck
              have hw := mj_w0_in pl (of_decide_eq_true hck) rfl
              exact mj_cont (st0 := st.map (mj_tr ad)) (va_runS (As := ((st.take me.2.2.2.2.2.1).reverse).map (mj_tr ad)) ⟨hx, hb, rfl, hown, hts⟩ hM ⟨mj_callB hts hm h10 ⟨hR.1, hR.2.1⟩ hw, hts _ (a9 hrc)⟩ ⟨mj_blind, mj_preS (as := (st.take me.2.2.2.2.2.1).reverse) C hW⟩ rfl (by rw [List.length_map, List.length_reverse, d1]) hL.1 hstk (lv_room (by rw [mj_sum hsk2]; exact hrl)) hdg ⟨hR.2.2.1, hR.2.2.2⟩) hS hL (hrok.app hsk2) k72 k74 hk
            · rw [if_pos hkd] at hck
              simp only [Bool.and_eq_true, decide_eq_true_eq] at hck
              obtain ⟨⟨hl1, hl2⟩, hl3⟩ := hck
              have hnw : va_Nw (.methodLinkNest (mj_cn me0.1) j me.2.2.2.2.1 "CourtHand") s := by
                rw [hl2]
                rcases hl3 with ⟨z1, z2⟩ | ⟨z1, z2⟩ | ⟨z1, z2⟩
                · rw [z1, z2]; exact hV.1
                · rw [z1, z2]; exact hV.2.1
                · rw [z1, z2]; exact hV.2.2.1
              have hcn : va_CN R s args (mj_cn me0.1) j me.2.2.2.2.1 "CourtHand" me.2.1 me.2.2.1 me.2.2.2.1 (mj_wY me) (mj_rmD d') 0 0 me.2.2.2.2.2.1 := by
                refine ⟨⟨rfl, rfl, hR.1, ?_, ?_, List.mem_cons_self⟩, hts _ a8, hts _ a11, ⟨a5, a6⟩, ?_, va_Nw.use rfl hnw⟩
                · show 8 + (me.2.2.1 + 11) + 40 * d' ≤ R.locals
                  omega
                · intro w hw2
                  rcases List.mem_cons.mp hw2 with z | z
                  · rw [z]; exact mj_w_warm hts a8
                  · exact mj_w_warm hts z
                · intro sig hsig
                  rw [hsig] at a3
                  exact (Option.some.inj a3).symm
              exact mj_cont (st0 := st.map (mj_tr ad)) (va_runSN (As := ((st.take me.2.2.2.2.2.1).reverse).map (mj_tr ad)) ⟨hx, hb, rfl, hown, hts⟩ hM ⟨hcn, hts _ (a9 hrc), trivial⟩ ⟨mj_blind, mj_preS (as := (st.take me.2.2.2.2.2.1).reverse) C hW⟩ rfl (by rw [List.length_map, List.length_reverse, d1]) hL.1 hstk (lv_room (by rw [mj_sum hsk2]; exact hrl)) hdg ⟨hR.2.2.1, hR.2.2.2⟩) hS hL (hrok.app hsk2) k72 k74 hk
          · cases hs
        · cases hs
      · split at hs
        · unfold mj_acp mj_nx at hs
          (repeat' split at hs) <;> cases hs
        · split at hs
          · unfold mj_mth mj_nx at hs
            (repeat' split at hs) <;> cases hs
          · split at hs
            · unfold mj_mth mj_nx at hs
              (repeat' split at hs) <;> cases hs
            · cases hs
    · cases hs
  all_goals (exfalso; exact mj_stp_call hs (by intro j z; cases z) (by intro j z; cases z))
end MJD
end
section
theorem mj_stp_ro {i : Instr} {sl d id pc pc' : Nat} {L L' st st' : List Value} {M M' : mj_M} (hs : mj_stp sl d id i pc L st M = some (.inl (pc', L', st', M'))) : M' 72 = M 72 ∧ M' 74 = M 74 := by
  have nrow : ∀ (a : Nat) (f : Nat → Int32), a < 72 → mj_row M a f 72 = M 72 ∧ mj_row M a f 74 = M 74 := fun a f ha => ⟨mj_row_ne (by omega), mj_row_ne (by omega)⟩
  cases i
  case putfield j =>
    have hs : mj_pf (mj_own id) j pc L st M = _ := hs
    unfold mj_pf at hs
    split at hs
    · next ci slt kd hf =>
      have key : ∀ a : Nat, mj_ocl a = ci → kd ≤ 3 → a < 72 := fun a ho hkd => by
        have hc : ci ≠ 14 := fun z => by
          subst z
          rcases mj_fT_str hf with ⟨y, -⟩ | ⟨y, -⟩ <;> omega
        obtain ⟨q, hq, h1, hw, h3, h4, h5, h6, h7, h8, h9, h10⟩ := mj_fT_obj hf hc
        exact (mj_obj ho h10).1
      split at hs
      · split at hs
        · next hcc =>
          cases hs
          exact nrow _ _ (key _ hcc.1 (by omega))
        · cases hs
      · split at hs
        · next hcc =>
          cases hs
          exact nrow _ _ (key _ hcc.1 (by omega))
        · cases hs
      · cases hs
    · cases hs
  case iastore =>
    have hs : mj_ist pc L st M = _ := hs
    unfold mj_ist at hs
    split at hs
    · next x i a st0 z0 =>
      split at hs
      · next hc =>
        cases hs
        have h0 : mj_ial a ≠ 0 := fun z => by
          rw [z] at hc
          exact mj_inB_iff hc (Or.inr (Nat.zero_le _))
        exact nrow _ _ (mj_ial_lt h0)
      · cases hs
    · cases hs
  case bastore =>
    have hs : mj_bst pc L st M = _ := hs
    unfold mj_bst at hs
    split at hs
    · next x i a st0 z0 =>
      split at hs
      · next hc =>
        cases hs
        have h0 : mj_bal a ≠ 0 := fun z => by
          rw [z] at hc
          exact mj_inB_iff hc (Or.inr (Nat.zero_le _))
        obtain rfl := mj_bal_50 h0
        exact nrow _ _ (by decide)
      · cases hs
    · cases hs
  case invokestatic j =>
    have hs : mj_ivs d (mj_own id) j pc L st M = _ := hs
    unfold mj_ivs at hs
    split at hs
    · split at hs
      · unfold mj_scl at hs
        (repeat' split at hs) <;> cases hs
      · split at hs
        · unfold mj_acp mj_nx at hs
          split at hs
          · split at hs
            · next hq =>
              cases hs
              exact nrow _ _ (mj_ial_lt hq.2.2.2.2.2.2.1)
            · cases hs
          · cases hs
        · split at hs
          · unfold mj_mth mj_nx at hs
            (repeat' split at hs) <;> (cases hs; try exact ⟨rfl, rfl⟩)
          · split at hs
            · unfold mj_mth mj_nx at hs
              (repeat' split at hs) <;> (cases hs; try exact ⟨rfl, rfl⟩)
            · cases hs
    · cases hs
  case invokevirtual j =>
    have hs : mj_ivv (mj_own id) j st = _ := hs
    unfold mj_ivv mj_vcl at hs
    (repeat' split at hs) <;> cases hs
  case getfield j =>
    simp only [mj_stp, mj_gf, mj_nx] at hs
    (repeat' split at hs) <;> first | (cases hs; exact ⟨rfl, rfl⟩) | (cases hs; done) | (simp at hs; done)
  case tableswitch =>
    simp only [mj_stp, mj_tsw, mj_go, mj_nx] at hs
    (repeat' split at hs) <;> first | (cases hs; exact ⟨rfl, rfl⟩) | (cases hs; done) | (simp at hs; done)
  case lookupswitch =>
    simp only [mj_stp, mj_lsw, mj_go, mj_nx] at hs
    (repeat' split at hs) <;> first | (cases hs; exact ⟨rfl, rfl⟩) | (cases hs; done) | (simp at hs; done)
  case ireturn =>
    simp only [mj_stp, mj_rti] at hs
    (repeat' split at hs) <;> first | (cases hs; done) | (simp at hs; done)
  case areturn =>
    simp only [mj_stp, mj_rta] at hs
    (repeat' split at hs) <;> first | (cases hs; done) | (simp at hs; done)
  case return_ =>
    simp only [mj_stp, mj_rtv] at hs
    (repeat' split at hs) <;> first | (cases hs; done) | (simp at hs; done)
  all_goals (simp only [mj_stp, mj_ldc, mj_ldi, mj_lda, mj_sti, mj_sta, mj_dup, mj_dup2, mj_bin, mj_dv, mj_un, mj_go, mj_icmp, mj_ifc, mj_br, mj_ild, mj_bld, mj_aln, mj_gs, mj_nx] at hs)
  all_goals first | (cases hs; exact ⟨rfl, rfl⟩) | (cases hs; done) | (simp at hs; done) | ((repeat' split at hs) <;> first | (cases hs; exact ⟨rfl, rfl⟩) | (cases hs; done) | (simp at hs; done))
theorem mj_stp_noret {i : Instr} {sl d id pc : Nat} {L st : List Value} {M : mj_M} {r : Option Value} (hs : mj_stp sl d id i pc L st M = some (.inr (.inl r))) (h1 : i ≠ .ireturn) (h2 : i ≠ .areturn) (h3 : i ≠ .return_) : False := by
  cases i
  case ireturn => exact h1 rfl
  case areturn => exact h2 rfl
  case return_ => exact h3 rfl
  case getfield j =>
    simp only [mj_stp, mj_gf, mj_nx] at hs
    (repeat' split at hs) <;> first | (cases hs; done) | (simp at hs; done)
  case putfield j =>
    simp only [mj_stp, mj_pf, mj_nx] at hs
    (repeat' split at hs) <;> first | (cases hs; done) | (simp at hs; done)
  case tableswitch =>
    simp only [mj_stp, mj_tsw, mj_go, mj_nx] at hs
    (repeat' split at hs) <;> first | (cases hs; done) | (simp at hs; done)
  case lookupswitch =>
    simp only [mj_stp, mj_lsw, mj_go, mj_nx] at hs
    (repeat' split at hs) <;> first | (cases hs; done) | (simp at hs; done)
  case invokestatic j =>
    have hs : mj_ivs d (mj_own id) j pc L st M = _ := hs
    unfold mj_ivs mj_scl mj_acp mj_mth mj_nx at hs
    (repeat' split at hs) <;> first | (cases hs; done) | (simp at hs; done)
  case invokevirtual j =>
    have hs : mj_ivv (mj_own id) j st = _ := hs
    unfold mj_ivv mj_vcl at hs
    (repeat' split at hs) <;> first | (cases hs; done) | (simp at hs; done)
  all_goals (simp only [mj_stp, mj_ldc, mj_ldi, mj_lda, mj_sti, mj_sta, mj_dup, mj_dup2, mj_bin, mj_dv, mj_un, mj_go, mj_icmp, mj_ifc, mj_br, mj_ild, mj_ist, mj_bld, mj_bst, mj_aln, mj_gs, mj_nx] at hs)
  all_goals first | (cases hs; done) | (simp at hs; done) | ((repeat' split at hs) <;> first | (cases hs; done) | (simp at hs; done))
theorem mj_ex_ro {sl : Nat} : ∀ (n d id pc : Nat) (L st : List Value) (M : mj_M) (r : Option Value × mj_M), mj_ex sl n d id pc L st M = some r → r.2 72 = M 72 ∧ r.2 74 = M 74 := by
  intro n
  induction n with
  | zero => intro d id pc L st M r h; rw [mj_ex] at h; cases h
  | succ n ih =>
    intro d id pc L st M r h
    rw [mj_ex] at h
    cases hi : mj_at id pc with
    | none => rw [hi] at h; cases h
    | some i =>
      rw [hi] at h
      dsimp only at h
      cases hs : mj_stp sl d id i pc L st M with
      | none => rw [hs] at h; cases h
      | some o =>
        rw [hs] at h
        rcases o with ⟨pc', L', st', M'⟩ | r' | ⟨y, as, rest⟩
        · obtain ⟨a1, a2⟩ := ih _ _ _ _ _ _ _ h
          obtain ⟨b1, b2⟩ := mj_stp_ro hs
          exact ⟨a1.trans b1, a2.trans b2⟩
        · cases h
          exact ⟨rfl, rfl⟩
        · dsimp only at h
          cases d with
          | zero => cases h
          | succ d' =>
            dsimp only at h
            cases hc : mj_ex sl n d' y 0 (mj_ent y as) [] M with
            | none => rw [hc] at h; cases h
            | some q =>
              rw [hc] at h
              obtain ⟨a1, a2⟩ := ih _ _ _ _ _ _ _ h
              obtain ⟨b1, b2⟩ := ih _ _ _ _ _ _ _ hc
              exact ⟨a1.trans b1, a2.trans b2⟩
theorem mj_lv_args : ∀ (vs : List Value), (∀ v ∈ vs, v.category = 1) → ∀ (k i : Nat) (v : Value), vs[i]? = some v → (k + i, v) ∈ lv_args k vs := by
  intro vs
  induction vs with
  | nil => intro _ k i v h; simp at h
  | cons a t ih =>
    intro hc k i v h
    have ha : a.category = 1 := hc a List.mem_cons_self
    rw [lv_args, if_neg (by omega)]
    cases i with
    | zero =>
      simp at h
      subst h
      exact List.mem_cons_self
    | succ i =>
      refine List.mem_cons_of_mem _ ?_
      have := ih (fun v hv => hc v (List.mem_cons_of_mem _ hv)) (k + 1) i v (by simpa using h)
      rw [show k + (i + 1) = k + 1 + i from by omega]
      exact this
theorem mj_lg_len : ∀ (vs : List Value), (∀ v ∈ vs, v.category = 1) → (lg_sl vs).length = vs.length := by
  intro vs
  induction vs with
  | nil => intro _; rfl
  | cons a t ih =>
    intro hc
    have ha : a.category = 1 := hc a List.mem_cons_self
    have := ih (fun v hv => hc v (List.mem_cons_of_mem _ hv))
    unfold lg_sl at this ⊢
    rw [List.flatMap_cons, if_neg (by omega), List.length_append, this]
    simp
    omega
section MJE
variable {p : Program} {l : Launch} {e : Env} {R : Room} {s : State} {m : MethodId} {args : Array Value} {below : List Frame} {meth : Method} {c : Code} {cells slots : Nat} {Q : State → Prop}
variable {G : va_G} {ad : Nat → Nat} {cI cB : ClassId} {sl : Nat} {xs : Nat → Int32} {id d : Nat}
theorem mj_body (C : mj_Cx G ad cI cB sl xs id p s m args c) (hR : d ≤ R.frames ∧ 40 * d ≤ R.locals ∧ cells ≤ R.cells ∧ slots ≤ R.slots) (HC : ∀ d', d = d' + 1 → mj_HC l G ad cI cB sl xs d') {r : Option Value} {M' : mj_M} (HRet : ∀ (pc : Nat) (i : Instr) (L st : List Value), mj_at id pc = some i → mj_stp sl d id i pc L st M' = some (.inr (.inl r)) → mj_Go p l e R s m args below meth c cells slots Q G ad cI cB xs pc L st M') : ∀ (n pc : Nat) (L st : List Value) (M : mj_M), mj_ex sl n d id pc L st M = some (r, M') → mj_Go p l e R s m args below meth c cells slots Q G ad cI cB xs pc L st M := by
  intro n
  induction n with
  | zero => intro pc L st M h; rw [mj_ex] at h; cases h
  | succ n ih =>
    intro pc L st M h
    rw [mj_ex] at h
    cases hi : mj_at id pc with
    | none => rw [hi] at h; cases h
    | some i =>
      rw [hi] at h
      dsimp only at h
      cases hs : mj_stp sl d id i pc L st M with
      | none => rw [hs] at h; cases h
      | some o =>
        rw [hs] at h
        rcases o with ⟨pc', L', st', M1⟩ | r' | ⟨y, as, rest⟩
        · exact mj_next C hR hi hs (ih _ _ _ _ h)
        · cases h
          exact HRet pc i L st hi hs
        · dsimp only at h
          cases d with
          | zero => cases h
          | succ d' =>
            dsimp only at h
            cases hc : mj_ex sl n d' y 0 (mj_ent y as) [] M with
            | none => rw [hc] at h; cases h
            | some q =>
              rw [hc] at h
              exact mj_call C hR (HC d' rfl) hi hs hc (ih _ _ _ _ h)
theorem mj_LR_entry {y : Nat} {me : mj_I} {as : List Value} (hm : mj_tab[y]? = some me) (hsk : mj_SK as) (hl : as.length ≤ me.2.2.1) : mj_LR ad ((lg_sl (as.map (mj_tr ad)) ++ List.replicate (me.2.2.1 - (lg_sl (as.map (mj_tr ad))).length) Slot.unset).toArray) me.2.2.1 (mj_ent y as) := by
  have hcat : ∀ v ∈ as.map (mj_tr ad), v.category = 1 := fun v hv => by
    obtain ⟨w, hw, rfl⟩ := List.mem_map.mp hv
    exact mj_ok.cat (Or.inl (hsk w hw))
  have hml : mj_ml y = me.2.2.1 := by
    unfold mj_ml
    rw [hm]
  obtain ⟨h1, h2, h3⟩ := lv_entry (as.map (mj_tr ad)) (n := me.2.2.1) (by rw [mj_lg_len _ hcat, List.length_map]; exact hl)
  refine ⟨h1, h2, ?_, ?_, ?_⟩
  · unfold mj_ent
    rw [List.length_append, List.length_replicate, hml]
    omega
  · intro v hv
    unfold mj_ent at hv
    rcases List.mem_append.mp hv with z | z
    · exact Or.inl (hsk v z)
    · exact Or.inr (List.eq_of_mem_replicate z)
  · intro i v hi hn
    unfold mj_ent at hi
    rw [List.getElem?_append] at hi
    split at hi
    · have := h3 (0 + i, mj_tr ad v) (mj_lv_args _ hcat 0 i (mj_tr ad v) (by rw [List.getElem?_map, hi]; rfl))
      rw [Nat.zero_add] at this
      exact this
    · exact absurd (List.eq_of_mem_replicate (List.mem_of_getElem? hi)) hn
set_option maxHeartbeats 4000000 in
theorem mj_met1 (hinj : ∀ i j, i < 72 → j < 72 → ad i = ad j → i = j) (HC : ∀ d', d = d' + 1 → mj_HC l G ad cI cB sl xs d') : mj_HC l G ad cI cB sl xs d := by
  intro n y me as M M' r hm h10 hsk hlen hex h72 h74
  obtain ⟨ro1, ro2⟩ := mj_ex_ro _ _ _ _ _ _ _ _ hex
  refine ⟨?_, ro1.trans h72, ro2.trans h74⟩
  obtain ⟨a1, a2, a3, a4, a5, a6, a7, a8, a9, a10, a11⟩ := mj_mck_spec hm h10
  refine Met.ofW (cc := me.2.1) (maxL := me.2.2.1) (ret := me.2.2.2.1) a4 rfl ?_
  intro p e s m args below meth c s₁ B hml hv
  obtain ⟨rfl, hP, hK, hO, hV⟩ := hv
  have hts0 := atoms_spec (ws := mj_wY me) B.pre
  have hts : ∀ w ∈ mj_w0, w.before (as.map (mj_tr ad)).toArray s = true := fun w h => hts0 w (List.mem_cons_of_mem _ h)
  have hown : s.vm.findClass (mj_cn me.1) = some m.cls := by rw [← a1]; exact findClass_of_methodNamed B.named
  have hlocks := B.notSynchronized
  have hr := B.returns
  have hx := B.exec
  have hb := B.bytes
  have C : mj_Cx G ad cI cB sl xs y p s m (as.map (mj_tr ad)).toArray c := ⟨hx, hts, hK, hO, hV, hinj, me, hm, hb, hml, hown⟩
  rw [lg_entry_eq]
  have hLR := mj_LR_entry (ad := ad) hm hsk (by rw [hlen]; exact a7)
  refine mj_body (R := (headSpec (mj_wY me) (mj_rmD d)).room) C ⟨Nat.le_refl _, Nat.le_refl _, Nat.zero_le _, Nat.zero_le _⟩ HC ?_ n 0 (mj_ent y as) [] M hex _ s.heap [] (by rw [hml]; exact hLR) (fun v hv => by cases hv) ⟨hP, va_S.rf, h72, h74⟩
  intro pc i L st hat hs ls H locs hL hst hW
  obtain ⟨hP1, hS1, -, -⟩ := hW
  obtain ⟨nd, hdg, hn⟩ := mj_at_spec hat hm
  have hq : ∀ t : State, t.heap = H → s.WarmedH t.vm → mj_Qc G ad cI cB r M' (as.map (mj_tr ad)).toArray s (.returned (r.map (mj_tr ad))) t := fun t ht _ => ⟨rfl, by rw [ht]; exact hP1, hS1.F ht⟩
  cases i
  case ireturn =>
    obtain rfl := mj_nk hn (k := 1) rfl (by decide)
    have hs : mj_rti y st = _ := hs
    unfold mj_rti at hs
    split at hs
    · next v z0 =>
      rw [hm] at hs
      dsimp only at hs
      split at hs
      · next hc =>
        cases hs
        rcases hc with hc | ⟨hc, hz⟩ | ⟨hc, hz⟩
        · exact W.zret (ty := .int) hx hb (hr.trans hc) rfl hq hS1.2.2 hdg
        · exact W.zret (ty := .boolean) hx hb (hr.trans hc) (by show Value.int (v &&& 1) = _; rw [hz]) hq hS1.2.2 hdg
        · exact W.zret (ty := .byte) hx hb (hr.trans hc) (by show Value.int v.toInt8.toInt32 = _; rw [hz]) hq hS1.2.2 hdg
      · cases hs
    · cases hs
  case areturn =>
    obtain rfl := mj_nk hn (k := 1) rfl (by decide)
    have hs : mj_rta y st = _ := hs
    unfold mj_rta at hs
    split at hs
    · next v z0 =>
      rw [hm] at hs
      dsimp only at hs
      split at hs
      · next hc =>
        cases hs
        exact W.aret (rt := .object "CourtHand$Law") hx hb (hr.trans hc) (Or.inl ⟨_, rfl⟩) (Or.inr ⟨_, rfl⟩) hq hS1.2.2 hdg
      · cases hs
    · cases hs
  case return_ =>
    obtain rfl := mj_nk hn (k := 1) rfl (by decide)
    have hs : mj_rtv y st = _ := hs
    unfold mj_rtv at hs
    split at hs
    · rw [hm] at hs
      dsimp only at hs
      split at hs
      · next hc =>
        cases hs
        exact W.vret hx hb (hr.trans hc) hq hS1.2.2 hdg
      · cases hs
    · cases hs
  all_goals (exfalso; exact mj_stp_noret hs (by intro z; cases z) (by intro z; cases z) (by intro z; cases z))
theorem mj_met (hinj : ∀ i j, i < 72 → j < 72 → ad i = ad j → i = j) : ∀ d, mj_HC l G ad cI cB sl xs d := by
  intro d
  induction d with
  | zero =>
    intro n y me as M M' r hm h10 hsk hlen hex h72 h74
    exact mj_met1 hinj (fun d' z => by omega) n y me as M M' r hm h10 hsk hlen hex h72 h74
  | succ d ih =>
    intro n y me as M M' r hm h10 hsk hlen hex h72 h74
    exact mj_met1 hinj (fun d' z => by obtain rfl : d = d' := by omega
                                       exact ih) n y me as M M' r hm h10 hsk hlen hex h72 h74
end MJE
end
